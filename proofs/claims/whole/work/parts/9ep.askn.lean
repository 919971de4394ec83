/-! ASKS: does a unit begin here (reference) -/
section BL
variable {l : Launch} {d : Nat} {ω t : Int → Int} {σ : jH} {e n p c : Int}
theorem l_bu_22 (hd : 13 ≤ d) (g : σ 189 22 = 0) (K : TKR σ t n p) (h : ¬ (tK t n p = 1 ∧ opW t n p = 0)) : Ev (l, (fun _ => 0), 0) d 0 0 m_Model_beginsUnit (RW fun z τ => z = (if tK t n p = 40 ∨ tK t n p = 34 ∨ (tK t n p = 1 ∧ opW t n p = 0) then 1 else 0) ∧ τ = σ) 22 [some (vR 189)] [] gW σ 0 0 := by
  refine jwp_sound t_Model_beginsUnit _ (b_Model_beginsUnit_22 ?_)
  simp only [RW, true_and, and_true, and_self, true_or, or_true, Nat.reduceLeDiff, Nat.reduceEqDiff, Nat.reduceAdd, Int.reduceLE, Int.reduceLT, Int.reduceEq, Int.reduceNeg, Int.reduceNe, Nat.reduceSub, reduceIte, implies_true, gt_189]
  refine cN_p (c_isSign_g (c := 40) (by omega) g K) (by omega) ?_
  by_cases a : tK t n p = 40
  · rw [if_pos a, if_pos (Or.inl a)]
    exact ⟨fun _ => ⟨rfl, rfl⟩, fun x => absurd x (by omega)⟩
  · rw [if_neg a]
    refine ⟨fun x => absurd rfl x, fun _ => ?_⟩
    refine cN_p (c_isSign_g (c := 34) (by omega) g K) (by omega) ?_
    by_cases b : tK t n p = 34
    · rw [if_pos b, if_pos (Or.inr (Or.inl b))]
      exact ⟨fun x => absurd x (by omega), fun _ => ⟨rfl, rfl⟩⟩
    · rw [if_neg b, if_neg (fun x => x.elim a (fun y => y.elim b h))]
      exact ⟨fun _ => ⟨rfl, rfl⟩, fun x => absurd rfl x⟩
theorem c_beginsUnit_g (g : σ 189 22 = 0) (T : TP2 σ t n) (K : TKR σ t n p) (hp : 0 ≤ p ∧ p ≤ n) : Cw 13 m_Model_beginsUnit [vR 189] σ (fun z τ => z = (if tK t n p = 40 ∨ tK t n p = 34 ∨ (tK t n p = 1 ∧ opW t n p = 0) then 1 else 0) ∧ τ = σ) := by
  have tr := (tK_r (t := t) (n := n) (p := p)).2
  refine Cw_of o_Model_beginsUnit rfl fun l d hd => jwp_sound t_Model_beginsUnit _ (b_Model_beginsUnit_0 ?_)
  simp only [RW, true_and, and_true, and_self, true_or, or_true, Nat.reduceLeDiff, Nat.reduceEqDiff, Nat.reduceAdd, Int.reduceLE, Int.reduceLT, Int.reduceEq, Int.reduceNeg, Int.reduceNe, Nat.reduceSub, reduceIte, implies_true, gt_189]
  refine cN_p (c_good σ) (by omega) ?_
  rw [if_pos g, K.1.2.2.2]
  refine ⟨fun x => absurd x (by omega), fun _ => ⟨fun y => l_bu_22 hd g K (fun x => y ((tokc_1 tr).mpr x.1)), fun y => ?_⟩⟩
  have q := (tokc_1 tr).mp y
  refine cN_p (c_isOp_g g T K hp) (by omega) ?_
  by_cases o : opW t n p = 0
  · rw [if_pos o, if_pos (Or.inr (Or.inr ⟨q, o⟩))]
    exact ⟨fun _ => ⟨rfl, rfl⟩, fun x => absurd rfl x⟩
  · rw [if_neg o]
    exact ⟨fun x => absurd x (by omega), fun _ => l_bu_22 hd g K (fun x => o x.2)⟩
end BL
