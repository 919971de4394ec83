/-! ASKS: is a root's name told (reference) -/
section BN
variable {l : Launch} {d : Nat} {ω t : Int → Int} {σ : jH} {e n p c : Int}
/-- the first k letters are the same, folded -/
def tlB (ω f : Int → Int) (k : Int) : Nat → Bool
  | 0 => true
  | i + 1 => tlB ω f k i && decide (fo ω (ω (k + ((i : Int) + 1))) = f ((i : Int) + 1))
def tlA (ω f : Int → Int) (k : Int) (i : Nat) : Bool := decide (ω k = f 0) && tlB ω f k i
theorem tlB_f {ω f : Int → Int} {k : Int} {i : Nat} (h : tlB ω f k i = false) : ∀ m : Nat, tlB ω f k (i + m) = false
  | 0 => h
  | m + 1 => by
    show (tlB ω f k (i + m) && _) = false
    rw [tlB_f h m, Bool.false_and]
theorem l_it_23 {k : Int} (hd : 11 ≤ d) (h190 : σ 190 = ω) (V : RV ω k) (k0 : 0 ≤ k) (k1 : k + 20 < 32677) : ∀ (m i : Nat), (i : Int) + m = ω k →
    Ev (l, (fun _ => 0), 0) d 0 0 m_Model_isTold (RW fun z τ => z = b2i (tlA ω (σ 218) k (ω k).toNat) ∧ τ = σ) 23 [some (vR 189), some (vI k), some (vI (b2i (tlA ω (σ 218) k i))), some (vI ((i : Int) + 1))] [] gW σ 0 0
  | 0, i, hi => by
    refine jwp_sound t_Model_isTold _ (b_Model_isTold_23 ?_)
    simp only [RW, true_and, and_true, and_self, true_or, or_true, Nat.reduceLeDiff, Nat.reduceEqDiff, Nat.reduceAdd, Int.reduceLE, Int.reduceLT, Int.reduceEq, Int.reduceNeg, Int.reduceNe, Nat.reduceSub, reduceIte, implies_true, gt_189, gr_189_1, gt_190, gr_189_31, gt_218]
    rw [h190, show (ω k).toNat = i by omega]
    have zz : b2i (tlA ω (σ 218) k i) = 0 ∨ b2i (tlA ω (σ 218) k i) = 1 := by
      cases tlA ω (σ 218) k i <;> decide
    exact ⟨by omega, by omega, fun _ => ⟨zz, rfl⟩, fun x => absurd x (by omega)⟩
  | m + 1, i, hi => by
    have v := V.2.2 i (by omega) (by omega)
    rw [show k + 1 + (i : Int) = k + ((i : Int) + 1) by omega] at v
    have v2 := V.2.1
    have IH := l_it_23 hd h190 V k0 k1 m (i + 1) (by omega)
    rw [show ((i + 1 : Nat) : Int) = (i : Int) + 1 by omega] at IH
    refine jwp_sound t_Model_isTold _ (b_Model_isTold_23 ?_)
    simp only [RW, true_and, and_true, and_self, true_or, or_true, Nat.reduceLeDiff, Nat.reduceEqDiff, Nat.reduceAdd, Int.reduceLE, Int.reduceLT, Int.reduceEq, Int.reduceNeg, Int.reduceNe, Nat.reduceSub, reduceIte, implies_true, gt_189, gr_189_1, gt_190, gr_189_31, gt_218]
    rw [h190, w32_of (x := k + ((i : Int) + 1)) (by omega) (by omega), w32_of (x := (i : Int) + 1 + 1) (by omega) (by omega)]
    cases g : tlA ω (σ 218) k i with
    | false =>
      have all : tlA ω (σ 218) k (ω k).toNat = false := by
        unfold tlA at g ⊢
        rcases Bool.and_eq_false_iff.mp g with a | a
        · rw [a, Bool.false_and]
        · have := tlB_f a (m + 1)
          rw [show i + (m + 1) = (ω k).toNat by omega] at this
          rw [this, Bool.and_false]
      rw [all]
      exact ⟨by omega, by omega, fun x => absurd x (by omega), fun _ => ⟨fun _ => ⟨Or.inl rfl, rfl⟩, fun x => absurd rfl x⟩⟩
    | true =>
      refine ⟨by omega, by omega, fun x => absurd x (by omega), fun _ => ⟨fun x => absurd x (by decide), fun _ => ⟨by omega, by omega, ?_⟩⟩⟩
      refine cN_p (c_Model_folded σ v.1 v.2) (by omega) ?_
      rw [h190]
      have nx : tlA ω (σ 218) k (i + 1) = decide (fo ω (ω (k + ((i : Int) + 1))) = σ 218 ((i : Int) + 1)) := by
        unfold tlA at g ⊢
        show (decide (ω k = σ 218 0) && (tlB ω (σ 218) k i && _)) = _
        rw [← Bool.and_assoc, g, Bool.true_and]
      rw [nx] at IH
      refine ⟨by omega, by omega, fun y => ?_, fun y => ?_⟩
      · rw [decide_eq_false y] at IH
        exact IH
      · rw [decide_eq_true y] at IH
        exact IH
end BN
