/-! ASKS: is a form of a root (reference) -/
section BM
variable {l : Launch} {d : Nat} {ω t : Int → Int} {σ : jH} {e n p c : Int}
theorem l_or_12 {r f : Int} (hd : 13 ≤ d) (R : RFR σ ω) (hal : ALP σ) (U : RLO ω) (hr : 0 ≤ r ∧ r < ω 2) (hf : 0 ≤ f ∧ f < dn ω) : ∀ (k i : Nat) (τ : jH), (i : Int) + k = ω (477 + 106 * r) → FR1 σ τ 201 → exI (wrt ω r) (dF ω f) i = false →
    Ev (l, (fun _ => 0), 0) d 0 0 m_Model_isOfRoot (RW fun z τ => z = b2i (exI (wrt ω r) (dF ω f) (ω (477 + 106 * r)).toNat) ∧ FR1 σ τ 201) 12 [some (vR 189), none, some (vI f), some (vI (477 + 106 * r)), some (vI i)] [] gW τ 0 0
  | 0, i, τ, hi, F, X => by
    have e190 : τ 190 = ω := by rw [F 190 (by omega)]; exact R.2.2.2.1
    have u3 := U.2.2.1
    refine jwp_sound t_Model_isOfRoot _ (b_Model_isOfRoot_12 ?_)
    simp only [RW, true_and, and_true, and_self, true_or, or_true, Nat.reduceLeDiff, Nat.reduceEqDiff, Nat.reduceAdd, Int.reduceLE, Int.reduceLT, Int.reduceEq, Int.reduceNeg, Int.reduceNe, Nat.reduceSub, reduceIte, implies_true, gt_189, gr_189_1, gt_190]
    rw [e190, show (ω (477 + 106 * r)).toNat = i by omega, X]
    exact ⟨by omega, by omega, fun _ => ⟨rfl, F⟩, fun x => absurd x (by omega)⟩
  | k + 1, i, τ, hi, F, X => by
    have e190 : τ 190 = ω := by rw [F 190 (by omega)]; exact R.2.2.2.1
    have u3 := U.2.2.1
    obtain ⟨c5, v⟩ := U.2.2.2.2 r hr.1 hr.2
    have v1 := (v i (by omega) (by omega)).1
    have Rτ : RFR τ ω := R.of (fun c h => F c (by omega))
    refine jwp_sound t_Model_isOfRoot _ (b_Model_isOfRoot_12 ?_)
    simp only [RW, true_and, and_true, and_self, true_or, or_true, Nat.reduceLeDiff, Nat.reduceEqDiff, Nat.reduceAdd, Int.reduceLE, Int.reduceLT, Int.reduceEq, Int.reduceNeg, Int.reduceNe, Nat.reduceSub, reduceIte, implies_true, gt_189, gr_189_1, gt_190]
    rw [e190, w32_of (x := 477 + 106 * r + 1) (by omega) (by omega), w32_of (x := 21 * (i : Int)) (by omega) (by omega), w32_of (x := 477 + 106 * r + 1 + 21 * (i : Int)) (by omega) (by omega), w32_of (x := (i : Int) + 1) (by omega) (by omega), show 477 + 106 * r + 1 + 21 * (i : Int) = 478 + 106 * r + 21 * i by omega]
    refine ⟨by omega, by omega, fun x => absurd x (by omega), fun _ => ?_⟩
    refine cN_w (c_ruledForm Rτ (fun x a b => by rw [F 200 (by omega)]; exact hal x a b) v1 (by omega) (by omega)) (by omega) (fun z ξ h => ?_)
    obtain ⟨ix, F2⟩ := h
    have iff : z = f ↔ wrt ω r i = dF ω f := by
      have e1 : wrt ω r i = km (fo ω) (rk ω (478 + 106 * r + 21 * i)) := rfl
      rw [e1]
      rcases ix with ⟨a, b⟩ | ⟨a, b, c⟩
      · constructor
        · intro x
          omega
        · intro x
          exact absurd x.symm (b f hf.1 hf.2)
      · rw [← c]
        constructor
        · intro x
          rw [x]
        · intro x
          have inj : ∀ a b, 0 ≤ a → a < b → b < dn ω → dF ω a < dF ω b := fun a b x y z => R.2.1.2.1 a b x y z
          rcases Int.lt_trichotomy z f with y | y | y
          · have := inj _ _ a y hf.2
            omega
          · exact y
          · have := inj _ _ hf.1 y b
            omega
    refine ⟨fun y => ?_, fun y => ?_⟩
    · have IH := l_or_12 hd R hal U hr hf k (i + 1) ξ (by omega) (F.tr F2) (by
        simp only [exI]
        rw [X, decide_eq_false (fun x => y (iff.mpr x))]
        rfl)
      rw [show ((i + 1 : Nat) : Int) = (i : Int) + 1 by omega] at IH
      exact IH
    · have z1 : exI (wrt ω r) (dF ω f) (ω (477 + 106 * r)).toNat = true := exI_iff.mpr ⟨i, by omega, by omega, iff.mp y⟩
      rw [z1]
      first | exact ⟨Or.inr rfl, rfl, F.tr F2⟩ | exact ⟨rfl, F.tr F2⟩
theorem c_Model_isOfRoot {r f : Int} (R : RFR σ ω) (hal : ALP σ) (U : RLO ω) (hr : 0 ≤ r ∧ r < ω 2) (hf : 0 ≤ f ∧ f < dn ω) : Cw 13 m_Model_isOfRoot [vR 189, vI r, vI f] σ (fun z τ => z = b2i (exI (wrt ω r) (dF ω f) (ω (477 + 106 * r)).toNat) ∧ FR1 σ τ 201) := by
  have u3 := U.2.2.1
  have c5 := (U.2.2.2.2 r hr.1 hr.2).1
  refine Cw_of o_Model_isOfRoot rfl fun l d hd => jwp_sound t_Model_isOfRoot _ (b_Model_isOfRoot_0 ?_)
  rw [w32_of (x := 106 * r) (by omega) (by omega), w32_of (x := 477 + 106 * r) (by omega) (by omega)]
  exact l_or_12 hd R hal U hr hf (ω (477 + 106 * r)).toNat 0 σ (by omega) (fun _ _ => rfl) rfl
end BM
