/-! ASKS: the reference reads a root's name, whole -/
section BQ
variable {l : Launch} {d : Nat} {ω t : Int → Int} {σ : jH} {e n p c : Int}
theorem c_mreadRootWord {u : Int} (A : REN σ ω e t n) (U : RLO ω) (he : 0 ≤ e ∧ e ≤ 1) (hc : isRSet c) (g : σ 189 22 = 0) (K : TKR σ t n p) (hp : 0 ≤ p ∧ p ≤ n) (h29 : σ 189 29 = u) : Cw 14 m_Model_readRootWord [vR 189, vR c] σ (fun _ τ => MAS c σ τ t n (wW ω e).1 (if fwB t n (tN t n p) = false then aBD 1 (tS t n (tN t n p)) else aOK (tN t n (tN t n p)) u (rS ω e (kP ω t n (tN t n p))))) := by
  have hcc := hc
  unfold isRSet at hcc
  have p1 := tN_in (t := t) hp
  have p2 := tN_in (t := t) p1
  have tr1 := (tK_r (t := t) (n := n) (p := tN t n p)).2
  have w := A.1.W he
  refine Cw_of o_Model_readRootWord rfl fun l d hd => jwp_sound t_Model_readRootWord _ (b_Model_readRootWord_0 ?_)
  simp only [RW, true_and, and_true, and_self, true_or, or_true, Nat.reduceLeDiff, Nat.reduceEqDiff, Nat.reduceAdd, Int.reduceLE, Int.reduceLT, Int.reduceEq, Int.reduceNeg, Int.reduceNe, Nat.reduceSub, reduceIte, implies_true, gt_189, gr_189_1, gt_190, gr_189_31, gt_218, gr_189_4, gt_193, gr_189_5, gt_194]
  refine cN_w (c_step A.2.2.1 K hp) (by omega) (fun _ τ h => ?_)
  obtain ⟨F1, K1⟩ := h
  have g1 : τ 189 22 = 0 := by rw [F1.2 22 (by omega) (by omega) (by omega) (by omega)]; exact g
  have A1 := A.of hc F1.raf
  have bad : fwB t n (tN t n p) = false → ∀ τ' : jH, τ' = WR τ 1 (tS t n (tN t n p)) → MAS c σ τ' t n (wW ω e).1 (if fwB t n (tN t n p) = false then aBD 1 (tS t n (tN t n p)) else aOK (tN t n (tN t n p)) u (rS ω e (kP ω t n (tN t n p)))) := fun h τ' e' => by
    rw [if_pos h, e']
    exact mas_wr (by omega) F1.raf
  have wb0 : WR τ 1 (tS t n (tN t n p)) 189 22 ≠ 0 := by rw [wr_22]; omega
  have nfw : ¬ (tK t n (tN t n p) = 1 ∧ opW t n (tN t n p) = 0 ∧ tI t n (tN t n p) (jtb 3) = false) → fwB t n (tN t n p) = false := fun h => by
    cases z : fwB t n (tN t n p) with
    | false => rfl
    | true => exact absurd (fwB_iff.mp z) h
  refine cN_p (c_isOp_g g1 A1.2.2.1 K1 p1) (by omega) ?_
  by_cases o : opW t n (tN t n p) = 0
  · rw [if_pos o]
    refine ⟨fun x => absurd rfl x, fun _ => ?_⟩
    refine cN_p (c_mis_g (w := 3) (by decide) g1 A1.2.2.1 K1 p1) (by omega) ?_
    cases h3 : tI t n (tN t n p) (jtb 3) with
    | true =>
      refine ⟨fun x => absurd x (by decide), fun _ => ?_⟩
      refine cN_v (c_wrong_g 1 g1 K1) (by omega) (fun _ => ?_)
      exact l_rr_26b hd wb0 (bad (nfw (fun x => by rw [h3] at x; exact absurd x.2.2 (by decide))) _ rfl)
    | false =>
      refine ⟨fun _ => ?_, fun x => absurd rfl x⟩
      refine jwp_sound t_Model_readRootWord _ (b_Model_readRootWord_26 ?_)
      simp only [RW, true_and, and_true, and_self, true_or, or_true, Nat.reduceLeDiff, Nat.reduceEqDiff, Nat.reduceAdd, Int.reduceLE, Int.reduceLT, Int.reduceEq, Int.reduceNeg, Int.reduceNe, Nat.reduceSub, reduceIte, implies_true, gt_189, gr_189_1, gt_190, gr_189_31, gt_218, gr_189_4, gt_193, gr_189_5, gt_194]
      rw [K1.1.2.2.2]
      refine ⟨fun y => ?_, fun y => ?_⟩
      · have q := (tokc_1 tr1).mp y
        have fw : fwB t n (tN t n p) = true := fwB_iff.mpr ⟨q, o, h3⟩
        have wd := wrd_at (ρ := τ 218) (A := 0) p1 q
        refine jwp_sound t_Model_readRootWord _ (b_Model_readRootWord_39 ?_)
        simp only [RW, true_and, and_true, and_self, true_or, or_true, Nat.reduceLeDiff, Nat.reduceEqDiff, Nat.reduceAdd, Int.reduceLE, Int.reduceLT, Int.reduceEq, Int.reduceNeg, Int.reduceNe, Nat.reduceSub, reduceIte, implies_true, gt_189, gr_189_1, gt_190, gr_189_31, gt_218, gr_189_4, gt_193, gr_189_5, gt_194]
        refine cN_p (c_good τ) (by omega) ?_
        rw [if_pos g1]
        refine ⟨fun _ => ?_, fun x => absurd x (by omega)⟩
        refine cN_w (c_wordTo_g (X := 218) (k := 0) gt_218 (by omega) ⟨by omega, by omega⟩ (by omega) (by omega) g1 A1.2.2.1 K1 p1) (by omega) (fun _ υ h => ?_)
        rcases h with ⟨_, ew, K2, F2, G2⟩ | ⟨x, _⟩
        · have F02 : RAF c σ υ := RAF.tr F1.raf ⟨fun c' a _ b => F2 c' a (by omega), fun j hj => G2 j (by omega) (by omega) (by omega) (by omega)⟩
          have A2 := A.of hc F02
          have w1 := wd.1.1
          refine l_rr_58 (σ := υ) (ρ := wrd (τ 218) 0 t n (tN t n p)) hd A2.1 U wd.1 (fun ξ F3 V3 k3 => ?_) (wrd (τ 218) 0 t n (tN t n p) 0).toNat 1 υ (by omega) (by omega) (fun _ _ => rfl) (fun j => by rw [if_neg (by omega), ew])
          rw [wd.2.1] at k3
          have F03 : RAF c σ ξ := F02.tr ⟨fun c' _ _ b => F3 c' (by omega), fun j _ => by rw [F3 189 (by omega)]⟩
          have A3 := A.of hc F03
          have u3 := U.2.2.1
          refine l_rr_101 (σ := ξ) hd A3.1 U V3 k3 ?_ (ω 2).toNat (-1) (ω 2 - 1) (by omega) (by omega) (Or.inl ⟨rfl, fun i a b => by omega⟩)
          have nr : nameI ω (kP ω t n (tN t n p)) = -1 ∨ (0 ≤ nameI ω (kP ω t n (tN t n p)) ∧ nameI ω (kP ω t n (tN t n p)) < ω 2) := by
            have : nameI ω (kP ω t n (tN t n p)) = -1 ∨ (0 ≤ nameI ω (kP ω t n (tN t n p)) ∧ nameI ω (kP ω t n (tN t n p)) < (ω 2).toNat) := fsB_r _
            omega
          refine l_rr_136 (S := rS ω e (kP ω t n (tN t n p))) hd A3 U he hc nr (fun q' a b => ?_) (fun χ F4 V4 => ?_) (wW ω e).1.toNat 0 ξ (by omega) (fun _ _ _ => rfl) (fun q' a b => by omega)
          · by_cases z : nameI ω (kP ω t n (tN t n p)) = -1
            · unfold rS
              rw [decide_eq_false (show ¬ nameI ω (kP ω t n (tN t n p)) ≠ -1 from fun x => x z), Bool.false_and, Bool.false_and]
            · rw [rS_is U z, decide_eq_true (show nameI ω (kP ω t n (tN t n p)) ≠ -1 from z), Bool.true_and]
          · rw [if_neg (by rw [fw]; decide)]
            have r : χ 189 = ξ 189 := F4 189 (by omega) (by omega)
            have r2 : ∀ j, j ≠ 18 → j ≠ 19 → j ≠ 20 → j ≠ 21 → χ 189 j = σ 189 j := fun j a b f g' => by rw [r, F3 189 (by omega), G2 j a b f g', F1.2 j a b f g']
            refine ⟨F03.tr ⟨fun c' a b f => F4 c' (by omega) b, fun j _ => by rw [r]⟩, Or.inl ⟨rfl, ?_, ?_, p2, ?_, ?_, V4⟩⟩
            · rw [r2 22 (by omega) (by omega) (by omega) (by omega)]
              exact g
            · rw [r2 23 (by omega) (by omega) (by omega) (by omega)]
            · show TKR χ t n (tN t n (tN t n p))
              unfold TKR
              rw [r, F3 189 (by omega)]
              exact K2
            · rw [r2 29 (by omega) (by omega) (by omega) (by omega)]
              exact h29
        · exact absurd q x
      · refine cN_v (c_wrong_g 1 g1 K1) (by omega) (fun _ => ?_)
        exact l_rr_39b hd wb0 (bad (nfw (fun x => y ((tokc_1 tr1).mpr x.1))) _ rfl)
  · rw [if_neg o]
    refine ⟨fun _ => ?_, fun x => absurd x (by omega)⟩
    refine cN_v (c_wrong_g 1 g1 K1) (by omega) (fun _ => ?_)
    exact l_rr_26b hd wb0 (bad (nfw (fun x => o x.2.1)) _ rfl)
end BQ
