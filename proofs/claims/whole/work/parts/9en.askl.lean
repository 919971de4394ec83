/-! ASKS: the reference reads a row of words, whole -/
section BJ
variable {l : Launch} {d : Nat} {ω t : Int → Int} {σ : jH} {e n p c : Int}
theorem l_mw_31 {u : Int} (hd : 14 ≤ d) (A : REN σ ω e t n) (he : 0 ≤ e ∧ e ≤ 1) (hc : isRSet c) : ∀ (k i : Nat) (p : Int) (τ : jH) (S : Int → Bool), i + k = 401 → (i : Int) + 1 ≤ p → (i = 0 → tK t n p = 1) → (0 ≤ p ∧ p ≤ n) → RAF c σ τ → τ 189 22 = 0 → τ 189 23 = σ 189 23 → TKR τ t n p → τ 189 29 = u → SET τ c (wW ω e).1 S →
    Ev (l, (fun _ => 0), 0) d 0 0 m_Model_readRow (RW fun _ τ => MAS c σ τ t n (wW ω e).1 (aPh ω t e n u k i p S)) 31 [some (vR 189), some (vR c), some (vI i), none, none] [] gW τ 0 0
  | 0, i, p, τ, S, hi, ip, _, hp, F, g, g23, K, h29, V => by
    have := A.2.2.1.1
    omega
  | k + 1, i, p, τ, S, hi, ip, i0, hp, F, g, g23, K, h29, V => by
    have hcc := hc
    unfold isRSet at hcc
    have n4 := A.2.2.1.1
    have Aτ := A.of hc F
    have tr := (tK_r (t := t) (n := n) (p := p)).2
    simp only [aPh]
    refine jwp_sound t_Model_readRow _ (b_Model_readRow_31 ?_)
    simp only [RW, true_and, and_true, and_self, true_or, or_true, Nat.reduceLeDiff, Nat.reduceEqDiff, Nat.reduceAdd, Int.reduceLE, Int.reduceLT, Int.reduceEq, Int.reduceNeg, Int.reduceNe, Nat.reduceSub, reduceIte, implies_true, gt_189, gr_189_4, gt_193, gr_189_5, gt_194]
    refine cN_p (c_good τ) (by omega) ?_
    rw [if_pos g, K.1.2.2.2]
    refine ⟨fun x => absurd x (by omega), fun _ => ⟨fun y => ?_, fun y => ?_⟩⟩
    · have q : tK t n p ≠ 1 := fun x => y ((tokc_1 tr).mpr x)
      have in0 : ¬ (i : Int) = 0 := fun x => q (i0 (by omega))
      rw [if_neg q]
      refine jwp_sound t_Model_readRow _ (b_Model_readRow_134 ?_)
      simp only [RW, true_and, and_true, and_self, true_or, or_true, Nat.reduceLeDiff, Nat.reduceEqDiff, Nat.reduceAdd, Int.reduceLE, Int.reduceLT, Int.reduceEq, Int.reduceNeg, Int.reduceNe, Nat.reduceSub, reduceIte, implies_true, gt_189, gr_189_4, gt_193, gr_189_5, gt_194]
      refine ⟨fun x => absurd x in0, fun _ => ?_⟩
      refine cN_p (c_isSign_g (c := 34) (by omega) g K) (by omega) ?_
      by_cases z : tK t n p = 34
      · rw [if_pos z, if_pos z]
        refine ⟨fun _ => ?_, fun x => absurd x (by omega)⟩
        refine cN_w (c_step Aτ.2.2.1 K hp) (by omega) (fun _ υ h => ?_)
        obtain ⟨F2, K2⟩ := h
        refine ⟨F.tr F2.raf, Or.inl ⟨rfl, ?_, ?_, tN_in hp, K2, ?_, fun q' a b => ?_⟩⟩
        · rw [F2.2 22 (by omega) (by omega) (by omega) (by omega)]
          exact g
        · rw [F2.2 23 (by omega) (by omega) (by omega) (by omega)]
          exact g23
        · rw [F2.2 29 (by omega) (by omega) (by omega) (by omega)]
          exact h29
        · rw [F2.1 c (by omega)]
          exact V q' a b
      · rw [if_neg z, if_neg z]
        refine ⟨fun x => absurd rfl x, fun _ => ?_⟩
        refine cN_v (c_wrong_g 1 g K) (by omega) (fun _ => ?_)
        exact mas_wr (by omega) F
    · have q := (tokc_1 tr).mp y
      have g1 := tK_n0 hp.2 (show tK t n p ≠ 0 by omega)
      have g2 := tS_r (t := t) hp.2
      rw [if_pos q]
      refine cN_w (c_formHere_g Aτ.1 Aτ.2.1 g Aτ.2.2.1 K hp q) (by omega) (fun f ξ h => ?_)
      obtain ⟨ix, F3, K3, G3⟩ := h
      have F03 : RAF c σ ξ := F.tr ⟨fun c' a _ b => F3 c' a (by omega), fun j hj => G3 j (by omega) (by omega) (by omega) (by omega)⟩
      have V3 : SET ξ c (wW ω e).1 S := fun q' a b => by
        rw [F3 c (by omega) (by omega)]
        exact V q' a b
      refine l_mw_54 (σ := ξ) (S := S) hd (A.of hc F03) he hc ⟨by omega, by omega⟩ ix V3 (fun υ F4 V4 => ?_) (wW ω e).1.toNat 0 ξ (by have := (Aτ.1.W he).2.1; omega) (fun _ _ => rfl) (fun q' a b => by rw [if_neg (by omega)])
      have r : υ 189 = ξ 189 := F4 189 (by omega)
      have IH := l_mw_31 (u := u) hd A he hc k (i + 1) (tN t n p) υ (fun q => S q && decide (q + i < (wW ω e).1 ∧ KEY ω e (q + i) = kP ω t n p)) (by omega) (by omega) (fun x => absurd x (by omega)) (tN_in hp) (F03.tr ⟨fun c' _ _ b => F4 c' (by omega), fun j _ => by rw [r]⟩) (by rw [r, G3 22 (by omega) (by omega) (by omega) (by omega)]; exact g) (by rw [r, G3 23 (by omega) (by omega) (by omega) (by omega)]; exact g23) (by
        unfold TKR
        rw [r]
        exact K3) (by rw [r, G3 29 (by omega) (by omega) (by omega) (by omega)]; exact h29) V4
      rw [show ((i + 1 : Nat) : Int) = (i : Int) + 1 by omega] at IH
      exact IH
end BJ
