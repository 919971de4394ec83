/-! RULES are read: the reference, FOLD and ROOT -/
section RF
variable {l : Launch} {d : Nat} {t : Int → Int} {σ : jH} {n p : Int} {ρ : Int → Int} {ho : Bool}
theorem l_mrf_35b {P : Int → jH → Prop} {τ : jH} {x : Int} (hd : 14 ≤ d) (b : τ 189 22 ≠ 0) (h : P 0 τ) : Ev (l, (fun _ => 0), 0) d 0 0 m_Model_readFold (RW P) 35 [some (vR 189), some (vI x), none] [] gW τ 0 0 := by
  refine jwp_sound t_Model_readFold _ (b_Model_readFold_35 ?_)
  simp only [RW, true_and, and_true, and_self, true_or, or_true, Nat.reduceLeDiff, Nat.reduceEqDiff, Nat.reduceAdd, Int.reduceLE, Int.reduceLT, Int.reduceEq, Int.reduceNeg, Int.reduceNe, Nat.reduceSub, reduceIte, implies_true, gt_189, gr_189_24, gt_204]
  refine cN_p (c_good τ) (by omega) ?_
  rw [if_neg b]
  exact ⟨fun x => absurd rfl x, fun _ => h⟩
theorem l_mrf_69b {P : Int → jH → Prop} {τ : jH} {x y : Int} (hd : 14 ≤ d) (b : τ 189 22 ≠ 0) (h : P 0 τ) : Ev (l, (fun _ => 0), 0) d 0 0 m_Model_readFold (RW P) 69 [some (vR 189), some (vI x), some (vI y)] [] gW τ 0 0 := by
  refine jwp_sound t_Model_readFold _ (b_Model_readFold_69 ?_)
  simp only [RW, true_and, and_true, and_self, true_or, or_true, Nat.reduceLeDiff, Nat.reduceEqDiff, Nat.reduceAdd, Int.reduceLE, Int.reduceLT, Int.reduceEq, Int.reduceNeg, Int.reduceNe, Nat.reduceSub, reduceIte, implies_true, gt_189, gr_189_24, gt_204]
  refine cN_p (c_good τ) (by omega) ?_
  rw [if_neg b]
  exact ⟨fun x => absurd rfl x, fun _ => h⟩
theorem c_mreadFold (g : σ 189 22 = 0) (T : TP2 σ t n) (K : TKR σ t n p) (hp : 0 ≤ p ∧ p ≤ n) (E : EQR (σ 204) ρ) (h25 : σ 189 25 = b2i ho) : Cw 14 m_Model_readFold [vR 189] σ (fun _ τ => MRS σ τ t n (rFold t n p ρ ho)) := by
  have p2 := tN_in (t := t) hp
  have p3 := tN_in (t := t) p2
  have p4 := tN_in (t := t) p3
  refine Cw_of o_Model_readFold rfl fun l d hd => jwp_sound t_Model_readFold _ (b_Model_readFold_0 ?_)
  simp only [RW, true_and, and_true, and_self, true_or, or_true, Nat.reduceLeDiff, Nat.reduceEqDiff, Nat.reduceAdd, Int.reduceLE, Int.reduceLT, Int.reduceEq, Int.reduceNeg, Int.reduceNe, Nat.reduceSub, reduceIte, implies_true, gt_189, gr_189_24, gt_204]
  refine cN_p (c_letterHere_g g T K hp) (by omega) ?_
  unfold rFold
  by_cases a1 : tL t n p = -1
  · rw [if_pos a1, a1]
    refine ⟨fun x => absurd rfl x, fun _ => ?_⟩
    refine cN_v (c_wrong_g 1 g K) (by omega) (fun _ => ?_)
    exact l_mrf_35b hd (by rw [wr_22]; omega) (mrs_wr (by omega))
  · have lr := tL_r a1
    rw [if_neg a1]
    refine ⟨fun _ => ?_, fun x => absurd x a1⟩
    rw [w32_of (x := 5 + tL t n p) (by omega) (by omega), E _ (by omega) (by omega) (by omega) (by omega)]
    refine ⟨by omega, by omega, fun a2 => ?_, fun a2 => ?_⟩
    · rw [if_neg (fun x => x a2)]
      refine jwp_sound t_Model_readFold _ (b_Model_readFold_35 ?_)
      simp only [RW, true_and, and_true, and_self, true_or, or_true, Nat.reduceLeDiff, Nat.reduceEqDiff, Nat.reduceAdd, Int.reduceLE, Int.reduceLT, Int.reduceEq, Int.reduceNeg, Int.reduceNe, Nat.reduceSub, reduceIte, implies_true, gt_189, gr_189_24, gt_204]
      refine cN_p (c_good σ) (by omega) ?_
      rw [if_pos g]
      refine ⟨fun _ => ?_, fun x => absurd x (by omega)⟩
      refine cN_w (c_step T K hp) (by omega) (fun _ τ2 h2 => ?_)
      obtain ⟨F2, K2⟩ := h2
      have T2 := T.of F2
      have g2 : τ2 189 22 = 0 := by rw [F2.2 22 (by omega) (by omega) (by omega) (by omega)]; exact g
      refine cN_w (c_needs_g (w := 1) (by decide) g2 T2 K2 p2) (by omega) (fun _ τ3 h3 => ?_)
      rcases h3 with ⟨a3, F3, K3⟩ | ⟨a3, rfl⟩
      · rw [a3, if_neg (by decide)]
        have T3 := T2.of F3
        have g3 : τ3 189 22 = 0 := by rw [F3.2 22 (by omega) (by omega) (by omega) (by omega)]; exact g2
        have F13 := F2.fmr.tr F3.fmr
        have h23 : τ3 189 23 = σ 189 23 := by rw [F3.2 23 (by omega) (by omega) (by omega) (by omega), F2.2 23 (by omega) (by omega) (by omega) (by omega)]
        refine cN_p (c_letterHere_g g3 T3 K3 p3) (by omega) ?_
        by_cases a4 : tL t n (tN t n (tN t n p)) = -1
        · rw [if_pos a4, a4]
          refine ⟨fun x => absurd rfl x, fun _ => ?_⟩
          refine cN_v (c_wrong_g 1 g3 K3) (by omega) (fun _ => ?_)
          exact l_mrf_69b hd (by rw [wr_22]; omega) (MRS.pre F13 h23 (mrs_wr (by omega)))
        · rw [if_neg a4]
          refine ⟨fun _ => ?_, fun x => absurd x a4⟩
          refine jwp_sound t_Model_readFold _ (b_Model_readFold_69 ?_)
          simp only [RW, true_and, and_true, and_self, true_or, or_true, Nat.reduceLeDiff, Nat.reduceEqDiff, Nat.reduceAdd, Int.reduceLE, Int.reduceLT, Int.reduceEq, Int.reduceNeg, Int.reduceNe, Nat.reduceSub, reduceIte, implies_true, gt_189, gr_189_24, gt_204]
          refine cN_p (c_good τ3) (by omega) ?_
          rw [if_pos g3, w32_of (x := 5 + tL t n p) (by omega) (by omega)]
          refine ⟨fun _ => ⟨by omega, by omega, ?_⟩, fun x => absurd x (by omega)⟩
          generalize hχ : ju τ3 204 (5 + tL t n p) (tL t n (tN t n (tN t n p))) = χ
          have r : ∀ c, c ≠ 204 → χ c = τ3 c := fun c hc => by rw [← hχ, ju_row hc]
          have K4 : TKR χ t n (tN t n (tN t n p)) := by
            unfold TKR
            rw [r 189 (by omega)]
            exact K3
          have T4 : TP2 χ t n := by
            unfold TP2
            rw [r 202 (by omega)]
            exact T3
          refine cN_w (c_step T4 K4 p3) (by omega) (fun _ υ h => ?_)
          obtain ⟨F5, K5⟩ := h
          have Fχ : FMR τ3 χ := ⟨fun c _ b => r c b, fun j _ => by rw [r 189 (by omega)]⟩
          refine ⟨F13.tr (Fχ.tr F5.fmr), Or.inl ⟨rfl, ?_, ?_, p4, K5, ?_, ?_⟩⟩
          · rw [F5.2 22 (by omega) (by omega) (by omega) (by omega), r 189 (by omega)]
            exact g3
          · rw [F5.2 23 (by omega) (by omega) (by omega) (by omega), r 189 (by omega)]
            exact h23
          · rw [F5.1 204 (by omega), ← hχ, ju_upr, F3.1 204 (by omega), F2.1 204 (by omega)]
            exact E.upd
          · rw [F5.2 25 (by omega) (by omega) (by omega) (by omega), r 189 (by omega), F3.2 25 (by omega) (by omega) (by omega) (by omega), F2.2 25 (by omega) (by omega) (by omega) (by omega)]
            exact h25
      · rw [a3, if_pos rfl]
        have b : WR τ2 1 (tS t n (tN t n p)) 189 22 ≠ 0 := by rw [wr_22]; omega
        refine cN_p (c_letterHere_b b) (by omega) ?_
        refine ⟨fun x => absurd rfl x, fun _ => ?_⟩
        refine cN_v (c_wrong_b 1 b) (by omega) (fun _ => ?_)
        exact l_mrf_69b hd b (MRS.pre F2.fmr (F2.2 23 (by omega) (by omega) (by omega) (by omega)) (mrs_wr (by omega)))
    · rw [if_pos a2]
      refine cN_v (c_wrong_g 2 g K) (by omega) (fun _ => ?_)
      exact l_mrf_35b hd (by rw [wr_22]; omega) (mrs_wr (by omega))
end RF
