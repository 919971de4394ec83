/-! ASKS: the reference reads units, and what follows them -/
section BS
variable {l : Launch} {d : Nat} {ω t : Int → Int} {σ : jH} {e n p c : Int}
theorem l_mra_6b {P : Int → jH → Prop} {τ : jH} {L a : Int} (hd : 25 ≤ d) (b : τ 189 22 ≠ 0) (h : P 0 τ) : Ev (l, (fun _ => 0), 0) d 0 0 m_Model_readAsk (RW P) 6 [some (vR 189), some (vI L), some (vI a), none, none] [] gW τ 0 0 := by
  refine jwp_sound t_Model_readAsk _ (b_Model_readAsk_6 ?_)
  simp only [RW, true_and, and_true, and_self, true_or, or_true, Nat.reduceLeDiff, Nat.reduceEqDiff, Nat.reduceAdd, Int.reduceLE, Int.reduceLT, Int.reduceEq, Int.reduceNeg, Int.reduceNe, Nat.reduceSub, reduceIte, implies_true, gt_189, gr_189_28, gt_207]
  refine cN_p (c_isOp_b b) (by omega) ?_
  exact ⟨fun _ => h, fun x => absurd rfl x⟩
theorem l_mra_98b {P : Int → jH → Prop} {τ : jH} {L a x y : Int} (hd : 25 ≤ d) (b : τ 189 22 ≠ 0) (h : P 0 τ) : Ev (l, (fun _ => 0), 0) d 0 0 m_Model_readAsk (RW P) 98 [some (vR 189), some (vI L), some (vI a), some (vI x), some (vI y)] [] gW τ 0 0 := by
  refine jwp_sound t_Model_readAsk _ (b_Model_readAsk_98 ?_)
  simp only [RW, true_and, and_true, and_self, true_or, or_true, Nat.reduceLeDiff, Nat.reduceEqDiff, Nat.reduceAdd, Int.reduceLE, Int.reduceLT, Int.reduceEq, Int.reduceNeg, Int.reduceNe, Nat.reduceSub, reduceIte, implies_true, gt_189, gr_189_28, gt_207]
  refine cN_p (c_good _) (by omega) ?_
  rw [if_neg b]
  exact ⟨fun _ => l_mra_6b hd b h, fun x => absurd rfl x⟩
theorem l_mra_83b {P : Int → jH → Prop} {τ : jH} {L a x y : Int} (hd : 25 ≤ d) (b : τ 189 22 ≠ 0) (h : P 0 τ) : Ev (l, (fun _ => 0), 0) d 0 0 m_Model_readAsk (RW P) 83 [some (vR 189), some (vI L), some (vI a), some (vI x), some (vI y)] [] gW τ 0 0 := by
  refine jwp_sound t_Model_readAsk _ (b_Model_readAsk_83 ?_)
  simp only [RW, true_and, and_true, and_self, true_or, or_true, Nat.reduceLeDiff, Nat.reduceEqDiff, Nat.reduceAdd, Int.reduceLE, Int.reduceLT, Int.reduceEq, Int.reduceNeg, Int.reduceNe, Nat.reduceSub, reduceIte, implies_true, gt_189, gr_189_28, gt_207]
  refine cN_p (c_good _) (by omega) ?_
  rw [if_neg b]
  exact ⟨fun _ => l_mra_98b hd b h, fun x => absurd rfl x⟩
theorem l_mra_66b {P : Int → jH → Prop} {τ : jH} {L a x : Int} (hd : 25 ≤ d) (b : τ 189 22 ≠ 0) (h : P 0 τ) : Ev (l, (fun _ => 0), 0) d 0 0 m_Model_readAsk (RW P) 66 [some (vR 189), some (vI L), some (vI a), some (vI x), none] [] gW τ 0 0 := by
  refine jwp_sound t_Model_readAsk _ (b_Model_readAsk_66 ?_)
  simp only [RW, true_and, and_true, and_self, true_or, or_true, Nat.reduceLeDiff, Nat.reduceEqDiff, Nat.reduceAdd, Int.reduceLE, Int.reduceLT, Int.reduceEq, Int.reduceNeg, Int.reduceNe, Nat.reduceSub, reduceIte, implies_true, gt_189, gr_189_28, gt_207]
  refine cN_p (c_good _) (by omega) ?_
  rw [if_neg b]
  exact ⟨fun _ => l_mra_83b hd b h, fun x => absurd rfl x⟩
theorem l_mra_6 {L a : Nat} (hL : L ≤ 6) (ha : a ≤ L) (hd : dpU L + 1 ≤ d) (he : 0 ≤ e ∧ e ≤ 1) (A : REN σ ω e t n) : ∀ (k : Nat), (∀ j, j ≤ k → PUR ω t e n j) → ∀ (p u : Int) (τ : jH) (S : Int → Bool), 1 ≤ u → u ≤ 30 → 32 ≤ (k : Int) + u → (0 ≤ p ∧ p ≤ n) → RAF (208 + (a : Int)) σ τ → TKR τ t n p → (τ 189 29 = u ∧ τ 189 22 = 0 ∧ τ 189 23 = σ 189 23) → SET τ (208 + (a : Int)) (wW ω e).1 S →
    Ev (l, (fun _ => 0), 0) d 0 0 m_Model_readAsk (RW fun _ τ => MAS (208 + (a : Int)) σ τ t n (wW ω e).1 (aX ω t e n k true L p u S)) 6 [some (vR 189), some (vI L), some (vI a), none, none] [] gW τ 0 0 := by
  intro k
  induction k with
  | zero =>
    intro _ p u τ S h1 h2 h3
    omega
  | succ k ih =>
    intro H p u τ S h1 h2 h3 hp F K G V
    have hcl : isRSet (208 + (a : Int)) := by
      unfold isRSet
      omega
    have hcr : isRSet (208 + ((a : Int) + 1)) := by
      unfold isRSet
      omega
    have ga := gr_rl (a := a) (by omega)
    have ga1 := gr_rl (a := a + 1) (by omega)
    rw [show ((a + 1 : Nat) : Int) = (a : Int) + 1 by omega] at ga1
    have Aτ := A.of hcl F
    have dL : 25 ≤ dpU L := by
      unfold dpU
      omega
    have p1 := tN_in (t := t) hp
    have p2 := tN_in (t := t) p1
    have orr := opW_r t n p
    -- the unit behind the operator
    have N83 : ∀ (q m : Int) (υ : jH), (0 ≤ q ∧ q ≤ n) → (0 ≤ m ∧ m ≤ 50) → opW t n p ≠ 0 → RAF (208 + (a : Int)) σ υ → TKR υ t n q → (υ 189 29 = u ∧ υ 189 22 = 0 ∧ υ 189 23 = σ 189 23) → SET υ (208 + (a : Int)) (wW ω e).1 S → aX ω t e n (k + 1) true L p u S = (if (aX ω t e n k false L q u (fun _ => false)).1 ≠ 0 then aX ω t e n k false L q u (fun _ => false) else aX ω t e n k true L (aX ω t e n k false L q u (fun _ => false)).2.2.1 (aX ω t e n k false L q u (fun _ => false)).2.2.2.1 (joS (wW ω e).1 (wW ω e).2.2.1 (opW t n p) m S (aX ω t e n k false L q u (fun _ => false)).2.2.2.2)) → Ev (l, (fun _ => 0), 0) d 0 0 m_Model_readAsk (RW fun _ τ => MAS (208 + (a : Int)) σ τ t n (wW ω e).1 (aX ω t e n (k + 1) true L p u S)) 83 [some (vR 189), some (vI L), some (vI a), some (vI (opW t n p - 1)), some (vI m)] [] gW υ 0 0 := fun q m υ hq hm ho F2 K2 G2 V2 eq => by
      have iu := aX_u (ω := ω) (t := t) (e := e) (n := n) k false L q u (fun _ => false) h2
      rw [if_neg Bool.false_ne_true] at iu
      refine jwp_sound t_Model_readAsk _ (b_Model_readAsk_83 ?_)
      simp only [RW, true_and, and_true, and_self, true_or, or_true, Nat.reduceLeDiff, Nat.reduceEqDiff, Nat.reduceAdd, Int.reduceLE, Int.reduceLT, Int.reduceEq, Int.reduceNeg, Int.reduceNe, Nat.reduceSub, reduceIte, implies_true, gt_189, gr_189_28, gt_207]
      refine cN_p (c_good _) (by omega) ?_
      rw [if_pos G2.2.1, w32_of (x := (a : Int) + 1) (by omega) (by omega)]
      refine ⟨fun x => absurd x (by omega), fun _ => ?_⟩
      have go := H k (by omega) L (a + 1) q υ u hL (by omega) (A.of hcl F2) K2 hq G2.2.1 G2.1 ⟨by omega, h2⟩ (by omega)
      rw [show ((a + 1 : Nat) : Int) = (a : Int) + 1 by omega] at go
      refine cN_w go (by omega) (fun _ ξ h => ?_)
      rw [eq]
      generalize aX ω t e n k false L q u (fun _ => false) = R at *
      obtain ⟨F3, h⟩ := h
      have F23 := F2.tr (F3.up (b := 208 + (a : Int)) (by omega))
      rcases h with ⟨r1, g3, h23, r3, K3, h29, V3⟩ | ⟨r1, e22, e23⟩
      · rw [if_neg (fun x => x r1)]
        have Aξ := A.of hcl F23
        have V4 : SET ξ (208 + (a : Int)) (wW ω e).1 S := fun q' x y => by
          rw [F3.1 (208 + (a : Int)) (by omega) (by omega) (by omega)]
          exact V2 q' x y
        refine jwp_sound t_Model_readAsk _ (b_Model_readAsk_98 ?_)
        simp only [RW, true_and, and_true, and_self, true_or, or_true, Nat.reduceLeDiff, Nat.reduceEqDiff, Nat.reduceAdd, Int.reduceLE, Int.reduceLT, Int.reduceEq, Int.reduceNeg, Int.reduceNe, Nat.reduceSub, reduceIte, implies_true, gt_189, gr_189_28, gt_207]
        refine cN_p (c_good _) (by omega) ?_
        rw [if_pos g3, w32_of (x := (a : Int) + 1) (by omega) (by omega), ga, ga1]
        refine ⟨fun x => absurd x (by omega), fun _ => ⟨by omega, by omega, by omega, by omega, ?_⟩⟩
        refine cN_w (c_joins Aξ.1 he Aξ.2.2.2 hcl hcr (by omega) (by omega) hm V4 V3) (by omega) (fun _ ζ h => ?_)
        obtain ⟨F4, V5⟩ := h
        have i1 := iu r1
        have r : ζ 189 = ξ 189 := F4 189 (by omega)
        exact ih (fun j hj => H j (by omega)) R.2.2.1 R.2.2.2.1 ζ _ (by omega) i1.2 (by omega) r3 (F23.tr ⟨fun c' _ _ z => F4 c' (by omega), fun j _ => by rw [r]⟩) (by
          unfold TKR
          rw [r]
          exact K3) ⟨by rw [r]; exact h29, by rw [r]; exact g3, by rw [r, h23]; exact G2.2.2⟩ V5
      · rw [if_pos r1]
        exact l_mra_98b (by omega) (by rw [e22]; exact r1) ⟨F23, Or.inr ⟨r1, e22, e23⟩⟩
    refine jwp_sound t_Model_readAsk _ (b_Model_readAsk_6 ?_)
    simp only [RW, true_and, and_true, and_self, true_or, or_true, Nat.reduceLeDiff, Nat.reduceEqDiff, Nat.reduceAdd, Int.reduceLE, Int.reduceLT, Int.reduceEq, Int.reduceNeg, Int.reduceNe, Nat.reduceSub, reduceIte, implies_true, gt_189, gr_189_28, gt_207]
    refine cN_p (c_isOp_g G.2.1 Aτ.2.2.1 K hp) (by omega) ?_
    by_cases ho : opW t n p = 0
    · rw [if_pos ho]
      refine ⟨fun _ => ?_, fun x => absurd rfl x⟩
      have eq : aX ω t e n (k + 1) true L p u S = aOK p u S := by
        simp only [aX]
        rw [if_pos ho]
      rw [eq]
      exact ⟨F, Or.inl ⟨rfl, G.2.1, G.2.2, hp, K, G.1, V⟩⟩
    · rw [if_neg ho]
      refine ⟨fun x => absurd x (by omega), fun _ => ?_⟩
      refine cN_p (c_opHere_g G.2.1 Aτ.2.2.1 K hp ho) (by omega) ?_
      refine cN_w (c_step Aτ.2.2.1 K hp) (by omega) (fun _ υ h => ?_)
      obtain ⟨F2, K2⟩ := h
      have F02 : RAF (208 + (a : Int)) σ υ := F.tr F2.raf
      have G2 : υ 189 29 = u ∧ υ 189 22 = 0 ∧ υ 189 23 = σ 189 23 := ⟨by rw [F2.2 29 (by omega) (by omega) (by omega) (by omega)]; exact G.1, by rw [F2.2 22 (by omega) (by omega) (by omega) (by omega)]; exact G.2.1, by rw [F2.2 23 (by omega) (by omega) (by omega) (by omega)]; exact G.2.2⟩
      have V2 : SET υ (208 + (a : Int)) (wW ω e).1 S := fun q' x y => by
        rw [F2.1 (208 + (a : Int)) (by omega)]
        exact V q' x y
      have Aυ := A.of hcl F02
      have tr1 := (tK_r (t := t) (n := n) (p := tN t n p)).2
      have t2 : tokc (tK t n (tN t n p)) = 2 ↔ tK t n (tN t n p) = 2 := by
        unfold tokc
        unfold isSg at tr1
        split
        · omega
        · split <;> omega
      have wr0 : ∀ x : Int, x ≠ 0 → WR υ x (tS t n (tN t n p)) 189 22 ≠ 0 := fun x hx => by rw [wr_22]; exact hx
      refine ⟨fun x => ?_, fun x => ?_⟩
      · refine N83 (tN t n p) 0 υ p1 ⟨by omega, by omega⟩ ho F02 K2 G2 V2 ?_
        simp only [aX]
        rw [if_neg ho, if_neg (by omega)]
      · rw [K2.1.2.2.2]
        refine ⟨fun y => ?_, fun y => ?_⟩
        · have q2 := t2.mp y
          have val := K2.2.2 q2
          rw [val]
          refine cN_p (c_Model_in _ _ _ _) (by omega) ?_
          by_cases v : 1 ≤ tV t n (tN t n p) ∧ tV t n (tN t n p) ≤ 50
          · rw [if_pos (by omega)]
            refine ⟨fun _ => ?_, fun z => absurd z (by omega)⟩
            refine jwp_sound t_Model_readAsk _ (b_Model_readAsk_66 ?_)
            simp only [RW, true_and, and_true, and_self, true_or, or_true, Nat.reduceLeDiff, Nat.reduceEqDiff, Nat.reduceAdd, Int.reduceLE, Int.reduceLT, Int.reduceEq, Int.reduceNeg, Int.reduceNe, Nat.reduceSub, reduceIte, implies_true, gt_189, gr_189_28, gt_207]
            refine cN_p (c_good _) (by omega) ?_
            rw [if_pos G2.2.1, val, show min 9999 (tV t n (tN t n p)) = tV t n (tN t n p) by omega]
            refine ⟨fun z => absurd z (by omega), fun _ => ?_⟩
            refine cN_w (c_step Aυ.2.2.1 K2 p1) (by omega) (fun _ ξ h => ?_)
            obtain ⟨F3, K3⟩ := h
            refine N83 (tN t n (tN t n p)) (tV t n (tN t n p)) ξ p2 ⟨by omega, v.2⟩ ho (F02.tr F3.raf) K3 ⟨by rw [F3.2 29 (by omega) (by omega) (by omega) (by omega)]; exact G2.1, by rw [F3.2 22 (by omega) (by omega) (by omega) (by omega)]; exact G2.2.1, by rw [F3.2 23 (by omega) (by omega) (by omega) (by omega)]; exact G2.2.2⟩ (fun q' x y => by
              rw [F3.1 (208 + (a : Int)) (by omega)]
              exact V2 q' x y) ?_
            simp only [aX]
            rw [if_neg ho, if_pos (by omega), if_neg (fun x => x q2), if_neg (fun x => x v)]
          · rw [if_neg (by omega)]
            refine ⟨fun z => absurd rfl z, fun _ => ?_⟩
            refine cN_v (c_wrong_g 2 G2.2.1 K2) (by omega) (fun _ => ?_)
            refine l_mra_66b (by omega) (wr0 2 (by omega)) ?_
            have eq : aX ω t e n (k + 1) true L p u S = aBD 2 (tS t n (tN t n p)) := by
              simp only [aX]
              rw [if_neg ho, if_pos (by omega), if_neg (fun x => x q2), if_pos v]
            rw [eq]
            exact mas_wr (by omega) F02
        · have q2 : tK t n (tN t n p) ≠ 2 := fun z => y (t2.mpr z)
          refine cN_v (c_wrong_g 1 G2.2.1 K2) (by omega) (fun _ => ?_)
          refine l_mra_66b (by omega) (wr0 1 (by omega)) ?_
          have eq : aX ω t e n (k + 1) true L p u S = aBD 1 (tS t n (tN t n p)) := by
            simp only [aX]
            rw [if_neg ho, if_pos (by omega), if_pos q2]
          rw [eq]
          exact mas_wr (by omega) F02
theorem par_of (he : 0 ≤ e ∧ e ≤ 1) (k : Nat) (H : ∀ j, j ≤ k → PUR ω t e n j) : PAR ω t e n k := by
  intro L a p σ u hL ha A K hp g hu h30 hk
  have dL : 25 ≤ dpU L := by
    unfold dpU
    omega
  have iu := aX_u (ω := ω) (t := t) (e := e) (n := n) k false L p u (fun _ => false) h30.2
  rw [if_neg Bool.false_ne_true] at iu
  refine Cw_of o_Model_readAsk rfl fun l d hd => jwp_sound t_Model_readAsk _ (b_Model_readAsk_0 ?_)
  simp only [RW, true_and, and_true, and_self, true_or, or_true, Nat.reduceLeDiff, Nat.reduceEqDiff, Nat.reduceAdd, Int.reduceLE, Int.reduceLT, Int.reduceEq, Int.reduceNeg, Int.reduceNe, Nat.reduceSub, reduceIte, implies_true, gt_189, gr_189_28, gt_207]
  refine cN_w (H k (Nat.le_refl _) L a p σ u hL (by omega) A K hp g hu h30 hk) (by omega) (fun _ τ h => ?_)
  unfold aB
  generalize aX ω t e n k false L p u (fun _ => false) = R at *
  obtain ⟨F, h⟩ := h
  rcases h with ⟨r1, g2, h23, r3, K2, h29, V2⟩ | ⟨r1, e22, e23⟩
  · rw [if_neg (fun x => x r1)]
    have i1 := iu r1
    exact l_mra_6 hL ha hd he A k H R.2.2.1 R.2.2.2.1 τ R.2.2.2.2 (by omega) i1.2 (by omega) r3 F K2 ⟨h29, g2, h23⟩ V2
  · rw [if_pos r1]
    exact l_mra_6b (by omega) (by rw [e22]; exact r1) ⟨F, Or.inr ⟨r1, e22, e23⟩⟩
theorem pur_all (U : RLO ω) (he : 0 ≤ e ∧ e ≤ 1) : ∀ k : Nat, (∀ j, j ≤ k → PUR ω t e n j) := by
  intro k
  induction k with
  | zero =>
    intro j hj L a p σ u hL ha A K hp g hu h30 hk
    omega
  | succ k ih =>
    intro j hj
    by_cases g : j ≤ k
    · exact ih j g
    · rw [show j = k + 1 by omega]
      exact pur_s U he k (par_of he k ih)
theorem c_mreadAsk (U : RLO ω) (he : 0 ≤ e ∧ e ≤ 1) (A : REN σ ω e t n) (K : TKR σ t n p) (hp : 0 ≤ p ∧ p ≤ n) (g : σ 189 22 = 0) (hu : σ 189 29 = 0) : Cw 50 m_Model_readAsk [vR 189, vI 0, vI 0] σ (fun _ τ => MAS 208 σ τ t n (wW ω e).1 (aB ω t e n 31 0 p 0)) :=
  par_of he 31 (pur_all U he 31) 0 0 p σ 0 (by omega) (by omega) A K hp g hu (by omega) (by omega)
end BS
