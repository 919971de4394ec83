/-! ASKS: the reference's row of words from its sign on -/
section BK
variable {l : Launch} {d : Nat} {ω t : Int → Int} {σ : jH} {e n p c : Int}
theorem l_mw_6 {P : Int → jH → Prop} (hd : 14 ≤ d) (A : REN σ ω e t n) (he : 0 ≤ e ∧ e ≤ 1) (hc : isRSet c) (N : ∀ τ : jH, (∀ c', c' ≠ c → τ c' = σ c') → SET τ c (wW ω e).1 (fun _ => true) → Ev (l, (fun _ => 0), 0) d 0 0 m_Model_readRow (RW P) 31 [some (vR 189), some (vR c), some (vI 0), none, none] [] gW τ 0 0) : ∀ (k x : Nat) (τ : jH), (x : Int) + k = (wW ω e).1 → (∀ c', c' ≠ c → τ c' = σ c') → (∀ q : Int, 0 ≤ q → q < x → τ c q = 1) →
    Ev (l, (fun _ => 0), 0) d 0 0 m_Model_readRow (RW P) 6 [some (vR 189), some (vR c), some (vI x), none, none] [] gW τ 0 0
  | 0, x, τ, hx, F, V => by
    have hcc := hc
    unfold isRSet at hcc
    have w := A.1.W he
    have go := N τ F (fun q a b => V q a (by omega))
    refine jwp_sound t_Model_readRow _ (b_Model_readRow_6 ?_)
    simp only [RW, true_and, and_true, and_self, true_or, or_true, Nat.reduceLeDiff, Nat.reduceEqDiff, Nat.reduceAdd, Int.reduceLE, Int.reduceLT, Int.reduceEq, Int.reduceNeg, Int.reduceNe, Nat.reduceSub, reduceIte, implies_true, gt_189, gr_189_4, gt_193, gr_189_5, gt_194]
    rw [F 189 (by omega), A.2.2.2, F 193 (by omega), w.1]
    exact ⟨by omega, by omega, fun _ => go, fun y => absurd y (by omega)⟩
  | k + 1, x, τ, hx, F, V => by
    have hcc := hc
    unfold isRSet at hcc
    have w := A.1.W he
    have gc := gt_rset hc
    have IH := l_mw_6 hd A he hc N k (x + 1) (ju τ c x 1) (by omega) (fun c' h => by rw [ju_row h, F c' h]) (fun q a b => by
      by_cases g : q = x
      · rw [g, ju_self]
      · rw [ju_ne2 g]
        exact V q a (by omega))
    rw [show ((x + 1 : Nat) : Int) = (x : Int) + 1 by omega] at IH
    refine jwp_sound t_Model_readRow _ (b_Model_readRow_6 ?_)
    simp only [RW, true_and, and_true, and_self, true_or, or_true, Nat.reduceLeDiff, Nat.reduceEqDiff, Nat.reduceAdd, Int.reduceLE, Int.reduceLT, Int.reduceEq, Int.reduceNeg, Int.reduceNe, Nat.reduceSub, reduceIte, implies_true, gt_189, gr_189_4, gt_193, gr_189_5, gt_194]
    rw [F 189 (by omega), A.2.2.2, F 193 (by omega), w.1, gc, w32_of (x := (x : Int) + 1) (by omega) (by omega)]
    exact ⟨by omega, by omega, fun y => absurd y (by omega), fun _ => ⟨rfl, by omega, (by show (x : Int) < 340; omega), IH⟩⟩
theorem l_mw_31b {P : Int → jH → Prop} {τ : jH} (hd : 14 ≤ d) (T : TP2 τ t n) (g : τ 189 22 = 0) (K : TKR τ t n p) (q : tK t n p ≠ 1) (h : P 0 (WR τ 1 (tS t n p))) : Ev (l, (fun _ => 0), 0) d 0 0 m_Model_readRow (RW P) 31 [some (vR 189), some (vR c), some (vI 0), none, none] [] gW τ 0 0 := by
  have tr := (tK_r (t := t) (n := n) (p := p)).2
  refine jwp_sound t_Model_readRow _ (b_Model_readRow_31 ?_)
  simp only [RW, true_and, and_true, and_self, true_or, or_true, Nat.reduceLeDiff, Nat.reduceEqDiff, Nat.reduceAdd, Int.reduceLE, Int.reduceLT, Int.reduceEq, Int.reduceNeg, Int.reduceNe, Nat.reduceSub, reduceIte, implies_true, gt_189, gr_189_4, gt_193, gr_189_5, gt_194]
  refine cN_p (c_good τ) (by omega) ?_
  rw [if_pos g, K.1.2.2.2]
  refine ⟨fun x => absurd x (by omega), fun _ => ⟨fun _ => ?_, fun y => absurd ((tokc_1 tr).mp y) q⟩⟩
  refine jwp_sound t_Model_readRow _ (b_Model_readRow_134 ?_)
  simp only [RW, true_and, and_true, and_self, true_or, or_true, Nat.reduceLeDiff, Nat.reduceEqDiff, Nat.reduceAdd, Int.reduceLE, Int.reduceLT, Int.reduceEq, Int.reduceNeg, Int.reduceNe, Nat.reduceSub, reduceIte, implies_true, gt_189, gr_189_4, gt_193, gr_189_5, gt_194]
  refine ⟨fun _ => ?_, fun x => x.elim⟩
  exact cN_v (c_wrong_g 1 g K) (by omega) (fun _ => h)
theorem c_mreadRow {u : Int} (A : REN σ ω e t n) (he : 0 ≤ e ∧ e ≤ 1) (hc : isRSet c) (g : σ 189 22 = 0) (K : TKR σ t n p) (hp : 0 ≤ p ∧ p ≤ n) (q34 : tK t n p = 34) (h29 : σ 189 29 = u) : Cw 14 m_Model_readRow [vR 189, vR c] σ (fun _ τ => MAS c σ τ t n (wW ω e).1 (if tK t n (tN t n p) ≠ 1 then aBD 1 (tS t n (tN t n p)) else aPh ω t e n u 401 0 (tN t n p) (fun _ => true))) := by
  have hcc := hc
  unfold isRSet at hcc
  have g1 := tK_n0 hp.2 (show tK t n p ≠ 0 by omega)
  have p1 := tN_in (t := t) hp
  have w := A.1.W he
  refine Cw_of o_Model_readRow rfl fun l d hd => jwp_sound t_Model_readRow _ (b_Model_readRow_0 ?_)
  simp only [RW, true_and, and_true, and_self, true_or, or_true, Nat.reduceLeDiff, Nat.reduceEqDiff, Nat.reduceAdd, Int.reduceLE, Int.reduceLT, Int.reduceEq, Int.reduceNeg, Int.reduceNe, Nat.reduceSub, reduceIte, implies_true, gt_189, gr_189_4, gt_193, gr_189_5, gt_194]
  refine cN_w (c_step A.2.2.1 K hp) (by omega) (fun _ τ h => ?_)
  obtain ⟨F1, K1⟩ := h
  have Aτ := A.of hc F1.raf
  refine l_mw_6 (σ := τ) hd Aτ he hc (fun υ F2 V2 => ?_) (wW ω e).1.toNat 0 τ (by omega) (fun _ _ => rfl) (fun q a b => by omega)
  have r : υ 189 = τ 189 := F2 189 (by omega)
  have F02 : RAF c σ υ := RAF.tr F1.raf ⟨fun c' _ _ b => F2 c' (by omega), fun j _ => by rw [r]⟩
  have gυ : υ 189 22 = 0 := by rw [r, F1.2 22 (by omega) (by omega) (by omega) (by omega)]; exact g
  have Kυ : TKR υ t n (tN t n p) := by
    unfold TKR
    rw [r]
    exact K1
  by_cases q : tK t n (tN t n p) = 1
  · rw [if_neg (fun x => x q)]
    exact l_mw_31 (u := u) hd A he hc 401 0 (tN t n p) υ (fun _ => true) rfl (by omega) (fun _ => q) p1 F02 gυ (by rw [r, F1.2 23 (by omega) (by omega) (by omega) (by omega)]) Kυ (by rw [r, F1.2 29 (by omega) (by omega) (by omega) (by omega)]; exact h29) V2
  · rw [if_pos q]
    exact l_mw_31b hd (A.of hc F02).2.2.1 gυ Kυ q (mas_wr (by omega) F02)
end BK
