/-! Likeness: the reference -/
def MST (τ : jH) (w z : Int → Int) (n m i j : Int) : Prop := ∀ i' j', 0 ≤ i' → i' ≤ n → 0 ≤ j' → j' ≤ m → (i < i' ∨ (i' = i ∧ j < j')) → τ 222 (301 * i' + j') = LQ w z n m i' j'
def F222 (σ τ : jH) : Prop := ∀ c, c ≠ 222 → τ c = σ c
def WDS (σ : jH) (w z : Int → Int) (n m : Int) : Prop := (σ 193 0 = n ∧ σ 193 1 = m) ∧ (0 ≤ n ∧ n ≤ 300) ∧ (0 ≤ m ∧ m ≤ 300) ∧ (∀ p, 0 ≤ p → p < n → σ 194 p = w p) ∧ ∀ q, 0 ≤ q → q < m → σ 194 (340 + q) = z q
section LZ
variable {l : Launch} {d : Nat} {w z ω : Int → Int} {σ : jH} {n m : Int}
theorem l_lk_18 {P : Int → jH → Prop} {i : Int} (hd : 10 ≤ d) (S : WDS σ w z n m) (hi : 0 ≤ i ∧ i ≤ n) (N : ∀ τ, F222 σ τ → MST τ w z n m i (-1) → Ev (l, (fun _ => 0), 0) d 0 0 m_Model_likes (RW P) 7 [some (vR 189), some (vI (i - 1)), none, none] [] gW τ 0 0) : ∀ (k : Nat) (τ : jH), (k : Int) ≤ m + 1 → F222 σ τ → MST τ w z n m i ((k : Int) - 1) →
    Ev (l, (fun _ => 0), 0) d 0 0 m_Model_likes (RW P) 18 [some (vR 189), some (vI i), some (vI ((k : Int) - 1)), none] [] gW τ 0 0
  | 0, τ, hk, F, M => by
    refine jwp_sound t_Model_likes _ (b_Model_likes_18 ?_)
    simp only [RW, true_and, and_true, and_self, true_or, or_true, Nat.reduceLeDiff, Nat.reduceEqDiff, Nat.reduceAdd, Int.reduceLE, Int.reduceLT, Int.reduceEq, Int.reduceNeg, Int.reduceNe, Nat.reduceSub, reduceIte, implies_true]
    rw [w32_of (x := i + -1) (by omega) (by obtain ⟨_, h, _⟩ := S; omega), show i + -1 = i - 1 by omega]
    exact ⟨fun _ => N τ F M, fun x => absurd x (by omega)⟩
  | k + 1, τ, hk, F, M => by
    have S' := S
    obtain ⟨⟨s0, s1⟩, sn, sm, sw, sz⟩ := S'
    have kE : ((k + 1 : Nat) : Int) - 1 = (k : Int) := by omega
    rw [kE] at M
    rw [kE]
    have step : ∀ v, v = LQ w z n m i k → Ev (l, (fun _ => 0), 0) d 0 0 m_Model_likes (RW P) 116 [some (vR 189), some (vI i), some (vI (k : Int)), some (vI v)] [] gW τ 0 0 := fun v hv => by
      have IH := l_lk_18 hd S hi N k (ju τ 222 (301 * i + k) v) (by omega) (fun c hc => by rw [ju_row hc, F c hc]) (fun i' j' a b c e h => by
        by_cases y : 301 * i' + j' = 301 * i + k
        · have e1 : i' = i := by omega
          have e2 : j' = k := by omega
          rw [y, ju_self, hv, e1, e2]
        · rw [ju_ne2 y]
          exact M i' j' a b c e (by omega))
      refine jwp_sound t_Model_likes _ (b_Model_likes_116 ?_)
      simp only [RW, true_and, and_true, and_self, true_or, or_true, Nat.reduceLeDiff, Nat.reduceEqDiff, Nat.reduceAdd, Int.reduceLE, Int.reduceLT, Int.reduceEq, Int.reduceNeg, Int.reduceNe, Nat.reduceSub, reduceIte, implies_true, gt_189, gr_189_37, gt_222, gr_189_4, gt_193, gr_189_5, gt_194]
      rw [w32_of (x := 301 * i) (by omega) (by omega), w32_of (x := 301 * i + (k : Int)) (by omega) (by omega), w32_of (x := (k : Int) + -1) (by omega) (by omega), show (k : Int) + -1 = (k : Int) - 1 by omega]
      exact ⟨by omega, by omega, IH⟩
    refine jwp_sound t_Model_likes _ (b_Model_likes_18 ?_)
    simp only [RW, true_and, and_true, and_self, true_or, or_true, Nat.reduceLeDiff, Nat.reduceEqDiff, Nat.reduceAdd, Int.reduceLE, Int.reduceLT, Int.reduceEq, Int.reduceNeg, Int.reduceNe, Nat.reduceSub, reduceIte, implies_true, gt_189, gr_189_37, gt_222, gr_189_4, gt_193, gr_189_5, gt_194]
    rw [F 193 (by omega), s0, s1]
    refine ⟨fun x => absurd x (by omega), fun _ => ⟨fun x => step 0 (LQ_n x).symm, fun x => ⟨fun y => step 0 (LQ_m y).symm, fun y => ?_⟩⟩⟩
    have r1 := LQ_r (w := w) (z := z) (n := n) (m := m) (j := (k : Int) + 1) sn.2 (show 0 ≤ i + 1 by omega)
    rw [w32_of (x := 340 + (k : Int)) (by omega) (by omega), F 194 (by omega), sw i hi.1 x, sz k (by omega) y, w32_of (x := i + 1) (by omega) (by omega), w32_of (x := 301 * (i + 1)) (by omega) (by omega), w32_of (x := 301 * (i + 1) + (k : Int)) (by omega) (by omega), w32_of (x := 301 * i) (by omega) (by omega), w32_of (x := 301 * i + (k : Int)) (by omega) (by omega), w32_of (x := 301 * i + (k : Int) + 1) (by omega) (by omega), w32_of (x := 301 * (i + 1) + (k : Int) + 1) (by omega) (by omega), M (i + 1) k (by omega) (by omega) (by omega) (by omega) (by omega), show 301 * i + (k : Int) + 1 = 301 * i + ((k : Int) + 1) by omega, M i ((k : Int) + 1) (by omega) (by omega) (by omega) (by omega) (by omega), show 301 * (i + 1) + (k : Int) + 1 = 301 * (i + 1) + ((k : Int) + 1) by omega, M (i + 1) ((k : Int) + 1) (by omega) (by omega) (by omega) (by omega) (by omega), w32_of (x := 1 + LQ w z n m (i + 1) ((k : Int) + 1)) (by omega) (by omega)]
    have ls := LQ_s (w := w) (z := z) x y
    refine ⟨hi.1, by omega, by omega, by omega, fun g => ⟨by omega, by omega, by omega, by omega, by omega, step _ ?_⟩, fun g => ⟨by omega, by omega, step _ ?_⟩⟩
    · rw [ls, if_neg g]
    · rw [ls, if_pos g]
theorem l_lk_7 (hd : 10 ≤ d) (S : WDS σ w z n m) : ∀ (k : Nat) (τ : jH), (k : Int) ≤ n + 1 → F222 σ τ → MST τ w z n m ((k : Int) - 1) m →
    Ev (l, (fun _ => 0), 0) d 0 0 m_Model_likes (RW fun _ τ => F222 σ τ ∧ MST τ w z n m (-1) m) 7 [some (vR 189), some (vI ((k : Int) - 1)), none, none] [] gW τ 0 0
  | 0, τ, hk, F, M => by
    refine jwp_sound t_Model_likes _ (b_Model_likes_7 ?_)
    exact ⟨fun _ => ⟨rfl, F, M⟩, fun x => absurd x (by omega)⟩
  | k + 1, τ, hk, F, M => by
    have kE : ((k + 1 : Nat) : Int) - 1 = (k : Int) := by omega
    rw [kE] at M
    rw [kE]
    have S' := S
    obtain ⟨⟨s0, s1⟩, sn, sm, sw, sz⟩ := S'
    refine jwp_sound t_Model_likes _ (b_Model_likes_7 ?_)
    simp only [RW, true_and, and_true, and_self, true_or, or_true, Nat.reduceLeDiff, Nat.reduceEqDiff, Nat.reduceAdd, Int.reduceLE, Int.reduceLT, Int.reduceEq, Int.reduceNeg, Int.reduceNe, Nat.reduceSub, reduceIte, implies_true, gt_189, gr_189_37, gt_222, gr_189_4, gt_193, gr_189_5, gt_194]
    rw [F 193 (by omega), s1]
    refine ⟨fun x => absurd x (by omega), fun _ => ?_⟩
    have go := l_lk_18 (l := l) (σ := σ) (i := k) (P := fun _ τ => F222 σ τ ∧ MST τ w z n m (-1) m) hd S ⟨by omega, by omega⟩ (fun υ F2 M2 => l_lk_7 hd S k υ (by omega) F2 (fun i' j' a b c e h => M2 i' j' a b c e (by omega))) (m + 1).toNat τ (by omega) F (fun i' j' a b c e h => M i' j' a b c e (by omega))
    rw [show (((m + 1).toNat : Nat) : Int) - 1 = m by omega] at go
    exact go
theorem WDS_of (R : RFR σ ω) : WDS σ (dw ω 0) (dw ω 1) (wW ω 0).1 (wW ω 1).1 := by
  have w0 := R.W (e := 0) (by omega)
  have w1 := R.W (e := 1) (by omega)
  refine ⟨⟨w0.1, w1.1⟩, w0.2, w1.2, fun p a b => ?_, fun q a b => ?_⟩
  · have := R.2.2.2.2.2.2.1 0 p (by omega) (by omega) a b
    rwa [show (340 : Int) * 0 + p = p by omega] at this
  · exact R.2.2.2.2.2.2.1 1 q (by omega) (by omega) a b
theorem c_Model_likes (S : WDS σ w z n m) : Cw 10 m_Model_likes [vR 189] σ (fun _ τ => F222 σ τ ∧ MST τ w z n m (-1) m) := by
  have S' := S
  obtain ⟨⟨s0, s1⟩, sn, sm, sw, sz⟩ := S'
  refine Cw_of o_Model_likes rfl fun l d hd => jwp_sound t_Model_likes _ (b_Model_likes_0 ?_)
  simp only [RW, true_and, and_true, and_self, true_or, or_true, Nat.reduceLeDiff, Nat.reduceEqDiff, Nat.reduceAdd, Int.reduceLE, Int.reduceLT, Int.reduceEq, Int.reduceNeg, Int.reduceNe, Nat.reduceSub, reduceIte, implies_true, gt_189, gr_189_37, gt_222, gr_189_4, gt_193, gr_189_5, gt_194]
  rw [s0]
  have go := l_lk_7 (l := l) (σ := σ) hd S (n + 1).toNat σ (by omega) (fun _ _ => rfl) (fun i' j' a b c e h => by omega)
  rw [show (((n + 1).toNat : Nat) : Int) - 1 = n by omega] at go
  repeat (refine And.intro (by omega) ?_)
  exact go
theorem c_Model_alike (R : RFR σ ω) : Cw 11 m_Model_alike [vR 189] σ (fun x τ => x = s_alike ω ∧ F222 σ τ) := by
  have S := WDS_of R
  have S' := S
  obtain ⟨⟨s0, s1⟩, sn, sm, sw, sz⟩ := S'
  refine Cw_of o_Model_alike rfl fun l d hd => jwp_sound t_Model_alike _ (b_Model_alike_0 ?_)
  simp only [RW, true_and, and_true, and_self, true_or, or_true, Nat.reduceLeDiff, Nat.reduceEqDiff, Nat.reduceAdd, Int.reduceLE, Int.reduceLT, Int.reduceEq, Int.reduceNeg, Int.reduceNe, Nat.reduceSub, reduceIte, implies_true, gt_189, gr_189_37, gt_222]
  refine cN_w (c_Model_likes S) (by omega) (fun _ τ h => ?_)
  have := h.2 0 0 (by omega) (by omega) (by omega) (by omega) (by omega)
  exact ⟨this, h.1⟩
theorem l_md_19 {p : Int} {τ : jH} (hd : 13 ≤ d) (S : WDS τ w z n m) (M : MST τ w z n m (-1) m) (hp : 0 ≤ p ∧ p < n) : ∀ (k : Nat) (i j : Int), n - i + (m - j) ≤ k → 0 ≤ i → i ≤ n → 0 ≤ j → j ≤ m →
    Ev (l, (fun _ => 0), 0) d 0 0 m_Model_matched (RW fun x υ => x = mtc w z n m p k i j ∧ υ = τ) 19 [some (vR 189), some (vI p), some (vI i), some (vI j), none] [] gW τ 0 0 := by
  have S' := S
  obtain ⟨⟨s0, s1⟩, sn, sm, sw, sz⟩ := S'
  intro k
  induction k with
  | zero =>
    intro i j hk i0 i1 j0 j1
    refine jwp_sound t_Model_matched _ (b_Model_matched_19 ?_)
    simp only [RW, true_and, and_true, and_self, true_or, or_true, Nat.reduceLeDiff, Nat.reduceEqDiff, Nat.reduceAdd, Int.reduceLE, Int.reduceLT, Int.reduceEq, Int.reduceNeg, Int.reduceNe, Nat.reduceSub, reduceIte, implies_true, gt_189, gr_189_37, gt_222, gr_189_4, gt_193, gr_189_5, gt_194]
    rw [s1]
    refine ⟨fun _ => rfl, fun q => ⟨fun _ => rfl, fun q2 => absurd hk (by omega)⟩⟩
  | succ k ih =>
    intro i j hk i0 i1 j0 j1
    refine jwp_sound t_Model_matched _ (b_Model_matched_19 ?_)
    simp only [RW, true_and, and_true, and_self, true_or, or_true, Nat.reduceLeDiff, Nat.reduceEqDiff, Nat.reduceAdd, Int.reduceLE, Int.reduceLT, Int.reduceEq, Int.reduceNeg, Int.reduceNe, Nat.reduceSub, reduceIte, implies_true, gt_189, gr_189_37, gt_222, gr_189_4, gt_193, gr_189_5, gt_194]
    rw [s1]
    refine ⟨fun q => by rw [mtc_0 (by omega)], fun q => ⟨fun q2 => by rw [mtc_0 (by omega)], fun q2 => ?_⟩⟩
    have hin : i < n := by omega
    have ls := LQ_s (w := w) (z := z) hin q2
    rw [w32_of (x := 340 + j) (by omega) (by omega), sw i i0 hin, sz j j0 q2, mtc_s k ⟨q, q2⟩]
    refine ⟨i0, by omega, by omega, by omega, fun x => ⟨fun _ => ?_, fun y => y.elim⟩, fun x => ⟨fun y => y.elim, fun _ => ⟨fun y => ?_, fun y => ?_⟩⟩⟩
    · rw [if_neg x]
      refine jwp_sound t_Model_matched _ (b_Model_matched_72 ?_)
      simp only [RW, true_and, and_true, and_self, true_or, or_true, Nat.reduceLeDiff, Nat.reduceEqDiff, Nat.reduceAdd, Int.reduceLE, Int.reduceLT, Int.reduceEq, Int.reduceNeg, Int.reduceNe, Nat.reduceSub, reduceIte, implies_true, gt_189, gr_189_37, gt_222, gr_189_4, gt_193, gr_189_5, gt_194]
      rw [w32_of (x := i + 1) (by omega) (by omega), w32_of (x := 301 * (i + 1)) (by omega) (by omega), w32_of (x := 301 * (i + 1) + j) (by omega) (by omega), w32_of (x := 301 * i) (by omega) (by omega), w32_of (x := 301 * i + j) (by omega) (by omega), w32_of (x := j + 1) (by omega) (by omega), M (i + 1) j (by omega) (by omega) j0 j1 (by omega), M i j i0 i1 j0 j1 (by omega)]
      rw [if_neg x] at ls
      have sb : spB w z n m i j = true ↔ LQ w z n m i (j + 1) ≤ LQ w z n m (i + 1) j := by
        unfold spB
        rw [decide_eq_true (show ¬ w i = z j from x), Bool.true_and, decide_eq_true_eq]
      refine ⟨fun _ => ⟨by omega, by omega, by omega, by omega, fun y => ?_, fun y => ?_⟩, fun y => y.elim⟩
      · rw [if_neg (fun h => by have := sb.mp h; omega)]
        exact ih i (j + 1) (by omega) i0 i1 (by omega) (by omega)
      · rw [if_pos (sb.mpr (by omega))]
        exact ih (i + 1) j (by omega) (by omega) (by omega) j0 j1
    · rw [if_pos x, if_neg y]
      refine jwp_sound t_Model_matched _ (b_Model_matched_72 ?_)
      simp only [RW, true_and, and_true, and_self, true_or, or_true, Nat.reduceLeDiff, Nat.reduceEqDiff, Nat.reduceAdd, Int.reduceLE, Int.reduceLT, Int.reduceEq, Int.reduceNeg, Int.reduceNe, Nat.reduceSub, reduceIte, implies_true]
      rw [w32_of (x := i + 1) (by omega) (by omega), w32_of (x := j + 1) (by omega) (by omega)]
      exact ⟨fun y => y.elim, fun _ => ih (i + 1) (j + 1) (by omega) (by omega) (by omega) (by omega) (by omega)⟩
    · rw [if_pos x, if_pos y]
theorem c_Model_matched (R : RFR σ ω) (p : Int) : Cw 13 m_Model_matched [vR 189, vI p] σ (fun x τ => x = s_matched ω p ∧ F222 σ τ) := by
  have S := WDS_of R
  unfold s_matched
  refine Cw_of o_Model_matched rfl fun l d hd => jwp_sound t_Model_matched _ (b_Model_matched_0 ?_)
  simp only [RW, true_and, and_true, and_self, true_or, or_true, Nat.reduceLeDiff, Nat.reduceEqDiff, Nat.reduceAdd, Int.reduceLE, Int.reduceLT, Int.reduceEq, Int.reduceNeg, Int.reduceNe, Nat.reduceSub, reduceIte, implies_true, gt_189, gr_189_37, gt_222, gr_189_4, gt_193, gr_189_5, gt_194]
  refine cN_p (c_Model_isWord R _ _) (by omega) ?_
  by_cases q : 0 ≤ p ∧ p < (wW ω 0).1
  · rw [if_pos ⟨by omega, q⟩, if_pos q]
    refine ⟨fun _ => ?_, fun x => absurd x (by omega)⟩
    refine cN_w (c_Model_likes S) (by omega) (fun _ τ h => ?_)
    obtain ⟨F, M⟩ := h
    have Sτ : WDS τ (dw ω 0) (dw ω 1) (wW ω 0).1 (wW ω 1).1 := by
      unfold WDS
      rw [F 193 (by omega), F 194 (by omega)]
      exact S
    have go := l_md_19 (l := l) hd Sτ M q 700 0 0 (by have := S.2.1; have := S.2.2.1; omega) (by omega) S.2.1.1 (by omega) S.2.2.1.1
    refine Ev_post go (fun x υ h => ⟨h.1, by rw [h.2]; exact F⟩)
  · rw [if_neg (fun x => q x.2), if_neg q]
    exact ⟨fun x => absurd rfl x, fun _ => ⟨rfl, fun _ _ => rfl⟩⟩
end LZ
