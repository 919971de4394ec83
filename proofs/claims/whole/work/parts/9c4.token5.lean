/-! Tokens: the reference's small readers; fault -/
def WR (σ : jH) (x s : Int) : jH := ju (ju σ 189 22 x) 189 23 s
theorem WR_row {σ : jH} {x s c : Int} (h : c ≠ 189) : WR σ x s c = σ c := by
  unfold WR
  rw [ju_row h, ju_row h]
theorem tK_r {t : Int → Int} {n p : Int} : 0 ≤ tK t n p ∧ (tK t n p ≤ 3 ∨ isSg (tK t n p)) := by
  unfold tK tKs
  split
  · omega
  · split
    · omega
    · split
      · omega
      · split
        · rename_i h
          omega
        · omega
section T5
variable {l : Launch} {d : Nat} {t : Int → Int} {σ : jH} {n p : Int}
theorem c_good (σ : jH) : Cw 10 m_Model_good [vR 189] σ (fun z τ => z = (if σ 189 22 = 0 then 1 else 0) ∧ τ = σ) := by
  refine Cw_of o_Model_good rfl fun l d hd => jwp_sound t_Model_good _ (b_Model_good_0 ?_)
  simp only [RW, true_and, and_true, and_self, true_or, or_true, Nat.reduceLeDiff, Nat.reduceEqDiff, Nat.reduceAdd, Int.reduceLE, Int.reduceLT, Int.reduceEq, Int.reduceNeg, Int.reduceNe, Nat.reduceSub, reduceIte, implies_true, gt_189]
  exact ⟨fun q => by rw [if_neg q], fun q => by rw [if_pos q]⟩
theorem c_wrong_g (x : Int) (g : σ 189 22 = 0) (K : TKR σ t n p) : Cw 11 m_Model_wrong [vR 189, vI x] σ (fun _ τ => τ = WR σ x (tS t n p)) := by
  refine Cw_of o_Model_wrong rfl fun l d hd => jwp_sound t_Model_wrong _ (b_Model_wrong_0 ?_)
  simp only [RW, true_and, and_true, and_self, true_or, or_true, Nat.reduceLeDiff, Nat.reduceEqDiff, Nat.reduceAdd, Int.reduceLE, Int.reduceLT, Int.reduceEq, Int.reduceNeg, Int.reduceNe, Nat.reduceSub, reduceIte, implies_true, gt_189]
  refine cN_p (c_good _) (by omega) ?_
  rw [if_pos g, ju_ne2 (show (19 : Int) ≠ 22 by omega), K.1.2.1]
  exact ⟨fun _ => rfl, fun q => absurd q (by omega)⟩
theorem c_wrong_b (x : Int) (g : σ 189 22 ≠ 0) : Cw 11 m_Model_wrong [vR 189, vI x] σ (fun _ τ => τ = σ) := by
  refine Cw_of o_Model_wrong rfl fun l d hd => jwp_sound t_Model_wrong _ (b_Model_wrong_0 ?_)
  simp only [RW, true_and, and_true, and_self, true_or, or_true, Nat.reduceLeDiff, Nat.reduceEqDiff, Nat.reduceAdd, Int.reduceLE, Int.reduceLT, Int.reduceEq, Int.reduceNeg, Int.reduceNe, Nat.reduceSub, reduceIte, implies_true, gt_189]
  refine cN_p (c_good _) (by omega) ?_
  rw [if_neg g]
  exact ⟨fun q => absurd rfl q, fun _ => rfl⟩
theorem l_mi_39 {w : Nat} (hd : 11 ≤ d) (hw : w < jtxs.length) (T : TP2 σ t n) (K : TKR σ t n p) (hp : 0 ≤ p ∧ p ≤ n) (h1 : tK t n p = 1) (h2 : tN t n p - tS t n p = (((jtb w).length : Nat) : Int)) : ∀ (k i : Nat) (v : Int), i + k = (jtb w).length → (v = b2i (eqB t (tS t n p) (jtb w) i)) →
    Ev (l, (fun _ => 0), 0) d 0 0 m_Model_is (RW fun z τ => z = b2i (tI t n p (jtb w)) ∧ τ = σ) 39 [some (vR 189), some (vT w), some (vI v), some (vI i)] [] gW σ 0 0
  | 0, i, v, hk, A => by
    have vr := b2i_r (eqB t (tS t n p) (jtb w) i)
    refine jwp_sound t_Model_is _ (b_Model_is_39 ?_)
    simp only [RW, true_and, and_true, and_self, true_or, or_true, Nat.reduceLeDiff, Nat.reduceEqDiff, Nat.reduceAdd, Int.reduceLE, Int.reduceLT, Int.reduceEq, Int.reduceNeg, Int.reduceNe, Nat.reduceSub, reduceIte, implies_true, gt_189, gr_189_14, gt_202]
    refine ⟨hw, by omega, fun _ => ⟨by omega, ?_⟩, fun q => absurd q (by omega)⟩
    unfold tI
    rw [decide_eq_true h1, decide_eq_true h2, ← show i = (jtb w).length by omega, A]
    rfl
  | k + 1, i, v, hk, A => by
    have r := tS_r (t := t) hp.2
    have r2 := tN_r (t := t) hp.2
    obtain ⟨T1, T2⟩ := T
    obtain ⟨b1, b2, b3⟩ := T2 (tS t n p + i) (by omega) (by omega)
    have vr := b2i_r (eqB t (tS t n p) (jtb w) i)
    have IH := fun v => l_mi_39 hd hw ⟨T1, T2⟩ K hp h1 h2 k (i + 1) v (by omega)
    rw [show ((i + 1 : Nat) : Int) = (i : Int) + 1 by omega] at IH
    refine jwp_sound t_Model_is _ (b_Model_is_39 ?_)
    simp only [RW, true_and, and_true, and_self, true_or, or_true, Nat.reduceLeDiff, Nat.reduceEqDiff, Nat.reduceAdd, Int.reduceLE, Int.reduceLT, Int.reduceEq, Int.reduceNeg, Int.reduceNe, Nat.reduceSub, reduceIte, implies_true, gt_189, gr_189_14, gt_202]
    rw [K.1.2.1, w32_of (x := tS t n p + (i : Int)) (by omega) (by omega), b1, w32_of (x := (i : Int) + 1) (by omega) (by omega), show Int.toNat (i : Int) = i by omega]
    have fv : eqB t (tS t n p) (jtb w) i = false → tI t n p (jtb w) = false := fun h => by
      have all : ∀ k : Nat, eqB t (tS t n p) (jtb w) (i + k) = false := fun k => by
        induction k with
        | zero => exact h
        | succ k ih =>
          show (eqB t (tS t n p) (jtb w) (i + k) && _) = false
          rw [ih, Bool.false_and]
      have := all (k + 1)
      rw [show i + (k + 1) = (jtb w).length by omega] at this
      unfold tI
      rw [this, Bool.and_false]
    refine ⟨hw, by omega, fun q => absurd q (by omega), fun _ => ⟨fun q => ⟨by omega, ?_⟩, fun q => ⟨by omega, by omega, by omega, by omega, by omega, fun q2 => IH 0 ?_, fun q2 => IH 1 ?_⟩⟩⟩
    · cases e : eqB t (tS t n p) (jtb w) i with
      | true =>
        rw [e] at A
        exfalso
        rw [q] at A
        revert A
        decide
      | false =>
        rw [fv e, q]
        rfl
    · simp only [eqB]
      rw [decide_eq_false q2, Bool.and_false]
      rfl
    · cases e : eqB t (tS t n p) (jtb w) i with
      | true =>
        simp only [eqB]
        rw [e, decide_eq_true q2]
        rfl
      | false =>
        rw [e] at A
        exact absurd A q
theorem c_mis_g {w : Nat} (hw : w < jtxs.length) (g : σ 189 22 = 0) (T : TP2 σ t n) (K : TKR σ t n p) (hp : 0 ≤ p ∧ p ≤ n) : Cw 11 m_Model_is [vR 189, vT w] σ (fun z τ => z = b2i (tI t n p (jtb w)) ∧ τ = σ) := by
  have r := tS_r (t := t) hp.2
  have r2 := tN_r (t := t) hp.2
  have T1 := T.1
  have kr := tK_r (t := t) (n := n) (p := p)
  have tk : tokc (tK t n p) = 1 ↔ tK t n p = 1 := by
    unfold tokc
    split
    · omega
    · split <;> omega
  refine Cw_of o_Model_is rfl fun l d hd => jwp_sound t_Model_is _ (b_Model_is_0 ?_)
  simp only [RW, true_and, and_true, and_self, true_or, or_true, Nat.reduceLeDiff, Nat.reduceEqDiff, Nat.reduceAdd, Int.reduceLE, Int.reduceLT, Int.reduceEq, Int.reduceNeg, Int.reduceNe, Nat.reduceSub, reduceIte, implies_true, gt_189, gr_189_14, gt_202]
  have fls : tI t n p (jtb w) = false → Ev (l, (fun _ => 0), 0) d 0 0 m_Model_is (RW fun z τ => z = b2i (tI t n p (jtb w)) ∧ τ = σ) 39 [some (vR 189), some (vT w), some (vI 0), some (vI 0)] [] gW σ 0 0 := fun h => by
    rw [h]
    refine jwp_sound t_Model_is _ (b_Model_is_39 ?_)
    simp only [RW, true_and, and_true, and_self, true_or, or_true, Nat.reduceLeDiff, Nat.reduceEqDiff, Nat.reduceAdd, Int.reduceLE, Int.reduceLT, Int.reduceEq, Int.reduceNeg, Int.reduceNe, Nat.reduceSub, reduceIte, implies_true]
    exact ⟨hw, by omega, fun _ => rfl, fun _ => ⟨fun _ => rfl, fun x => x.elim⟩⟩
  refine cN_p (c_good _) (by omega) ?_
  rw [if_pos g, K.1.2.2.2, K.1.2.2.1, K.1.2.1, w32_of (by omega) (by omega)]
  refine ⟨fun x => absurd x (by omega), fun _ => ⟨fun q => ?_, fun q => ⟨hw, by omega, fun q2 => ?_, fun q2 => ?_⟩⟩⟩
  · refine fls ?_
    unfold tI
    rw [decide_eq_false (fun x => q (tk.mpr x)), Bool.false_and, Bool.false_and]
  · refine fls ?_
    unfold tI
    rw [decide_eq_false q2, Bool.and_false, Bool.false_and]
  · exact l_mi_39 hd hw T K hp (tk.mp q) q2 (jtb w).length 0 1 (by omega) rfl
theorem c_mis_b {w : Nat} (hw : w < jtxs.length) (g : σ 189 22 ≠ 0) : Cw 11 m_Model_is [vR 189, vT w] σ (fun z τ => z = 0 ∧ τ = σ) := by
  refine Cw_of o_Model_is rfl fun l d hd => jwp_sound t_Model_is _ (b_Model_is_0 ?_)
  simp only [RW, true_and, and_true, and_self, true_or, or_true, Nat.reduceLeDiff, Nat.reduceEqDiff, Nat.reduceAdd, Int.reduceLE, Int.reduceLT, Int.reduceEq, Int.reduceNeg, Int.reduceNe, Nat.reduceSub, reduceIte, implies_true, gt_189, gr_189_14, gt_202]
  refine cN_p (c_good _) (by omega) ?_
  rw [if_neg g]
  refine ⟨fun _ => ?_, fun x => absurd rfl x⟩
  refine jwp_sound t_Model_is _ (b_Model_is_39 ?_)
  simp only [RW, true_and, and_true, and_self, true_or, or_true, Nat.reduceLeDiff, Nat.reduceEqDiff, Nat.reduceAdd, Int.reduceLE, Int.reduceLT, Int.reduceEq, Int.reduceNeg, Int.reduceNe, Nat.reduceSub, reduceIte, implies_true]
  exact ⟨hw, by omega, fun _ x => x.elim⟩
def TKN (σ τ : jH) (t : Int → Int) (n p : Int) : Prop := FTR2 σ τ ∧ TKR τ t n p
theorem c_takes_g {w : Nat} (hw : w < jtxs.length) (g : σ 189 22 = 0) (T : TP2 σ t n) (K : TKR σ t n p) (hp : 0 ≤ p ∧ p ≤ n) : Cw 12 m_Model_takes [vR 189, vT w] σ (fun z τ => (tI t n p (jtb w) = true ∧ z = 1 ∧ TKN σ τ t n (tN t n p)) ∨ (tI t n p (jtb w) = false ∧ z = 0 ∧ τ = σ)) := by
  refine Cw_of o_Model_takes rfl fun l d hd => jwp_sound t_Model_takes _ (b_Model_takes_0 ?_)
  simp only [RW, true_and, and_true, and_self, true_or, or_true, Nat.reduceLeDiff, Nat.reduceEqDiff, Nat.reduceAdd, Int.reduceLE, Int.reduceLT, Int.reduceEq, Int.reduceNeg, Int.reduceNe, Nat.reduceSub, reduceIte, implies_true, gt_189]
  refine cN_p (c_mis_g hw g T K hp) (by omega) ?_
  cases h : tI t n p (jtb w) with
  | true =>
    refine ⟨fun x => absurd x (by decide), fun _ => ?_⟩
    refine cN_w (c_step T K hp) (by omega) (fun _ τ hτ => ?_)
    exact ⟨Or.inr rfl, Or.inl ⟨rfl, rfl, hτ⟩⟩
  | false =>
    exact ⟨fun _ => ⟨Or.inl rfl, Or.inr ⟨rfl, rfl, rfl⟩⟩, fun x => absurd rfl x⟩
theorem c_takes_b {w : Nat} (hw : w < jtxs.length) (g : σ 189 22 ≠ 0) : Cw 12 m_Model_takes [vR 189, vT w] σ (fun z τ => z = 0 ∧ τ = σ) := by
  refine Cw_of o_Model_takes rfl fun l d hd => jwp_sound t_Model_takes _ (b_Model_takes_0 ?_)
  simp only [RW, true_and, and_true, and_self, true_or, or_true, Nat.reduceLeDiff, Nat.reduceEqDiff, Nat.reduceAdd, Int.reduceLE, Int.reduceLT, Int.reduceEq, Int.reduceNeg, Int.reduceNe, Nat.reduceSub, reduceIte, implies_true, gt_189]
  refine cN_p (c_mis_b hw g) (by omega) ?_
  exact ⟨fun _ => ⟨Or.inl rfl, rfl, rfl⟩, fun x => absurd rfl x⟩
theorem c_needs_g {w : Nat} (hw : w < jtxs.length) (g : σ 189 22 = 0) (T : TP2 σ t n) (K : TKR σ t n p) (hp : 0 ≤ p ∧ p ≤ n) : Cw 13 m_Model_needs [vR 189, vT w] σ (fun _ τ => (tI t n p (jtb w) = true ∧ TKN σ τ t n (tN t n p)) ∨ (tI t n p (jtb w) = false ∧ τ = WR σ 1 (tS t n p))) := by
  refine Cw_of o_Model_needs rfl fun l d hd => jwp_sound t_Model_needs _ (b_Model_needs_0 ?_)
  simp only [RW, true_and, and_true, and_self, true_or, or_true, Nat.reduceLeDiff, Nat.reduceEqDiff, Nat.reduceAdd, Int.reduceLE, Int.reduceLT, Int.reduceEq, Int.reduceNeg, Int.reduceNe, Nat.reduceSub, reduceIte, implies_true, gt_189]
  refine cN_w (c_takes_g hw g T K hp) (by omega) (fun z τ h => ?_)
  rcases h with ⟨h1, rfl, h2⟩ | ⟨h1, rfl, rfl⟩
  · exact ⟨fun _ => Or.inl ⟨h1, h2⟩, fun x => absurd x (by omega)⟩
  · refine ⟨fun x => absurd rfl x, fun _ => ?_⟩
    exact cN_v (c_wrong_g 1 g K) (by omega) (fun _ => Or.inr ⟨h1, rfl⟩)
theorem c_needs_b {w : Nat} (hw : w < jtxs.length) (g : σ 189 22 ≠ 0) : Cw 13 m_Model_needs [vR 189, vT w] σ (fun _ τ => τ = σ) := by
  refine Cw_of o_Model_needs rfl fun l d hd => jwp_sound t_Model_needs _ (b_Model_needs_0 ?_)
  simp only [RW, true_and, and_true, and_self, true_or, or_true, Nat.reduceLeDiff, Nat.reduceEqDiff, Nat.reduceAdd, Int.reduceLE, Int.reduceLT, Int.reduceEq, Int.reduceNeg, Int.reduceNe, Nat.reduceSub, reduceIte, implies_true, gt_189]
  refine cN_p (c_takes_b hw g) (by omega) ?_
  refine ⟨fun x => absurd rfl x, fun _ => ?_⟩
  exact cN_v (c_wrong_b 1 g) (by omega) (fun _ => rfl)
theorem c_isSign_g {c : Int} (hc : 34 ≤ c) (g : σ 189 22 = 0) (K : TKR σ t n p) : Cw 11 m_Model_isSign [vR 189, vI c] σ (fun z τ => z = (if tK t n p = c then 1 else 0) ∧ τ = σ) := by
  have kr := tK_r (t := t) (n := n) (p := p)
  have tk : tokc (tK t n p) = 3 ↔ 34 ≤ tK t n p := by
    unfold tokc
    split
    · omega
    · split <;> omega
  refine Cw_of o_Model_isSign rfl fun l d hd => jwp_sound t_Model_isSign _ (b_Model_isSign_0 ?_)
  simp only [RW, true_and, and_true, and_self, true_or, or_true, Nat.reduceLeDiff, Nat.reduceEqDiff, Nat.reduceAdd, Int.reduceLE, Int.reduceLT, Int.reduceEq, Int.reduceNeg, Int.reduceNe, Nat.reduceSub, reduceIte, implies_true, gt_189]
  refine cN_p (c_good _) (by omega) ?_
  rw [if_pos g, K.1.2.2.2]
  refine ⟨fun x => absurd x (by omega), fun _ => ⟨fun q => ?_, fun q => ?_⟩⟩
  · rw [if_neg (fun x => q (tk.mpr (by omega)))]
    exact ⟨rfl, rfl⟩
  · rw [K.2.1 (tk.mp q)]
    refine ⟨fun q2 => ?_, fun q2 => ?_⟩
    · rw [if_neg q2]
      exact ⟨rfl, rfl⟩
    · rw [if_pos q2]
      exact ⟨rfl, rfl⟩
theorem c_isSign_b (c : Int) (g : σ 189 22 ≠ 0) : Cw 11 m_Model_isSign [vR 189, vI c] σ (fun z τ => z = 0 ∧ τ = σ) := by
  refine Cw_of o_Model_isSign rfl fun l d hd => jwp_sound t_Model_isSign _ (b_Model_isSign_0 ?_)
  simp only [RW, true_and, and_true, and_self, true_or, or_true, Nat.reduceLeDiff, Nat.reduceEqDiff, Nat.reduceAdd, Int.reduceLE, Int.reduceLT, Int.reduceEq, Int.reduceNeg, Int.reduceNe, Nat.reduceSub, reduceIte, implies_true, gt_189]
  refine cN_p (c_good _) (by omega) ?_
  rw [if_neg g]
  exact ⟨fun _ => rfl, fun x => absurd rfl x⟩
theorem c_needsSign_g {c : Int} (hc : 34 ≤ c) (g : σ 189 22 = 0) (T : TP2 σ t n) (K : TKR σ t n p) (hp : 0 ≤ p ∧ p ≤ n) : Cw 12 m_Model_needsSign [vR 189, vI c] σ (fun _ τ => (tK t n p = c ∧ TKN σ τ t n (tN t n p)) ∨ (tK t n p ≠ c ∧ τ = WR σ 1 (tS t n p))) := by
  refine Cw_of o_Model_needsSign rfl fun l d hd => jwp_sound t_Model_needsSign _ (b_Model_needsSign_0 ?_)
  simp only [RW, true_and, and_true, and_self, true_or, or_true, Nat.reduceLeDiff, Nat.reduceEqDiff, Nat.reduceAdd, Int.reduceLE, Int.reduceLT, Int.reduceEq, Int.reduceNeg, Int.reduceNe, Nat.reduceSub, reduceIte, implies_true, gt_189]
  refine cN_p (c_isSign_g hc g K) (by omega) ?_
  by_cases h : tK t n p = c
  · rw [if_pos h]
    refine ⟨fun _ => ?_, fun x => absurd x (by omega)⟩
    exact cN_w (c_step T K hp) (by omega) (fun _ τ hτ => Or.inl ⟨h, hτ⟩)
  · rw [if_neg h]
    refine ⟨fun x => absurd rfl x, fun _ => ?_⟩
    exact cN_v (c_wrong_g 1 g K) (by omega) (fun _ => Or.inr ⟨h, rfl⟩)
theorem c_needsSign_b (c : Int) (g : σ 189 22 ≠ 0) : Cw 12 m_Model_needsSign [vR 189, vI c] σ (fun _ τ => τ = σ) := by
  refine Cw_of o_Model_needsSign rfl fun l d hd => jwp_sound t_Model_needsSign _ (b_Model_needsSign_0 ?_)
  simp only [RW, true_and, and_true, and_self, true_or, or_true, Nat.reduceLeDiff, Nat.reduceEqDiff, Nat.reduceAdd, Int.reduceLE, Int.reduceLT, Int.reduceEq, Int.reduceNeg, Int.reduceNe, Nat.reduceSub, reduceIte, implies_true, gt_189]
  refine cN_p (c_isSign_b c g) (by omega) ?_
  refine ⟨fun x => absurd rfl x, fun _ => ?_⟩
  exact cN_v (c_wrong_b 1 g) (by omega) (fun _ => rfl)
theorem c_letterHere_g (g : σ 189 22 = 0) (T : TP2 σ t n) (K : TKR σ t n p) (hp : 0 ≤ p ∧ p ≤ n) : Cw 11 m_Model_letterHere [vR 189] σ (fun z τ => z = tL t n p ∧ τ = σ) := by
  have r := tS_r (t := t) hp.2
  have r2 := tN_r (t := t) hp.2
  have T1 := T.1
  have kr := tK_r (t := t) (n := n) (p := p)
  have tk : tokc (tK t n p) = 1 ↔ tK t n p = 1 := by
    unfold tokc
    split
    · omega
    · split <;> omega
  refine Cw_of o_Model_letterHere rfl fun l d hd => jwp_sound t_Model_letterHere _ (b_Model_letterHere_0 ?_)
  simp only [RW, true_and, and_true, and_self, true_or, or_true, Nat.reduceLeDiff, Nat.reduceEqDiff, Nat.reduceAdd, Int.reduceLE, Int.reduceLT, Int.reduceEq, Int.reduceNeg, Int.reduceNe, Nat.reduceSub, reduceIte, implies_true, gt_189, gr_189_14, gt_202]
  refine cN_p (c_good _) (by omega) ?_
  rw [if_pos g, K.1.2.2.2, K.1.2.2.1, K.1.2.1, w32_of (x := tN t n p - tS t n p) (by omega) (by omega)]
  unfold tL
  refine ⟨fun x => absurd x (by omega), fun _ => ⟨fun q => ?_, fun q => ⟨fun q2 => ?_, fun q2 => ?_⟩⟩⟩
  · rw [if_neg (fun x => q (tk.mpr x.1))]
    exact ⟨rfl, rfl⟩
  · rw [if_neg (fun x => q2 x.2)]
    exact ⟨rfl, rfl⟩
  · have q1 := tk.mp q
    have k1 := tK_1 q1
    obtain ⟨b1, b2, b3⟩ := T.2 (tS t n p) (by omega) (by omega)
    rw [if_pos ⟨q1, q2⟩, b1, w32_of (x := t _ - 97) (by omega) (by omega)]
    exact ⟨by omega, by omega, rfl, rfl⟩
theorem c_letterHere_b (g : σ 189 22 ≠ 0) : Cw 11 m_Model_letterHere [vR 189] σ (fun z τ => z = -1 ∧ τ = σ) := by
  refine Cw_of o_Model_letterHere rfl fun l d hd => jwp_sound t_Model_letterHere _ (b_Model_letterHere_0 ?_)
  simp only [RW, true_and, and_true, and_self, true_or, or_true, Nat.reduceLeDiff, Nat.reduceEqDiff, Nat.reduceAdd, Int.reduceLE, Int.reduceLT, Int.reduceEq, Int.reduceNeg, Int.reduceNe, Nat.reduceSub, reduceIte, implies_true, gt_189, gr_189_14, gt_202]
  refine cN_p (c_good _) (by omega) ?_
  rw [if_neg g]
  exact ⟨fun _ => rfl, fun x => absurd rfl x⟩
theorem c_begin (h : σ 189 15 = n) (T : TP2 σ t n) : Cw 12 m_Model_begin [vR 189] σ (fun _ υ => (∀ c, c ≠ 189 → υ c = σ c) ∧ TKR υ t n 0 ∧ (υ 189 22 = 0 ∧ υ 189 23 = -1 ∧ υ 189 15 = 0) ∧ ∀ j, (j < 15 ∨ 23 < j) → υ 189 j = σ 189 j) := by
  have T1 := T.1
  refine Cw_of o_Model_begin rfl fun l d hd => jwp_sound t_Model_begin _ (b_Model_begin_0 ?_)
  simp only [RW, true_and, and_true, and_self, true_or, or_true, Nat.reduceLeDiff, Nat.reduceEqDiff, Nat.reduceAdd, Int.reduceLE, Int.reduceLT, Int.reduceEq, Int.reduceNeg, Int.reduceNe, Nat.reduceSub, reduceIte, implies_true, gt_189]
  rw [h]
  generalize hχ : ju (ju (ju (ju (ju σ 189 17 n) 189 15 0) 189 18 0) 189 22 0) 189 23 (-1) = χ
  have xr : ∀ c, c ≠ 189 → χ c = σ c := fun c hc => by rw [← hχ, ju_row hc, ju_row hc, ju_row hc, ju_row hc, ju_row hc]
  have x17 : χ 189 17 = n := by rw [← hχ, ju_ne2 (by omega), ju_ne2 (by omega), ju_ne2 (by omega), ju_ne2 (by omega), ju_self]
  have x18 : χ 189 18 = 0 := by rw [← hχ, ju_ne2 (by omega), ju_ne2 (by omega), ju_self]
  have x22 : χ 189 22 = 0 := by rw [← hχ, ju_ne2 (by omega), ju_self]
  have x23 : χ 189 23 = -1 := by rw [← hχ, ju_self]
  have x15 : χ 189 15 = 0 := by rw [← hχ, ju_ne2 (by omega), ju_ne2 (by omega), ju_ne2 (by omega), ju_self]
  have xo : ∀ j, (j < 15 ∨ 23 < j) → χ 189 j = σ 189 j := fun j hj => by rw [← hχ, ju_ne2 (by omega), ju_ne2 (by omega), ju_ne2 (by omega), ju_ne2 (by omega), ju_ne2 (by omega)]
  refine cN_w (c_step0 (p := 0) (by unfold TP2; rw [xr 202 (by omega)]; exact T) x17 x18 ⟨by omega, T1.1⟩) (by omega) (fun _ υ h => ?_)
  obtain ⟨F, K⟩ := h
  exact ⟨fun c hc => by rw [F.1 c hc, xr c hc], K, ⟨by rw [F.2 22 (by omega) (by omega) (by omega) (by omega)]; exact x22, by rw [F.2 23 (by omega) (by omega) (by omega) (by omega)]; exact x23, by rw [F.2 15 (by omega) (by omega) (by omega) (by omega)]; exact x15⟩, fun j hj => by rw [F.2 j (by omega) (by omega) (by omega) (by omega), xo j hj]⟩
/-- the word here into a row -/
theorem l_wt_40 {X k N : Int} (hd : 12 ≤ d) (tX : gW.2.1 X = (1, N)) (hN : N < 1000000) (hX : X ≠ 189 ∧ X ≠ 202) (k0 : 0 ≤ k) (k1 : k + 20 < N) (T : TP2 σ t n) (K : TKR σ t n p) (hp : 0 ≤ p ∧ p ≤ n) (h1 : tK t n p = 1) : ∀ (m i : Nat) (τ : jH), (i : Int) + m = min 20 (tN t n p - tS t n p) → (∀ c, c ≠ X → τ c = σ c) → (∀ j, τ X j = if j = k then min 20 (tN t n p - tS t n p) else if k < j ∧ j ≤ k + i then t (tS t n p + (j - k - 1)) - 97 else σ X j) →
    Ev (l, (fun _ => 0), 0) d 0 0 m_Model_wordTo (RW fun _ υ => υ X = wrd (σ X) k t n p ∧ TKR υ t n (tN t n p) ∧ (∀ c, c ≠ 189 → c ≠ X → υ c = σ c) ∧ ∀ j, j ≠ 18 → j ≠ 19 → j ≠ 20 → j ≠ 21 → υ 189 j = σ 189 j) 40 [some (vR 189), some (vR X), some (vI k), some (vI ((i : Int) + 1))] [] gW τ 0 0
  | 0, i, τ, hk, F, V => by
    have eX : τ X = wrd (σ X) k t n p := by
      funext j
      rw [V]
      unfold wrd slw
      rw [show (i : Int) = min 20 (tN t n p - tS t n p) by omega]
    have vk : τ X k = min 20 (tN t n p - tS t n p) := by rw [V, if_pos rfl]
    have Kτ : TKR τ t n p := by
      unfold TKR
      rw [F 189 (by omega)]
      exact K
    have Tτ : TP2 τ t n := by
      unfold TP2
      rw [F 202 (by omega)]
      exact T
    refine jwp_sound t_Model_wordTo _ (b_Model_wordTo_40 ?_)
    simp only [RW, true_and, and_true, and_self, true_or, or_true, Nat.reduceLeDiff, Nat.reduceEqDiff, Nat.reduceAdd, Int.reduceLE, Int.reduceLT, Int.reduceEq, Int.reduceNeg, Int.reduceNe, Nat.reduceSub, reduceIte, implies_true, gt_189, gr_189_14, gt_202]
    rw [tX, vk]
    refine ⟨rfl, by omega, by omega, fun _ => ?_, fun q => absurd hk (by omega)⟩
    refine cN_w (c_step Tτ Kτ hp) (by omega) (fun _ υ h => ?_)
    obtain ⟨F2, K2⟩ := h
    exact ⟨by rw [F2.1 X (by omega)]; exact eX, K2, fun c a b => by rw [F2.1 c a, F c b], fun j a b c e => by rw [F2.2 j a b c e, F 189 (by omega)]⟩
  | m + 1, i, τ, hk, F, V => by
    have r := tS_r (t := t) hp.2
    have r2 := tN_r (t := t) hp.2
    have T1 := T.1
    obtain ⟨b1, b2, b3⟩ := T.2 (tS t n p + i) (by omega) (by omega)
    have vk : τ X k = min 20 (tN t n p - tS t n p) := by rw [V, if_pos rfl]
    have IH := l_wt_40 hd tX hN hX k0 k1 T K hp h1 m (i + 1) (ju τ X (k + (i + 1)) (t (tS t n p + i) - 97)) (by omega) (fun c hc => by rw [ju_row hc, F c hc]) (fun j => by
      by_cases y : j = k + (i + 1)
      · rw [y, ju_self, if_neg (by omega), if_pos (by omega), show k + ((i : Int) + 1) - k - 1 = i by omega]
      · rw [ju_ne2 y, V j]
        by_cases x : j = k
        · rw [if_pos x, if_pos x]
        · rw [if_neg x, if_neg x]
          by_cases z : k < j ∧ j ≤ k + i
          · rw [if_pos z, if_pos (by omega)]
          · rw [if_neg z, if_neg (by omega)])
    rw [show ((i + 1 : Nat) : Int) = (i : Int) + 1 by omega] at IH
    refine jwp_sound t_Model_wordTo _ (b_Model_wordTo_40 ?_)
    simp only [RW, true_and, and_true, and_self, true_or, or_true, Nat.reduceLeDiff, Nat.reduceEqDiff, Nat.reduceAdd, Int.reduceLE, Int.reduceLT, Int.reduceEq, Int.reduceNeg, Int.reduceNe, Nat.reduceSub, reduceIte, implies_true, gt_189, gr_189_14, gt_202]
    rw [tX, vk, F 189 (by omega), K.1.2.1, w32_of (x := tS t n p + ((i : Int) + 1)) (by omega) (by omega), w32_of (x := tS t n p + ((i : Int) + 1) - 1) (by omega) (by omega), show tS t n p + ((i : Int) + 1) - 1 = tS t n p + i by omega, F 202 (by omega), b1, w32_of (x := k + ((i : Int) + 1)) (by omega) (by omega), w32_of (x := (i : Int) + 1 + 1) (by omega) (by omega), w32_of (x := t _ - 97) (by omega) (by omega)]
    exact ⟨rfl, by omega, by omega, fun q => absurd hk (by omega), fun _ => ⟨by omega, by omega, rfl, by omega, by omega, IH⟩⟩
theorem c_wordTo_g {X k N : Int} (tX : gW.2.1 X = (1, N)) (hN : N < 1000000) (hX : X ≠ 189 ∧ X ≠ 202) (k0 : 0 ≤ k) (k1 : k + 20 < N) (g : σ 189 22 = 0) (T : TP2 σ t n) (K : TKR σ t n p) (hp : 0 ≤ p ∧ p ≤ n) : Cw 12 m_Model_wordTo [vR 189, vR X, vI k] σ (fun _ υ => (tK t n p = 1 ∧ υ X = wrd (σ X) k t n p ∧ TKR υ t n (tN t n p) ∧ (∀ c, c ≠ 189 → c ≠ X → υ c = σ c) ∧ ∀ j, j ≠ 18 → j ≠ 19 → j ≠ 20 → j ≠ 21 → υ 189 j = σ 189 j) ∨ (tK t n p ≠ 1 ∧ υ = WR σ 1 (tS t n p))) := by
  have r := tS_r (t := t) hp.2
  have r2 := tN_r (t := t) hp.2
  have T1 := T.1
  have kr := tK_r (t := t) (n := n) (p := p)
  have tk : tokc (tK t n p) = 1 ↔ tK t n p = 1 := by
    unfold tokc
    split
    · omega
    · split <;> omega
  refine Cw_of o_Model_wordTo rfl fun l d hd => jwp_sound t_Model_wordTo _ (b_Model_wordTo_0 ?_)
  simp only [RW, true_and, and_true, and_self, true_or, or_true, Nat.reduceLeDiff, Nat.reduceEqDiff, Nat.reduceAdd, Int.reduceLE, Int.reduceLT, Int.reduceEq, Int.reduceNeg, Int.reduceNe, Nat.reduceSub, reduceIte, implies_true, gt_189, gr_189_14, gt_202]
  rw [K.1.2.2.2]
  refine ⟨fun q => ?_, fun q => ?_⟩
  · have q1 := tk.mp q
    refine jwp_sound t_Model_wordTo _ (b_Model_wordTo_13 ?_)
    simp only [RW, true_and, and_true, and_self, true_or, or_true, Nat.reduceLeDiff, Nat.reduceEqDiff, Nat.reduceAdd, Int.reduceLE, Int.reduceLT, Int.reduceEq, Int.reduceNeg, Int.reduceNe, Nat.reduceSub, reduceIte, implies_true, gt_189, gr_189_14, gt_202]
    refine cN_p (c_good _) (by omega) ?_
    rw [if_pos g, K.1.2.2.1, K.1.2.1, w32_of (by omega) (by omega), tX]
    refine ⟨fun _ => ⟨by omega, rfl, k0, by omega, ?_⟩, fun x => absurd x (by omega)⟩
    have go := l_wt_40 (l := l) (σ := σ) (X := X) (k := k) hd tX hN hX k0 k1 T K hp q1 (min 20 (tN t n p - tS t n p)).toNat 0 (ju σ X k (min 20 (tN t n p - tS t n p))) (by omega) (fun c hc => ju_row hc) (fun j => by
      by_cases y : j = k
      · rw [if_pos y, y, ju_self]
      · rw [if_neg y, ju_ne2 y, if_neg (by omega)])
    refine Ev_post go (fun _ υ h => Or.inl ⟨q1, h⟩)
  · refine cN_v (c_wrong_g 1 g K) (by omega) (fun _ => ?_)
    refine jwp_sound t_Model_wordTo _ (b_Model_wordTo_13 ?_)
    simp only [RW, true_and, and_true, and_self, true_or, or_true, Nat.reduceLeDiff, Nat.reduceEqDiff, Nat.reduceAdd, Int.reduceLE, Int.reduceLT, Int.reduceEq, Int.reduceNeg, Int.reduceNe, Nat.reduceSub, reduceIte, implies_true, gt_189, gr_189_14, gt_202]
    refine cN_p (c_good _) (by omega) ?_
    have z : WR σ 1 (tS t n p) 189 22 = 1 := by
      unfold WR
      rw [ju_ne2 (by omega), ju_self]
    rw [z, if_neg (by omega)]
    exact ⟨fun x => absurd rfl x, fun _ => Or.inr ⟨fun x => q (tk.mpr x), rfl⟩⟩
theorem c_wordTo_b (X k : Int) (g : σ 189 22 ≠ 0) : Cw 12 m_Model_wordTo [vR 189, vR X, vI k] σ (fun _ υ => υ = σ) := by
  refine Cw_of o_Model_wordTo rfl fun l d hd => jwp_sound t_Model_wordTo _ (b_Model_wordTo_0 ?_)
  simp only [RW, true_and, and_true, and_self, true_or, or_true, Nat.reduceLeDiff, Nat.reduceEqDiff, Nat.reduceAdd, Int.reduceLE, Int.reduceLT, Int.reduceEq, Int.reduceNeg, Int.reduceNe, Nat.reduceSub, reduceIte, implies_true, gt_189, gr_189_14, gt_202]
  have e : Ev (l, (fun _ => 0), 0) d 0 0 m_Model_wordTo (RW fun _ υ => υ = σ) 13 [some (vR 189), some (vR X), some (vI k), none] [] gW σ 0 0 := by
    refine jwp_sound t_Model_wordTo _ (b_Model_wordTo_13 ?_)
    simp only [RW, true_and, and_true, and_self, true_or, or_true, Nat.reduceLeDiff, Nat.reduceEqDiff, Nat.reduceAdd, Int.reduceLE, Int.reduceLT, Int.reduceEq, Int.reduceNeg, Int.reduceNe, Nat.reduceSub, reduceIte, implies_true, gt_189, gr_189_14, gt_202]
    refine cN_p (c_good _) (by omega) ?_
    rw [if_neg g]
    exact ⟨fun x => absurd rfl x, fun _ => rfl⟩
  exact ⟨fun _ => e, fun _ => cN_v (c_wrong_b 1 g) (by omega) (fun _ => e)⟩
def s_fault (k s what : Int) : Int := if what = 0 then k else if what = 1 then s else -1
theorem c_fault (what : Int) (σ : jH) : Cw 10 m_WordPlaces_fault [vR 1, vI what] σ (fun z τ => z = s_fault (σ 140 6) (σ 140 7) what ∧ τ = σ) := by
  unfold s_fault
  refine Cw_of o_WordPlaces_fault rfl fun l d hd => jwp_sound t_WordPlaces_fault _ (b_WordPlaces_fault_0 ?_)
  simp only [RW, true_and, and_true, and_self, true_or, or_true, Nat.reduceLeDiff, Nat.reduceEqDiff, Nat.reduceAdd, Int.reduceLE, Int.reduceLT, Int.reduceEq, Int.reduceNeg, Int.reduceNe, Nat.reduceSub, reduceIte, implies_true, gt_1, gr_1_7, gt_140]
  refine ⟨fun q => ⟨fun q2 => ?_, fun q2 => ?_⟩, fun q => ?_⟩
  · rw [if_neg q, if_neg q2]
  · rw [if_neg q, if_pos q2]
  · rw [if_pos q]
theorem c_Model_fault (what : Int) (σ : jH) : Cw 10 m_Model_fault [vR 189, vI what] σ (fun z τ => z = s_fault (σ 189 22) (σ 189 23) what ∧ τ = σ) := by
  unfold s_fault
  refine Cw_of o_Model_fault rfl fun l d hd => jwp_sound t_Model_fault _ (b_Model_fault_0 ?_)
  simp only [RW, true_and, and_true, and_self, true_or, or_true, Nat.reduceLeDiff, Nat.reduceEqDiff, Nat.reduceAdd, Int.reduceLE, Int.reduceLT, Int.reduceEq, Int.reduceNeg, Int.reduceNe, Nat.reduceSub, reduceIte, implies_true, gt_189]
  refine ⟨fun q => ⟨fun q2 => ?_, fun q2 => ?_⟩, fun q => ?_⟩
  · rw [if_neg q, if_neg q2]
  · rw [if_neg q, if_pos q2]
  · rw [if_pos q]
end T5
