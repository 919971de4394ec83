/-! The reference: small methods, bytes of lines -/
theorem c_Model_in (v a b : Int) (σ : jH) : Cw 10 m_Model_in [vL v, vL a, vL b] σ (fun z τ => z = (if a ≤ v ∧ v ≤ b then 1 else 0) ∧ τ = σ) := by
  refine Cw_of o_Model_in rfl fun l d hd => jwp_sound t_Model_in _ (b_Model_in_0 ?_)
  simp only [RW, true_and, and_true, and_self, true_or, or_true, Nat.reduceLeDiff, Nat.reduceEqDiff, Nat.reduceAdd, Int.reduceLE, Int.reduceLT, Int.reduceEq, Int.reduceNeg, Int.reduceNe, Nat.reduceSub, reduceIte, implies_true]
  unfold jcmp
  grind
theorem c_Model_isEdition (e : Int) (σ : jH) : Cw 11 m_Model_isEdition [vI e] σ (fun z τ => z = (if 0 ≤ e ∧ e ≤ 1 then 1 else 0) ∧ τ = σ) := by
  refine Cw_of o_Model_isEdition rfl fun l d hd => jwp_sound t_Model_isEdition _ (b_Model_isEdition_0 ?_)
  refine cN_p (c_Model_in _ _ _ _) (by omega) ?_
  simp only [RW, true_and, and_true, and_self, true_or, or_true, Nat.reduceLeDiff, Nat.reduceEqDiff, Nat.reduceAdd, Int.reduceLE, Int.reduceLT, Int.reduceEq, Int.reduceNeg, Int.reduceNe, Nat.reduceSub, reduceIte, implies_true]
  grind
theorem c_Model_lineAt {e i : Int} (σ : jH) (h0 : 0 ≤ e) (h1 : e ≤ 1) (h2 : 0 ≤ i) (h3 : i ≤ 40) : Cw 10 m_Model_lineAt [vI e, vI i] σ (fun z τ => z = lA e i ∧ τ = σ) := by
  refine Cw_of o_Model_lineAt rfl fun l d hd => jwp_sound t_Model_lineAt _ (b_Model_lineAt_0 ?_)
  simp only [RW, true_and, and_true, and_self, true_or, or_true, Nat.reduceLeDiff, Nat.reduceEqDiff, Nat.reduceAdd, Int.reduceLE, Int.reduceLT, Int.reduceEq, Int.reduceNeg, Int.reduceNe, Nat.reduceSub, reduceIte, implies_true]
  unfold lA
  simp (disch := omega) only [w32_of]
theorem c_Model_linesOf {e : Int} (σ : jH) (h0 : 0 ≤ e) (h1 : e ≤ 1) : Cw 10 m_Model_linesOf [vR 189, vI e] σ (fun z τ => z = σ 190 (3 + e) ∧ τ = σ) := by
  refine Cw_of o_Model_linesOf rfl fun l d hd => jwp_sound t_Model_linesOf _ (b_Model_linesOf_0 ?_)
  simp only [RW, true_and, and_true, and_self, true_or, or_true, Nat.reduceLeDiff, Nat.reduceEqDiff, Nat.reduceAdd, Int.reduceLE, Int.reduceLT, Int.reduceEq, Int.reduceNeg, Int.reduceNe, Nat.reduceSub, reduceIte, implies_true, gt_189, gr_189_1, gt_190]
  simp (disch := omega) only [w32_of]
  simp only [RW, true_and, and_true, and_self, true_or, or_true, Nat.reduceLeDiff, Nat.reduceEqDiff, Nat.reduceAdd, Int.reduceLE, Int.reduceLT, Int.reduceEq, Int.reduceNeg, Int.reduceNe, Nat.reduceSub, reduceIte, implies_true]
  omega
theorem c_Model_isLetter (b : Int) (σ : jH) : Cw 10 m_Model_isLetter [vI b] σ (fun z τ => z = (if isL b then 1 else 0) ∧ τ = σ) := by
  refine Cw_of o_Model_isLetter rfl fun l d hd => jwp_sound t_Model_isLetter _ (b_Model_isLetter_0 ?_)
  simp only [RW, true_and, and_true, and_self, true_or, or_true, Nat.reduceLeDiff, Nat.reduceEqDiff, Nat.reduceAdd, Int.reduceLE, Int.reduceLT, Int.reduceEq, Int.reduceNeg, Int.reduceNe, Nat.reduceSub, reduceIte, implies_true]
  grind
theorem c_Model_folded {l : Int} (σ : jH) (h0 : 0 ≤ l) (h1 : l < 26) : Cw 10 m_Model_folded [vR 189, vI l] σ (fun z τ => z = fo (σ 190) l ∧ τ = σ) := by
  refine Cw_of o_Model_folded rfl fun l d hd => jwp_sound t_Model_folded _ (b_Model_folded_0 ?_)
  simp only [RW, true_and, and_true, and_self, true_or, or_true, Nat.reduceLeDiff, Nat.reduceEqDiff, Nat.reduceAdd, Int.reduceLE, Int.reduceLT, Int.reduceEq, Int.reduceNeg, Int.reduceNe, Nat.reduceSub, reduceIte, implies_true, gt_189, gr_189_1, gt_190]
  simp (disch := omega) only [w32_of]
  unfold fo
  grind
theorem c_Model_byteOf {e i k : Int} (σ : jH) (h0 : 0 ≤ e) (h1 : e ≤ 1) (h2 : 0 ≤ i) (h3 : i < 40) (h4 : 0 ≤ k) (h5 : σ 190 (lA e i) ≤ 60) : Cw 11 m_Model_byteOf [vR 189, vI e, vI i, vI k] σ (fun z τ => z = bt (σ 190) e i k ∧ τ = σ) := by
  refine Cw_of o_Model_byteOf rfl fun l d hd => jwp_sound t_Model_byteOf _ (b_Model_byteOf_0 ?_)
  simp only [RW, true_and, and_true, and_self, true_or, or_true, Nat.reduceLeDiff, Nat.reduceEqDiff, Nat.reduceAdd, Int.reduceLE, Int.reduceLT, Int.reduceEq, Int.reduceNeg, Int.reduceNe, Nat.reduceSub, reduceIte, implies_true, gt_189, gr_189_1, gt_190]
  have hl : 2597 ≤ lA e i ∧ lA e i ≤ 7416 := by unfold lA; omega
  refine cN_p (c_Model_lineAt _ h0 h1 h2 (by omega)) (by omega) ?_
  refine ⟨by omega, by omega, fun q => ⟨by rw [bt_end q], rfl⟩, fun q => ?_⟩
  refine cN_p (c_Model_lineAt _ h0 h1 h2 (by omega)) (by omega) ?_
  rw [w32_of (x := lA e i + 1) (by omega) (by omega), w32_of (by omega) (by omega)]
  refine ⟨by omega, by omega, ?_, rfl⟩
  unfold bt
  rw [if_pos q]
/-- where the next letter stands, from a place on -/
def RF (ω : Int → Int) (e i a x : Int) : Prop := (x = -1 ∧ ∀ k, a ≤ k → k < ω (lA e i) → ¬ isL (bt ω e i k)) ∨ (a ≤ x ∧ x < ω (lA e i) ∧ isL (bt ω e i x) ∧ ∀ k, a ≤ k → k < x → ¬ isL (bt ω e i k))
theorem l_Model_runFrom {l : Launch} {d : Nat} {e i a : Int} {σ : jH} (hd : 12 ≤ d) (h0 : 0 ≤ e) (h1 : e ≤ 1) (h2 : 0 ≤ i) (h3 : i < 40) (ha : 0 ≤ a) (h5 : σ 190 (lA e i) ≤ 60) : ∀ (n : Nat) (k : Int), a ≤ k → σ 190 (lA e i) - k ≤ n → (∀ j, a ≤ j → j < k → ¬ isL (bt (σ 190) e i j)) →
    Ev (l, (fun _ => 0), 0) d 0 0 m_Model_runFrom (RW fun z τ => RF (σ 190) e i a z ∧ τ = σ) 3 [some (vR 189), some (vI e), some (vI i), none, some (vI k)] [] gW σ 0 0 := by
  have hl : 2597 ≤ lA e i ∧ lA e i ≤ 7416 := by unfold lA; omega
  intro n
  induction n with
  | zero =>
    intro k hk hn hj
    refine jwp_sound t_Model_runFrom _ (b_Model_runFrom_3 ?_)
    simp only [RW, true_and, and_true, and_self, true_or, or_true, Nat.reduceLeDiff, Nat.reduceEqDiff, Nat.reduceAdd, Int.reduceLE, Int.reduceLT, Int.reduceEq, Int.reduceNeg, Int.reduceNe, Nat.reduceSub, reduceIte, implies_true, gt_189, gr_189_1, gt_190]
    refine cN_p (c_Model_lineAt _ h0 h1 h2 (by omega)) (by omega) ?_
    refine ⟨by omega, by omega, fun q => ⟨Or.inl ⟨rfl, fun j q1 q2 => hj j q1 (by omega)⟩, by trivial⟩, fun q => absurd q (by omega)⟩
  | succ n ih =>
    intro k hk hn hj
    refine jwp_sound t_Model_runFrom _ (b_Model_runFrom_3 ?_)
    simp only [RW, true_and, and_true, and_self, true_or, or_true, Nat.reduceLeDiff, Nat.reduceEqDiff, Nat.reduceAdd, Int.reduceLE, Int.reduceLT, Int.reduceEq, Int.reduceNeg, Int.reduceNe, Nat.reduceSub, reduceIte, implies_true, gt_189, gr_189_1, gt_190]
    refine cN_p (c_Model_lineAt _ h0 h1 h2 (by omega)) (by omega) ?_
    refine ⟨by omega, by omega, fun q => ⟨Or.inl ⟨rfl, fun j q1 q2 => hj j q1 (by omega)⟩, by trivial⟩, fun q => ?_⟩
    refine cN_p (c_Model_byteOf _ h0 h1 h2 h3 (by omega) h5) (by omega) ?_
    refine cN_p (c_Model_isLetter _ _) (by omega) ?_
    refine ⟨fun q2 => ?_, fun q2 => ⟨Or.inr ⟨hk, q, ?_, hj⟩, by trivial⟩⟩
    · rw [w32_of (by omega) (by omega)]
      refine ih (k + 1) (by omega) (by omega) (fun j q3 q4 => ?_)
      by_cases hjk : j = k
      · subst hjk
        intro q5
        rw [if_pos q5] at q2
        cases q2
      · exact hj j q3 (by omega)
    · by_cases q5 : isL (bt (σ 190) e i k)
      · exact q5
      · rw [if_neg q5] at q2
        exact absurd rfl q2
theorem c_Model_runFrom {e i a : Int} (σ : jH) (h0 : 0 ≤ e) (h1 : e ≤ 1) (h2 : 0 ≤ i) (h3 : i < 40) (ha : 0 ≤ a) (h5 : σ 190 (lA e i) ≤ 60) : Cw 12 m_Model_runFrom [vR 189, vI e, vI i, vI a] σ (fun z τ => RF (σ 190) e i a z ∧ τ = σ) := by
  refine Cw_of o_Model_runFrom rfl fun l d hd => jwp_sound t_Model_runFrom _ (b_Model_runFrom_0 ?_)
  exact l_Model_runFrom hd h0 h1 h2 h3 ha h5 60 a (by omega) (by omega) (fun j q1 q2 => absurd q2 (by omega))
def RE (ω : Int → Int) (e i a x : Int) : Prop := a ≤ x ∧ ¬ isL (bt ω e i x) ∧ ∀ k, a ≤ k → k < x → isL (bt ω e i k)
theorem l_Model_runEnd {l : Launch} {d : Nat} {e i a : Int} {σ : jH} (hd : 12 ≤ d) (h0 : 0 ≤ e) (h1 : e ≤ 1) (h2 : 0 ≤ i) (h3 : i < 40) (ha : 0 ≤ a) (h5 : σ 190 (lA e i) ≤ 60) : ∀ (n : Nat) (k : Int), a ≤ k → σ 190 (lA e i) - k < n → (∀ j, a ≤ j → j < k → isL (bt (σ 190) e i j)) →
    Ev (l, (fun _ => 0), 0) d 0 0 m_Model_runEnd (RW fun z τ => RE (σ 190) e i a z ∧ τ = σ) 3 [some (vR 189), some (vI e), some (vI i), none, some (vI k)] [] gW σ 0 0 := by
  intro n
  induction n with
  | zero =>
    intro k hk hn hj
    refine jwp_sound t_Model_runEnd _ (b_Model_runEnd_3 ?_)
    simp only [RW, true_and, and_true, and_self, true_or, or_true, Nat.reduceLeDiff, Nat.reduceEqDiff, Nat.reduceAdd, Int.reduceLE, Int.reduceLT, Int.reduceEq, Int.reduceNeg, Int.reduceNe, Nat.reduceSub, reduceIte, implies_true, gt_189]
    refine cN_p (c_Model_byteOf _ h0 h1 h2 h3 (by omega) h5) (by omega) ?_
    refine cN_p (c_Model_isLetter _ _) (by omega) ?_
    have q5 : ¬ isL (bt (σ 190) e i k) := fun q => by
      have := bt_nl q
      omega
    rw [if_neg q5]
    exact ⟨fun _ => ⟨⟨hk, q5, hj⟩, by trivial⟩, fun q => absurd rfl q⟩
  | succ n ih =>
    intro k hk hn hj
    refine jwp_sound t_Model_runEnd _ (b_Model_runEnd_3 ?_)
    simp only [RW, true_and, and_true, and_self, true_or, or_true, Nat.reduceLeDiff, Nat.reduceEqDiff, Nat.reduceAdd, Int.reduceLE, Int.reduceLT, Int.reduceEq, Int.reduceNeg, Int.reduceNe, Nat.reduceSub, reduceIte, implies_true, gt_189]
    refine cN_p (c_Model_byteOf _ h0 h1 h2 h3 (by omega) h5) (by omega) ?_
    refine cN_p (c_Model_isLetter _ _) (by omega) ?_
    by_cases q5 : isL (bt (σ 190) e i k)
    · have hkl := bt_nl q5
      rw [if_pos q5, w32_of (by omega) (by omega)]
      refine ⟨fun q => (by cases q), fun _ => ih (k + 1) (by omega) (by omega) (fun j q3 q4 => ?_)⟩
      by_cases hjk : j = k
      · exact hjk ▸ q5
      · exact hj j q3 (by omega)
    · rw [if_neg q5]
      exact ⟨fun _ => ⟨⟨hk, q5, hj⟩, by trivial⟩, fun q => absurd rfl q⟩
theorem c_Model_runEnd {e i a : Int} (σ : jH) (h0 : 0 ≤ e) (h1 : e ≤ 1) (h2 : 0 ≤ i) (h3 : i < 40) (ha : 0 ≤ a) (h5 : σ 190 (lA e i) ≤ 60) : Cw 12 m_Model_runEnd [vR 189, vI e, vI i, vI a] σ (fun z τ => RE (σ 190) e i a z ∧ τ = σ) := by
  refine Cw_of o_Model_runEnd rfl fun l d hd => jwp_sound t_Model_runEnd _ (b_Model_runEnd_0 ?_)
  exact l_Model_runEnd hd h0 h1 h2 h3 ha h5 (σ 190 (lA e i) - a + 1).toNat a (by omega) (by omega) (fun j q1 q2 => absurd q2 (by omega))
theorem c_Model_isCut {e i k : Int} (σ : jH) (h0 : 0 ≤ e) (h1 : e ≤ 1) (h2 : 0 ≤ i) (h3 : i < 40) (h4 : 0 ≤ k) (h5 : σ 190 (lA e i) ≤ 60) (h6 : 0 ≤ σ 190 (lA e i)) (h7 : i + 1 < σ 190 (3 + e) → i + 1 < 40 ∧ σ 190 (lA e (i + 1)) ≤ 60) : Cw 13 m_Model_isCut [vR 189, vI e, vI i, vI k] σ (fun z τ => z = (if cutA (σ 190) e i k = true then 1 else 0) ∧ τ = σ) := by
  refine Cw_of o_Model_isCut rfl fun l d hd => jwp_sound t_Model_isCut _ (b_Model_isCut_0 ?_)
  simp only [RW, true_and, and_true, and_self, true_or, or_true, Nat.reduceLeDiff, Nat.reduceEqDiff, Nat.reduceAdd, Int.reduceLE, Int.reduceLT, Int.reduceEq, Int.reduceNeg, Int.reduceNe, Nat.reduceSub, reduceIte, implies_true, gt_189, gr_189_1, gt_190]
  have hl : 2597 ≤ lA e i ∧ lA e i ≤ 7416 := by unfold lA; omega
  refine cN_p (c_Model_byteOf _ h0 h1 h2 h3 h4 h5) (by omega) ?_
  unfold cutA
  refine ⟨fun q => by simp [q], fun q => ?_⟩
  refine cN_p (c_Model_lineAt _ h0 h1 h2 (by omega)) (by omega) ?_
  rw [w32_of (by omega) (by omega)]
  refine ⟨by omega, by omega, fun q2 => by simp [q2], fun q2 => ?_⟩
  refine cN_p (c_Model_linesOf _ h0 h1) (by omega) ?_
  rw [w32_of (by omega) (by omega)]
  refine ⟨fun q3 => ?_, fun q3 => ?_⟩
  · have q4 : ¬ (i + 1 < σ 190 (3 + e)) := by omega
    simp [q4]
  · obtain ⟨q5, q6⟩ := h7 q3
    refine cN_w (c_Model_runFrom _ h0 h1 (by omega) q5 (by omega) q6) (by omega) (fun x τ hx => ?_)
    obtain ⟨hx, rfl⟩ := hx
    have hR : hasR (τ 190) e (i + 1) = true ↔ x ≠ -1 := by
      rw [hasR_iff]
      rcases hx with ⟨rfl, hx⟩ | ⟨hx1, hx2, hx3, hx4⟩
      · constructor
        · rintro ⟨k, a1, a2, a3⟩
          exact absurd a3 (hx k a1 a2)
        · intro a
          exact absurd rfl a
      · exact ⟨fun _ => by omega, fun _ => ⟨x, hx1, hx2, hx3⟩⟩
    refine ⟨fun a => ?_, fun a => ?_⟩
    · have : hasR (τ 190) e (i + 1) = false := by
        cases hh : hasR (τ 190) e (i + 1)
        · rfl
        · exact absurd a (hR.mp hh)
      simp [this]
    · simp [hR.mpr a, q3, q, ← q2]
