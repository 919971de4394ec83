/-! The reference: the tape's line -/
theorem c_Model_isByte (b : Int) (σ : jH) : Cw 11 m_Model_isByte [vI b] σ (fun z τ => (z ≠ 0 ↔ isLB b) ∧ τ = σ) := by
  refine Cw_of o_Model_isByte rfl fun l d hd => jwp_sound t_Model_isByte _ (b_Model_isByte_0 ?_)
  refine cN_p (c_Model_isLetter _ _) (by omega) ?_
  by_cases q : isL b
  · rw [if_pos q]
    exact ⟨fun _ => ⟨by omega, rfl, ⟨fun _ => Or.inl q, fun _ => by omega⟩, rfl⟩, fun x => by omega⟩
  · rw [if_neg q]
    exact ⟨fun x => absurd rfl x, fun _ => ⟨fun h => ⟨by omega, rfl, ⟨fun _ => Or.inr (Or.inl h), fun _ => by omega⟩, rfl⟩, fun h => ⟨fun h2 => ⟨by omega, rfl, ⟨fun x => absurd rfl x, fun x => by rcases x with x | x | x; exact absurd x q; exact absurd x h; exact absurd x h2⟩, rfl⟩, fun h2 => ⟨by omega, rfl, ⟨fun _ => Or.inr (Or.inr h2), fun _ => by omega⟩, rfl⟩⟩⟩⟩
def FTL (σ τ : jH) : Prop := (∀ c, c ≠ 189 → c ≠ 206 → τ c = σ c) ∧ (∀ j, j ≠ 15 → τ 189 j = σ 189 j) ∧ τ 189 15 = 0
/-- a line's text has come -/
def TLN (σ τ : jH) (n : Int) (t : Int → Int) (z : Int) : Prop := FTL σ τ ∧ ((lok t n ∧ z = n ∧ ∀ j, 0 ≤ j → j < n → τ 206 j = t j) ∨ (¬ lok t n ∧ z = -1))
section RL
variable {l : Launch} {d : Nat} {e i n : Int} {ω : Int → Int} {σ : jH}
theorem l_tapeLine {t : Int → Int} (hd : 12 ≤ d) (hn : 0 ≤ n ∧ n ≤ 60) (ht : ∀ j, 0 ≤ j → j < n → σ 202 j = t j) : ∀ (m k : Nat) (τ : jH), (k : Int) + m = n → FTL σ τ → (∀ j : Int, 0 ≤ j → j < k → τ 206 j = t j ∧ isLB (t j)) →
    Ev (l, (fun _ => 0), 0) d 0 0 m_Model_tapeLine (RW fun z υ => TLN σ υ n t z) 20 [some (vR 189), some (vI n), some (vI k)] [] gW τ 0 0
  | 0, k, τ, h, F, I => by
    refine jwp_sound t_Model_tapeLine _ (b_Model_tapeLine_20 ?_)
    simp only [RW, true_and, and_true, and_self, true_or, or_true, Nat.reduceLeDiff, Nat.reduceEqDiff, Nat.reduceAdd, Int.reduceLE, Int.reduceLT, Int.reduceEq, Int.reduceNeg, Int.reduceNe, Nat.reduceSub, reduceIte, implies_true, gt_189, gr_189_14, gt_202, gr_189_27, gt_206]
    refine ⟨fun _ => ⟨F, Or.inl ⟨⟨hn.2, ltx_iff.mpr (fun j a b => (I j a (by omega)).2)⟩, rfl, fun j a b => (I j a (by omega)).1⟩⟩, fun q => absurd q (by omega)⟩
  | m + 1, k, τ, h, F, I => by
    have e202 : τ 202 k = t k := by
      rw [F.1 202 (by omega) (by omega)]
      exact ht k (by omega) (by omega)
    have F' : FTL σ (ju τ 206 k (t k)) := ⟨fun c a b => by rw [ju_row b]; exact F.1 c a b, fun j hj => by rw [ju_row (by omega)]; exact F.2.1 j hj, by rw [ju_row (by omega)]; exact F.2.2⟩
    have IH := fun (q : isLB (t k)) => l_tapeLine hd hn ht m (k + 1) (ju τ 206 k (t k)) (by omega) F' (fun j a b => by
      by_cases q2 : j = k
      · rw [q2, ju_self]
        exact ⟨rfl, q⟩
      · rw [ju_ne2 q2]
        exact I j a (by omega))
    rw [show ((k + 1 : Nat) : Int) = (k : Int) + 1 by omega] at IH
    refine jwp_sound t_Model_tapeLine _ (b_Model_tapeLine_20 ?_)
    simp only [RW, true_and, and_true, and_self, true_or, or_true, Nat.reduceLeDiff, Nat.reduceEqDiff, Nat.reduceAdd, Int.reduceLE, Int.reduceLT, Int.reduceEq, Int.reduceNeg, Int.reduceNe, Nat.reduceSub, reduceIte, implies_true, gt_189, gr_189_14, gt_202, gr_189_27, gt_206]
    rw [e202, w32_of (x := (k : Int) + 1) (by omega) (by omega)]
    refine ⟨fun q => absurd q (by omega), fun _ => ?_⟩
    repeat (refine And.intro (by omega) ?_)
    rw [ju_self]
    refine cN_w (c_Model_isByte _ _) (by omega) (fun z υ h => ?_)
    obtain ⟨h, rfl⟩ := h
    exact ⟨fun q => IH (h.mp q), fun q => ⟨F', Or.inr ⟨fun x => absurd q (h.mpr (ltx_iff.mp x.2 k (by omega) (by omega))), rfl⟩⟩⟩
theorem c_Model_tapeLine {t : Int → Int} (T : TPR σ n t) : Cw 12 m_Model_tapeLine [vR 189] σ (fun z τ => TLN σ τ n t z) := by
  obtain ⟨h1, ⟨h2, h3⟩, h4⟩ := T
  have F : FTL σ (ju σ 189 15 0) := ⟨fun c a _ => ju_row a, fun j hj => ju_ne2 hj, ju_self⟩
  refine Cw_of o_Model_tapeLine rfl fun l d hd => jwp_sound t_Model_tapeLine _ (b_Model_tapeLine_0 ?_)
  simp only [RW, true_and, and_true, and_self, true_or, or_true, Nat.reduceLeDiff, Nat.reduceEqDiff, Nat.reduceAdd, Int.reduceLE, Int.reduceLT, Int.reduceEq, Int.reduceNeg, Int.reduceNe, Nat.reduceSub, reduceIte, implies_true, gt_189, gr_189_14, gt_202, gr_189_27, gt_206]
  rw [h1]
  refine ⟨fun q => ?_, fun q => ⟨F, Or.inr ⟨fun x => absurd x.1 (by omega), rfl⟩⟩⟩
  exact l_tapeLine hd ⟨h2, q⟩ h4 n.toNat 0 _ (by omega) F (fun j a b => by omega)
end RL
