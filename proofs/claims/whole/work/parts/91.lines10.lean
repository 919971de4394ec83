/-! The reference: a line out of a slot -/
section RO
variable {l : Launch} {d : Nat} {e n : Int} {ω : Int → Int} {σ : jH} {m w x : Int → Int}
def LOR (σ τ : jH) (ω : Int → Int) (e s : Int) (m w x : Int → Int) (z : Int) : Prop :=
  (¬ ((0 ≤ e ∧ e ≤ 1) ∧ 0 ≤ s ∧ s < 4) ∧ z = -2 ∧ τ = σ) ∨ (((0 ≤ e ∧ e ≤ 1) ∧ 0 ≤ s ∧ s < 4) ∧ ((m s = -1 ∧ z = -6 ∧ τ = σ) ∨ (m s ≠ -1 ∧ w s ≠ 0 ∧ z = -8 ∧ τ = σ) ∨ (m s ≠ -1 ∧ w s = 0 ∧ ADR τ ω e (ω (3 + e)) (m s) (fun j => x (60 * s + j)) (ω (3 + e)) z ∧ FL2 σ τ ∧ τ 189 15 = σ 189 15)))
theorem l_lineOf {s : Int} (hd : 18 ≤ d) (R : RFR σ ω) (hal : ALP σ) (S : SLO m w x) (C : SLR σ m w x) (he : 0 ≤ e ∧ e ≤ 1) (hs : 0 ≤ s ∧ s < 4) (hm : m s ≠ -1) (hw : w s = 0) : ∀ (k i : Nat) (τ : jH), (i : Int) + k = m s → (∀ c, c ≠ 206 → τ c = σ c) → (∀ j : Int, 0 ≤ j → j < i → τ 206 j = x (60 * s + j) ∧ isLB (x (60 * s + j))) →
    Ev (l, (fun _ => 0), 0) d 0 0 m_Model_lineOf (RW fun z υ => LOR σ υ ω e s m w x z) 44 [some (vR 189), some (vI e), some (vI s), some (vI i)] [] gW τ 0 0
  | 0, i, τ, h, F, I => by
    obtain ⟨a, b, c⟩ := C s hs.1 hs.2
    obtain ⟨o1, o2, o3⟩ := S s hs.1 hs.2
    have e229 : τ 229 s = m s := by rw [F 229 (by omega), a]
    have R' : RFR τ ω := R.of2 (fun c a b => F c (by omega)) (by rw [F 189 (by omega)])
    have hal' : ALP τ := fun x a b => by rw [F 200 (by omega)]; exact hal x a b
    have hl : lok (fun j => x (60 * s + j)) (m s) := ⟨o1.2, ltx_iff.mpr (fun j a b => (I j a (by omega)).2)⟩
    refine jwp_sound t_Model_lineOf _ (b_Model_lineOf_44 ?_)
    simp only [RW, true_and, and_true, and_self, true_or, or_true, Nat.reduceLeDiff, Nat.reduceEqDiff, Nat.reduceAdd, Int.reduceLE, Int.reduceLT, Int.reduceEq, Int.reduceNeg, Int.reduceNe, Nat.reduceSub, reduceIte, implies_true, gt_189, gr_189_27, gt_206, gr_189_47, gt_229, gr_189_48, gt_230, gr_189_49, gt_231]
    rw [e229]
    repeat (refine And.intro (by omega) ?_)
    refine ⟨fun _ => ?_, fun q => absurd q (by omega)⟩
    repeat (refine And.intro (by omega) ?_)
    refine cN_w (c_Model_further R' hal' he (by omega) hl (fun j a b => (I j a (by omega)).1)) (by omega) (fun z υ h => ?_)
    refine Or.inr ⟨⟨he, hs⟩, Or.inr (Or.inr ⟨hm, hw, h.1, ⟨fun c a b b2 => ?_, fun j a b => ?_⟩, ?_⟩)⟩
    · rw [h.2.1 c a b, F c b2]
    · rw [h.2.2 j a, F 189 (by omega)]
    · rw [h.2.2 15 (by omega), F 189 (by omega)]
  | k + 1, i, τ, h, F, I => by
    obtain ⟨a, b, c⟩ := C s hs.1 hs.2
    obtain ⟨o1, o2, o3⟩ := S s hs.1 hs.2
    have v := (o3 i (by omega) (by omega)).2 hw
    have e229 : τ 229 s = m s := by rw [F 229 (by omega), a]
    have e231 : τ 231 (60 * s + i) = x (60 * s + i) := by rw [F 231 (by omega), c i (by omega) (by omega)]
    have IH := fun (q : isLB (x (60 * s + i))) => l_lineOf hd R hal S C he hs hm hw k (i + 1) (ju τ 206 i (x (60 * s + i))) (by omega) (fun c hc => by rw [ju_row hc]; exact F c hc) (fun j j0 j1 => by
      by_cases q2 : j = i
      · rw [q2, ju_self]
        exact ⟨rfl, q⟩
      · rw [ju_ne2 q2]
        exact I j j0 (by omega))
    rw [show ((i + 1 : Nat) : Int) = (i : Int) + 1 by omega] at IH
    refine jwp_sound t_Model_lineOf _ (b_Model_lineOf_44 ?_)
    simp only [RW, true_and, and_true, and_self, true_or, or_true, Nat.reduceLeDiff, Nat.reduceEqDiff, Nat.reduceAdd, Int.reduceLE, Int.reduceLT, Int.reduceEq, Int.reduceNeg, Int.reduceNe, Nat.reduceSub, reduceIte, implies_true, gt_189, gr_189_27, gt_206, gr_189_47, gt_229, gr_189_48, gt_230, gr_189_49, gt_231]
    rw [e229, w32_of (x := 60 * s) (by omega) (by omega), w32_of (x := 60 * s + i) (by omega) (by omega), e231, w32_of (x := x (60 * s + i)) (by omega) (by omega), w32_of (x := (i : Int) + 1) (by omega) (by omega), ju_self]
    refine ⟨by omega, by omega, fun q => absurd q (by omega), fun _ => ?_⟩
    repeat (refine And.intro (by omega) ?_)
    refine cN_w (c_Model_isByte _ _) (by omega) (fun z υ h => ?_)
    obtain ⟨h, rfl⟩ := h
    refine ⟨fun q => IH (h.mp q), fun q => ?_⟩
    have nl : ¬ lok (fun j => x (60 * s + j)) (m s) := fun y => absurd q (h.mpr (ltx_iff.mp y.2 i (by omega) (by omega)))
    have f : ∀ c, c ≠ 206 → ju τ 206 i (x (60 * s + i)) c = σ c := fun c hc => by rw [ju_row hc]; exact F c hc
    refine Or.inr ⟨⟨he, hs⟩, Or.inr (Or.inr ⟨hm, hw, Or.inr ⟨by rw [s_lf_4 nl]; omega, (s_lf_4 nl).symm, ?_⟩, ⟨fun c _ _ b2 => f c b2, fun j a b => ?_⟩, ?_⟩)⟩
    · exact R.of2 (fun c a b => f c (by omega)) (by rw [f 189 (by omega)])
    · rw [f 189 (by omega)]
    · rw [f 189 (by omega)]
theorem c_Model_lineOf {s : Int} (R : RFR σ ω) (hal : ALP σ) (S : SLO m w x) (C : SLR σ m w x) : Cw 18 m_Model_lineOf [vR 189, vI e, vI s] σ (fun z τ => LOR σ τ ω e s m w x z) := by
  refine Cw_of o_Model_lineOf rfl fun l d hd => jwp_sound t_Model_lineOf _ (b_Model_lineOf_0 ?_)
  simp only [RW, true_and, and_true, and_self, true_or, or_true, Nat.reduceLeDiff, Nat.reduceEqDiff, Nat.reduceAdd, Int.reduceLE, Int.reduceLT, Int.reduceEq, Int.reduceNeg, Int.reduceNe, Nat.reduceSub, reduceIte, implies_true, gt_189, gr_189_27, gt_206, gr_189_47, gt_229, gr_189_48, gt_230, gr_189_49, gt_231]
  refine cN_p (c_Model_isEdition _ _) (by omega) ?_
  by_cases he : 0 ≤ e ∧ e ≤ 1
  · rw [if_pos he]
    refine ⟨fun q => by omega, fun _ => ?_⟩
    refine cN_p (c_Model_isSlot _ _) (by omega) ?_
    by_cases hs : 0 ≤ s ∧ s < 4
    · obtain ⟨o1, o2, o3⟩ := S s hs.1 hs.2
      obtain ⟨a, b, c⟩ := C s hs.1 hs.2
      rw [if_pos hs, a, b]
      refine ⟨fun _ => ?_, fun q => by omega⟩
      repeat (refine And.intro (by omega) ?_)
      refine ⟨fun hm => ?_, fun hm => Or.inr ⟨⟨he, hs⟩, Or.inl ⟨hm, rfl, rfl⟩⟩⟩
      repeat (refine And.intro (by omega) ?_)
      refine ⟨fun hw => ?_, fun hw => Or.inr ⟨⟨he, hs⟩, Or.inr (Or.inl ⟨hm, hw, rfl, rfl⟩)⟩⟩
      exact l_lineOf hd R hal S C he hs hm hw (m s).toNat 0 σ (by omega) (fun c _ => rfl) (fun j a b => by omega)
    · rw [if_neg hs]
      exact ⟨fun q => absurd rfl q, fun _ => Or.inl ⟨fun q => hs q.2, rfl, rfl⟩⟩
  · rw [if_neg he]
    exact ⟨fun _ => Or.inl ⟨fun q => he q.1, rfl, rfl⟩, fun q => absurd rfl q⟩
end RO
