/-! The reference: slips there, count -/
section RC
variable {l : Launch} {d : Nat} {n : Int} {ω t : Int → Int} {σ : jH} {m w x : Int → Int}
theorem c_Model_hasSlip {h p : Int} (e : σ 190 = ω) (S : SPO ω) (hh : 0 ≤ h ∧ h < 4) (hp : 0 ≤ p ∧ p < 300) : Cw 11 m_Model_hasSlip [vR 189, vI h, vI p] σ (fun z τ => z = (if ω (7477 + 21 * (300 * h + p)) ≠ 0 then 1 else 0) ∧ τ = σ) := by
  have V := (S (300 * h + p) (by omega) (by omega)).1
  have s0 : Cw 10 m_Model_slipAt [vI h, vI p] σ (fun z τ => z = 7477 + 21 * (300 * h + p) ∧ τ = σ) := by
    refine Cw_of o_Model_slipAt rfl fun l d hd => jwp_sound t_Model_slipAt _ (b_Model_slipAt_0 ?_)
    simp only [RW, true_and, and_true, and_self, true_or, or_true, Nat.reduceLeDiff, Nat.reduceEqDiff, Nat.reduceAdd, Int.reduceLE, Int.reduceLT, Int.reduceEq, Int.reduceNeg, Int.reduceNe, Nat.reduceSub, reduceIte, implies_true]
    rw [w32_of (x := 300 * h) (by omega) (by omega), w32_of (x := 300 * h + p) (by omega) (by omega), w32_of (x := 21 * _) (by omega) (by omega), w32_of (by omega) (by omega)]
  refine Cw_of o_Model_hasSlip rfl fun l d hd => jwp_sound t_Model_hasSlip _ (b_Model_hasSlip_0 ?_)
  simp only [RW, true_and, and_true, and_self, true_or, or_true, Nat.reduceLeDiff, Nat.reduceEqDiff, Nat.reduceAdd, Int.reduceLE, Int.reduceLT, Int.reduceEq, Int.reduceNeg, Int.reduceNe, Nat.reduceSub, reduceIte, implies_true, gt_189, gr_189_1, gt_190]
  refine cN_p s0 (by omega) ?_
  rw [e]
  repeat (refine And.intro (by omega) ?_)
  by_cases q : ω (7477 + 21 * (300 * h + p)) = 0
  · rw [if_neg (fun x => x q)]
    exact ⟨fun _ => ⟨rfl, rfl⟩, fun x => by omega⟩
  · rw [if_pos q]
    exact ⟨fun x => by omega, fun _ => ⟨rfl, rfl⟩⟩
theorem l_hand0 {h : Nat} (hd : 15 ≤ d) (e : σ 190 = ω) (S : SPO ω) (hh : h < 4) : ∀ (k p : Nat), p + k = 300 →
    Ev (l, (fun _ => 0), 0) d 0 0 m_Model_hand (RW fun z τ => z = scnt ω (300 * (h + 1)) - scnt ω (300 * h) ∧ τ = σ) 33 [some (vR 189), some (vI h), some (vI 0), some (vI (scnt ω (300 * h + p) - scnt ω (300 * h))), some (vI p)] [] gW σ 0 0
  | 0, p, q => by
    refine jwp_sound t_Model_hand _ (b_Model_hand_33 ?_)
    simp only [RW, true_and, and_true, and_self, true_or, or_true, Nat.reduceLeDiff, Nat.reduceEqDiff, Nat.reduceAdd, Int.reduceLE, Int.reduceLT, Int.reduceEq, Int.reduceNeg, Int.reduceNe, Nat.reduceSub, reduceIte, implies_true]
    refine ⟨fun _ => ?_, fun x => absurd x (by omega)⟩
    rw [show 300 * h + p = 300 * (h + 1) by omega]
  | k + 1, p, q => by
    have IH := l_hand0 hd e S hh k (p + 1) (by omega)
    have r := scnt_r ω (300 * h + p)
    have r2 := scnt_r ω (300 * h)
    rw [show ((p + 1 : Nat) : Int) = (p : Int) + 1 by omega] at IH
    have hs : scnt ω (300 * h + (p + 1)) = scnt ω (300 * h + p) + if ω (7477 + 21 * (300 * h + p)) ≠ 0 then 1 else 0 := by
      rw [show 300 * h + (p + 1) = 300 * h + p + 1 by omega]
      simp only [scnt]
      rw [show ((300 * h + p : Nat) : Int) = 300 * (h : Int) + p by omega]
    rw [hs] at IH
    refine jwp_sound t_Model_hand _ (b_Model_hand_33 ?_)
    simp only [RW, true_and, and_true, and_self, true_or, or_true, Nat.reduceLeDiff, Nat.reduceEqDiff, Nat.reduceAdd, Int.reduceLE, Int.reduceLT, Int.reduceEq, Int.reduceNeg, Int.reduceNe, Nat.reduceSub, reduceIte, implies_true, gt_189, gr_189_4, gt_193]
    rw [w32_of (x := (p : Int) + 1) (by omega) (by omega), w32_of (x := scnt _ _ - scnt _ _ + 0) (by omega) (by omega), w32_of (x := scnt _ _ - scnt _ _ + 1) (by omega) (by omega)]
    refine ⟨fun x => absurd x (by omega), fun _ => ?_⟩
    refine ⟨fun _ => ?_, fun x => x.elim⟩
    refine cN_p (c_Model_hasSlip e S ⟨by omega, by omega⟩ ⟨by omega, by omega⟩) (by omega) ?_
    by_cases q2 : ω (7477 + 21 * (300 * h + p)) ≠ 0
    · rw [if_pos q2] at IH ⊢
      rw [show scnt ω (300 * h + p) + 1 - scnt ω (300 * h) = scnt ω (300 * h + p) - scnt ω (300 * h) + 1 by omega] at IH
      exact ⟨fun x => by omega, fun _ => ⟨fun _ => IH, fun x => x.elim⟩⟩
    · rw [if_neg q2] at IH ⊢
      rw [show scnt ω (300 * h + p) + 0 - scnt ω (300 * h) = scnt ω (300 * h + p) - scnt ω (300 * h) + 0 by omega] at IH
      exact ⟨fun _ => IH, fun x => absurd rfl x⟩
theorem c_hand0 {h : Nat} (e : σ 190 = ω) (S : SPO ω) (hh : h < 4) : Cw 15 m_Model_hand [vR 189, vI h, vI 0] σ (fun z τ => z = scnt ω (300 * (h + 1)) - scnt ω (300 * h) ∧ τ = σ) := by
  refine Cw_of o_Model_hand rfl fun l d hd => jwp_sound t_Model_hand _ (b_Model_hand_0 ?_)
  refine cN_p (c_Model_in _ _ _ _) (by omega) ?_
  rw [if_pos (by omega)]
  refine ⟨fun x => by omega, fun _ => ?_⟩
  refine cN_p (c_Model_in _ _ _ _) (by omega) ?_
  rw [if_pos (by omega)]
  refine ⟨fun _ => ?_, fun x => by omega⟩
  have := l_hand0 (l := l) (d := d) hd e S hh 300 0 (by omega)
  rwa [show scnt ω (300 * h + 0) - scnt ω (300 * h) = 0 by rw [Nat.add_zero]; omega] at this
end RC
