/-! ASKS: the class marks a root's places, keeps those followed -/
theorem fsB_r {P : Int → Bool} : ∀ n : Nat, fsB P n = -1 ∨ (0 ≤ fsB P n ∧ fsB P n < n)
  | 0 => Or.inl rfl
  | n + 1 => by
    simp only [fsB]
    rcases fsB_r (P := P) n with h | h
    · split <;> first | omega | (split <;> omega)
    · split <;> first | omega | (split <;> omega)
section AN
variable {l : Launch} {d : Nat} {ω t : Int → Int} {σ : jH} {e n p c : Int}
theorem is4 : isRules 4 := isImage_r isI3
theorem l_mr_54 {K r : Int} (hd : 13 ≤ d) (H : CDR σ ω) (W : OKW ω) (U : RLO ω) (S : RLS σ 4 ω) (he : 0 ≤ e ∧ e ≤ 1) (h4 : σ 157 4 = wb e) (hc : isSet c) (hr : 0 ≤ r ∧ r < ω 2) : ∀ (k i : Nat) (τ : jH), (i : Int) + k = ω (477 + 106 * r) - 1 → (∀ c', c' ≠ c → τ c' = σ c') → SET τ c (wW ω e).1 (fun q => decide (KEY ω e q = K) || exI (fun i => wrt ω r (i + 1)) (KEY ω e q) i) →
    Ev (l, (fun _ => 0), 0) d 0 0 m_Asker_markRoot (RW fun _ τ => (∀ c', c' ≠ c → τ c' = σ c') ∧ SET τ c (wW ω e).1 (fun q => decide (KEY ω e q = K) || memB ω (KEY ω e q) r)) 54 [some (vR 157), some (vR c), some (vI r), some (vI i), none] [] gW τ 0 0
  | 0, i, τ, hk, F, V => by
    have hcc := hc
    unfold isSet at hcc
    have hU := is4
    obtain ⟨u1, u2, u3, u4, u5⟩ := U
    have c5 := (u5 r hr.1 hr.2).1
    have mc := (S.2.2 r hr.1 hr.2).1
    refine jwp_sound t_Asker_markRoot _ (b_Asker_markRoot_54 ?_)
    simp only [RW, true_and, and_true, and_self, true_or, or_true, Nat.reduceLeDiff, Nat.reduceEqDiff, Nat.reduceAdd, Int.reduceLE, Int.reduceLT, Int.reduceEq, Int.reduceNeg, Int.reduceNe, Nat.reduceSub, reduceIte, implies_true, gt_157, gr_157_1, gt_4, gr_157_3, gt_158, gr_4_8, gt_13, gr_4_9, gt_16, gr_13_0, gt_14, gr_13_1, gt_15, ru_t hU, ru_r1 hU, ru_t1 hU, ru_r2 hU, ru_t2 hU, ru_r4 hU, ru_t4 hU, ru_r6 hU, ru_t6 hU, ru_r8 hU, ru_t8 hU, ru_r9 hU, ru_t9 hU, ru_r10 hU, ru_t10 hU]
    rw [F (4 + 12) (by omega), mc]
    refine ⟨by omega, by omega, fun _ => ⟨F, ?_⟩, fun x => absurd x (by omega)⟩
    unfold memB
    rw [show (ω (477 + 106 * r) - 1).toNat = i by omega]
    exact V
  | k + 1, i, τ, hk, F, V => by
    have hcc := hc
    unfold isSet at hcc
    have hU := is4
    have U' := U
    obtain ⟨u1, u2, u3, u4, u5⟩ := U'
    have c5 := (u5 r hr.1 hr.2).1
    obtain ⟨mc, _, mk⟩ := S.2.2 r hr.1 hr.2
    obtain ⟨k1, k2⟩ := mk i (by omega) (by omega)
    have rr : 0 ≤ wrt ω r ((i : Int) + 1) ∧ wrt ω r ((i : Int) + 1) < 1267650600228229401496703205376 := km_r W.2.2.1 _
    refine jwp_sound t_Asker_markRoot _ (b_Asker_markRoot_54 ?_)
    simp only [RW, true_and, and_true, and_self, true_or, or_true, Nat.reduceLeDiff, Nat.reduceEqDiff, Nat.reduceAdd, Int.reduceLE, Int.reduceLT, Int.reduceEq, Int.reduceNeg, Int.reduceNe, Nat.reduceSub, reduceIte, implies_true, gt_157, gr_157_1, gt_4, gr_157_3, gt_158, gr_4_8, gt_13, gr_4_9, gt_16, gr_13_0, gt_14, gr_13_1, gt_15, ru_t hU, ru_r1 hU, ru_t1 hU, ru_r2 hU, ru_t2 hU, ru_r4 hU, ru_t4 hU, ru_r6 hU, ru_t6 hU, ru_r8 hU, ru_t8 hU, ru_r9 hU, ru_t9 hU, ru_r10 hU, ru_t10 hU]
    rw [F (4 + 12) (by omega), mc, w32_of (x := r * 4) (by omega) (by omega), w32_of (x := r * 4 + (i : Int)) (by omega) (by omega), w32_of (x := (i : Int) + 1) (by omega) (by omega)]
    refine ⟨by omega, by omega, fun x => absurd x (by omega), fun _ => ⟨fun x => absurd x (by omega), fun _ => ?_⟩⟩
    have kr8 := kr_Rules_8 is4
    obtain ⟨q1, q2, q3, q4, q5⟩ := kr8
    simp only [q1, q2, q3, q4, q5]
    repeat (refine And.intro (by omega) ?_)
    rw [F (4 + 9 + 1) (by omega), F (4 + 9 + 2) (by omega), show r * 4 + (i : Int) = 4 * r + i by omega, k1, k2]
    refine ⟨trivial, by omega, by omega, trivial, by omega, by omega, ?_⟩
    refine cN_w (c_amark (CDR_eq (fun c' a b => F c' (by omega)) H) W he (by rw [F 157 (by omega)]; exact h4) hc rr) (by omega) (fun _ υ h => ?_)
    obtain ⟨F2, V2⟩ := h
    have IH := l_mr_54 hd H W U S he h4 hc hr k (i + 1) υ (by omega) (fun c' h => by rw [F2 c' h, F c' h]) (fun q a b => by
      rw [V2 q a b, V q a b]
      simp only [exI]
      by_cases g : KEY ω e q = wrt ω r ((i : Int) + 1)
      · rw [if_pos g, decide_eq_true g.symm, Bool.or_true, Bool.or_true]
        rfl
      · have nf : decide (wrt ω r ((i : Int) + 1) = KEY ω e q) = false := decide_eq_false (fun x => g x.symm)
        rw [if_neg g, nf, Bool.or_false])
    rw [show ((i + 1 : Nat) : Int) = (i : Int) + 1 by omega] at IH
    exact IH
theorem c_amarkRoot {K : Int} (H : CDR σ ω) (W : OKW ω) (U : RLO ω) (S : RLS σ 4 ω) (he : 0 ≤ e ∧ e ≤ 1) (h4 : σ 157 4 = wb e) (hc : isSet c) (hK : 0 ≤ K ∧ K < 1267650600228229401496703205376) (h0 : σ 158 0 = K / 1125899906842624 ∧ σ 158 1 = K % 1125899906842624) (Z : SET σ c (wW ω e).1 (fun _ => false)) : Cw 13 m_Asker_markRoot [vR 157, vR c] σ (fun _ τ => (∀ c', c' ≠ c → τ c' = σ c') ∧ SET τ c (wW ω e).1 (rS ω e K)) := by
  have hcc := hc
  unfold isSet at hcc
  have r : nameI ω K = -1 ∨ (0 ≤ nameI ω K ∧ nameI ω K < (ω 2).toNat) := fsB_r _
  have u3 := U.2.2.1
  refine Cw_of o_Asker_markRoot rfl fun l d hd => jwp_sound t_Asker_markRoot _ (b_Asker_markRoot_0 ?_)
  simp only [RW, true_and, and_true, and_self, true_or, or_true, Nat.reduceLeDiff, Nat.reduceEqDiff, Nat.reduceAdd, Int.reduceLE, Int.reduceLT, Int.reduceEq, Int.reduceNeg, Int.reduceNe, Nat.reduceSub, reduceIte, implies_true, gt_157, gr_157_1, gt_4, gr_157_3, gt_158, gr_4_8, gt_13, gr_4_9, gt_16, gr_13_0, gt_14, gr_13_1, gt_15]
  rw [h0.1, h0.2]
  refine cN_p (c_rootNamed K is4 U S) (by omega) ?_
  refine ⟨fun q => ⟨fun _ _ => rfl, fun q' a b => ?_⟩, fun q => ⟨fun _ => ?_, fun x => absurd x (by omega)⟩⟩
  · rw [Z q' a b]
    unfold rS
    rw [decide_eq_false (by omega), Bool.false_and]
  · rw [h0.1, h0.2]
    refine cN_w (c_amark H W he h4 hc hK) (by omega) (fun _ τ h => ?_)
    obtain ⟨F, V⟩ := h
    have u5 := (U.2.2.2.2 (nameI ω K) (by omega) (by omega)).1
    have go := l_mr_54 (l := l) (σ := σ) (K := K) (r := nameI ω K) hd H W U S he h4 hc (by omega) (ω (477 + 106 * nameI ω K) - 1).toNat 0 τ (by omega) F (fun q' a b => by
      rw [V q' a b]
      simp only [exI, Bool.or_false]
      by_cases g : KEY ω e q' = K
      · rw [if_pos g, decide_eq_true g]
        rfl
      · rw [if_neg g, decide_eq_false g, Z q' a b])
    refine Ev_post go (fun _ υ h => ⟨h.1, fun q' a b => ?_⟩)
    rw [h.2 q' a b]
    unfold rS
    rw [decide_eq_true (show nameI ω K ≠ -1 by omega), Bool.true_and]
end AN
