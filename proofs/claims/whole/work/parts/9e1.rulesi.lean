/-! RULES are read: the reference, whole -/
section RJ
variable {l : Launch} {d : Nat} {t : Int → Int} {σ : jH} {n p : Int} {ρ ω : Int → Int} {ho : Bool}
theorem FMR.rf : FMR σ σ := ⟨fun _ _ _ => rfl, fun _ _ => rfl⟩
theorem l_mru_83 (hd : 15 ≤ d) (g : σ 189 22 = 0) (T : TP2 σ t n) (K : TKR σ t n p) (hp : 0 ≤ p ∧ p ≤ n) (E : EQR (σ 204) ρ) (h25 : σ 189 25 = b2i ho) (V : RIV ρ) (w : rWh t n p ≠ 4) (w3 : ¬ (rWh t n p = 3 ∧ ho = true)) :
    Ev (l, (fun _ => 0), 0) d 0 0 m_Model_readRule (RW fun _ τ => MRS σ τ t n (rRule t n p ρ ho)) 83 [some (vR 189), none] [] gW σ 0 0 := by
  obtain ⟨⟨O, v1, v2⟩, RK⟩ := V
  obtain ⟨r0, r1, r2, _⟩ := O.1
  unfold rRule
  rw [if_neg w, if_neg w3]
  refine jwp_sound t_Model_readRule _ (b_Model_readRule_83 ?_)
  simp only [RW, true_and, and_true, and_self, true_or, or_true, Nat.reduceLeDiff, Nat.reduceEqDiff, Nat.reduceAdd, Int.reduceLE, Int.reduceLT, Int.reduceEq, Int.reduceNeg, Int.reduceNe, Nat.reduceSub, reduceIte, implies_true, gt_189, gr_189_24, gt_204]
  rw [E 0 (by omega) (by omega) (by omega) (by omega)]
  refine ⟨fun q => ?_, fun q => ?_⟩
  · rw [if_neg q]
    exact l_mru_99 hd g T K hp E h25 (by omega) (by omega) (by omega) w
  · rw [if_pos q]
    refine cN_v (c_wrong_g 3 g K) (by omega) (fun _ => ?_)
    exact l_mru_99b hd (bds_wr (by omega) .rf)
theorem l_mru_45 (hd : 15 ≤ d) (g : σ 189 22 = 0) (T : TP2 σ t n) (K : TKR σ t n p) (hp : 0 ≤ p ∧ p ≤ n) (E : EQR (σ 204) ρ) (h25 : σ 189 25 = b2i ho) (V : RIV ρ) :
    Ev (l, (fun _ => 0), 0) d 0 0 m_Model_readRule (RW fun _ τ => MRS σ τ t n (rRule t n p ρ ho)) 45 [some (vR 189), none] [vI (if rWh t n p = 4 then 0 else 1)] gW σ 0 0 := by
  refine jwp_sound t_Model_readRule _ (b_Model_readRule_45 ?_)
  simp only [RW, true_and, and_true, and_self, true_or, or_true, Nat.reduceLeDiff, Nat.reduceEqDiff, Nat.reduceAdd, Int.reduceLE, Int.reduceLT, Int.reduceEq, Int.reduceNeg, Int.reduceNe, Nat.reduceSub, reduceIte, implies_true, gt_189, gr_189_24, gt_204]
  by_cases w : rWh t n p = 4
  · rw [if_pos w]
    refine ⟨fun x => absurd rfl x, fun _ => ?_⟩
    unfold rRule
    rw [if_pos w]
    refine cN_v (c_wrong_g 1 g K) (by omega) (fun _ => ?_)
    exact l_mru_99b hd (bds_wr (by omega) .rf)
  · rw [if_neg w]
    refine ⟨fun _ => ?_, fun x => absurd x (by omega)⟩
    refine cN_p (c_mis_g (w := 5) (by decide) g T K hp) (by omega) ?_
    have e3 : rWh t n p = 3 ↔ tI t n p (jtb 5) = true := by
      unfold rWh
      constructor
      · intro h
        by_cases a : tI t n p (jtb 0) = true
        · rw [if_pos a] at h
          omega
        · rw [if_neg a] at h
          by_cases a : tI t n p (jtb 2) = true
          · rw [if_pos a] at h
            omega
          · rw [if_neg a] at h
            by_cases a : tI t n p (jtb 3) = true
            · rw [if_pos a] at h
              omega
            · rw [if_neg a] at h
              by_cases a : tI t n p (jtb 5) = true
              · exact a
              · rw [if_neg a] at h
                omega
      · intro h
        have a0 : tI t n p (jtb 0) = false := tI_ne h (by decide)
        have a1 : tI t n p (jtb 2) = false := tI_ne h (by decide)
        have a2 : tI t n p (jtb 3) = false := tI_ne h (by decide)
        rw [a0, a1, a2, h]
        rfl
    refine ⟨fun x => ?_, fun x => ?_⟩
    · have x2 : ¬ tI t n p (jtb 5) = true := fun y => by
        rw [y] at x
        exact absurd x (by decide)
      exact l_mru_83 hd g T K hp E h25 V w (fun y => x2 (e3.mp y.1))
    · have x2 : tI t n p (jtb 5) = true := by
        cases g : tI t n p (jtb 5) with
        | true => rfl
        | false =>
          rw [g] at x
          exact absurd rfl x
      refine ⟨fun y => ?_, fun y => ?_⟩
      · exact l_mru_83 hd g T K hp E h25 V w (fun z => by
          rw [h25, z.2] at y
          exact absurd y (by decide))
      · have hh : ho = true := by
          cases ho with
          | true => rfl
          | false =>
            rw [h25] at y
            exact absurd rfl y
        unfold rRule
        rw [if_neg w, if_pos ⟨e3.mpr x2, hh⟩]
        refine cN_v (c_wrong_g 2 g K) (by omega) (fun _ => ?_)
        exact l_mru_99b hd (bds_wr (by omega) .rf)
theorem c_mreadRule (g : σ 189 22 = 0) (T : TP2 σ t n) (K : TKR σ t n p) (hp : 0 ≤ p ∧ p ≤ n) (E : EQR (σ 204) ρ) (h25 : σ 189 25 = b2i ho) (V : RIV ρ) : Cw 15 m_Model_readRule [vR 189] σ (fun _ τ => MRS σ τ t n (rRule t n p ρ ho)) := by
  refine Cw_of o_Model_readRule rfl fun l d hd => jwp_sound t_Model_readRule _ (b_Model_readRule_0 ?_)
  simp only [RW, true_and, and_true, and_self, true_or, or_true, Nat.reduceLeDiff, Nat.reduceEqDiff, Nat.reduceAdd, Int.reduceLE, Int.reduceLT, Int.reduceEq, Int.reduceNeg, Int.reduceNe, Nat.reduceSub, reduceIte, implies_true, gt_189, gr_189_24, gt_204]
  have N := l_mru_45 (l := l) hd g T K hp E h25 V
  unfold rWh at N
  refine cN_p (c_mis_g (w := 0) (by decide) g T K hp) (by omega) ?_
  cases b0 : tI t n p (jtb 0) with
  | true =>
    rw [b0] at N
    exact ⟨fun _ => N, fun x => absurd x (by decide)⟩
  | false =>
    refine ⟨fun x => absurd rfl x, fun _ => ?_⟩
    refine cN_p (c_mis_g (w := 2) (by decide) g T K hp) (by omega) ?_
    cases b1 : tI t n p (jtb 2) with
    | true =>
      rw [b0, b1] at N
      exact ⟨fun _ => N, fun x => absurd x (by decide)⟩
    | false =>
      refine ⟨fun x => absurd rfl x, fun _ => ?_⟩
      refine cN_p (c_mis_g (w := 3) (by decide) g T K hp) (by omega) ?_
      cases b2 : tI t n p (jtb 3) with
      | true =>
        rw [b0, b1, b2] at N
        exact ⟨fun _ => N, fun x => absurd x (by decide)⟩
      | false =>
        refine ⟨fun x => absurd rfl x, fun _ => ?_⟩
        refine cN_p (c_mis_g (w := 5) (by decide) g T K hp) (by omega) ?_
        rw [b0, b1, b2] at N
        cases b3 : tI t n p (jtb 5) with
        | true =>
          rw [b3] at N
          exact ⟨fun x => absurd x (by decide), fun _ => N⟩
        | false =>
          rw [b3] at N
          exact ⟨fun _ => N, fun x => absurd rfl x⟩
/-- the reference's rules, one after another -/
theorem l_mrs_16b {P : Int → jH → Prop} {τ : jH} {R : RS} (hd : 16 ≤ d) (N : ∀ τ : jH, MRS σ τ t n R → Ev (l, (fun _ => 0), 0) d 0 0 m_Model_rules (RW P) 37 [some (vR 189), none] [] gW τ 0 0) (B : BDS σ τ R) : Ev (l, (fun _ => 0), 0) d 0 0 m_Model_rules (RW P) 16 [some (vR 189), none] [] gW τ 0 0 := by
  have go := N τ B.mrs
  refine jwp_sound t_Model_rules _ (b_Model_rules_16 ?_)
  simp only [RW, true_and, and_true, and_self, true_or, or_true, Nat.reduceLeDiff, Nat.reduceEqDiff, Nat.reduceAdd, Int.reduceLE, Int.reduceLT, Int.reduceEq, Int.reduceNeg, Int.reduceNe, Nat.reduceSub, reduceIte, implies_true, gt_189, gr_189_1, gt_190, gr_189_24, gt_204]
  refine cN_p (c_good _) (by omega) ?_
  rw [if_neg B.n0]
  exact ⟨fun _ => go, fun x => absurd rfl x⟩
theorem tokc_0 {x : Int} (h : x ≤ 3 ∨ isSg x) : tokc x = 0 ↔ x = 0 := by
  unfold tokc
  unfold isSg at h
  split
  · omega
  · split <;> omega
theorem l_mrs_16 {P : Int → jH → Prop} (hd : 16 ≤ d) (T : TP2 σ t n) : ∀ (k i : Nat) (p : Int) (τ : jH) (ρ : Int → Int) (ho : Bool), i + k = 20 → (0 ≤ p ∧ p ≤ n) → FMR σ τ → τ 189 22 = 0 → τ 189 23 = σ 189 23 → TKR τ t n p → EQR (τ 204) ρ → τ 189 25 = b2i ho → RIV ρ → ρ 0 = i → (N : ∀ τ : jH, MRS σ τ t n (rAll t n (k + 1) p ρ ho) → Ev (l, (fun _ => 0), 0) d 0 0 m_Model_rules (RW P) 37 [some (vR 189), none] [] gW τ 0 0) →
    Ev (l, (fun _ => 0), 0) d 0 0 m_Model_rules (RW P) 16 [some (vR 189), none] [] gW τ 0 0 := by
  intro k
  induction k with
  | zero =>
    intro i p τ ρ ho hk hp F g g23 K E h25 V hi N
    have tr := (tK_r (t := t) (n := n) (p := p)).2
    refine jwp_sound t_Model_rules _ (b_Model_rules_16 ?_)
    simp only [RW, true_and, and_true, and_self, true_or, or_true, Nat.reduceLeDiff, Nat.reduceEqDiff, Nat.reduceAdd, Int.reduceLE, Int.reduceLT, Int.reduceEq, Int.reduceNeg, Int.reduceNe, Nat.reduceSub, reduceIte, implies_true, gt_189, gr_189_1, gt_190, gr_189_24, gt_204]
    refine cN_p (c_good _) (by omega) ?_
    rw [if_pos g, K.1.2.2.2]
    refine ⟨fun x => absurd x (by omega), fun _ => ⟨fun q => ?_, fun q => ?_⟩⟩
    · have q0 := (tokc_0 tr).mp q
      refine N τ ?_
      rw [rAll, if_pos q0]
      exact ⟨F, Or.inl ⟨rfl, g, g23, hp, K, E, h25⟩⟩
    · have q0 : ¬ tK t n p = 0 := fun x => q ((tokc_0 tr).mpr x)
      have bad : (rRule t n p ρ ho).1 ≠ 0 := fun x => by
        have := (rRule_kp hp V x).2.2.2
        omega
      rw [rAll, if_neg q0, if_pos bad] at N
      refine cN_w (c_mreadRule g (T.fmr F) K hp E h25 V) (by omega) (fun _ υ M => ?_)
      obtain ⟨F2, M⟩ := M
      rcases M with ⟨x, _⟩ | ⟨x, y, z⟩
      · exact absurd x bad
      · exact l_mrs_16b hd N ⟨F.tr F2, x, y, z⟩
  | succ k ih =>
    intro i p τ ρ ho hk hp F g g23 K E h25 V hi N
    have tr := (tK_r (t := t) (n := n) (p := p)).2
    refine jwp_sound t_Model_rules _ (b_Model_rules_16 ?_)
    simp only [RW, true_and, and_true, and_self, true_or, or_true, Nat.reduceLeDiff, Nat.reduceEqDiff, Nat.reduceAdd, Int.reduceLE, Int.reduceLT, Int.reduceEq, Int.reduceNeg, Int.reduceNe, Nat.reduceSub, reduceIte, implies_true, gt_189, gr_189_1, gt_190, gr_189_24, gt_204]
    refine cN_p (c_good _) (by omega) ?_
    rw [if_pos g, K.1.2.2.2]
    refine ⟨fun x => absurd x (by omega), fun _ => ⟨fun q => ?_, fun q => ?_⟩⟩
    · have q0 := (tokc_0 tr).mp q
      refine N τ ?_
      rw [rAll, if_pos q0]
      exact ⟨F, Or.inl ⟨rfl, g, g23, hp, K, E, h25⟩⟩
    · have q0 : ¬ tK t n p = 0 := fun x => q ((tokc_0 tr).mpr x)
      rw [rAll, if_neg q0] at N
      refine cN_w (c_mreadRule g (T.fmr F) K hp E h25 V) (by omega) (fun _ υ M => ?_)
      obtain ⟨F2, M⟩ := M
      rcases M with ⟨x, g2, g232, hp2, K2, E2, h252⟩ | ⟨x, y, z⟩
      · rw [if_neg (fun y => y x)] at N
        obtain ⟨k1, k2, k3, k4⟩ := rRule_kp hp V x
        exact ih (i + 1) _ υ _ _ (by omega) hp2 (F.tr F2) g2 (g232.trans g23) K2 E2 h252 k1 (by omega) N
      · rw [if_pos x] at N
        exact l_mrs_16b hd N ⟨F.tr F2, x, y, z⟩
end RJ
