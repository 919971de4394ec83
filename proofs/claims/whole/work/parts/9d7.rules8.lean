/-! RULES are read: the class, the draft emptied, all folded, the loop -/
section R6
variable {l : Launch} {d : Nat} {t : Int → Int} {σ : jH} {n p : Int} {ρ : Int → Int} {ho : Bool}
theorem rRule_kp (hp : 0 ≤ p ∧ p ≤ n) (V : RIV ρ) (h : (rRule t n p ρ ho).1 = 0) : RIV (rRule t n p ρ ho).2.2.2.1 ∧ RFX ρ (rRule t n p ρ ho).2.2.2.1 ∧ (rRule t n p ρ ho).2.2.2.1 0 = ρ 0 + 1 ∧ ρ 0 < 20 := by
  obtain ⟨⟨O, v1, v2⟩, RK⟩ := V
  have r0 := O.1.1
  unfold rRule at h ⊢
  split at h
  · exact absurd h (by show ¬ (1 : Int) = 0; omega)
  · rename_i a1
    rw [if_neg a1]
    split at h
    · exact absurd h (by show ¬ (2 : Int) = 0; omega)
    · rename_i a2
      rw [if_neg a2]
      split at h
      · exact absurd h (by show ¬ (3 : Int) = 0; omega)
      · rename_i a3
        rw [if_neg a3]
        have kp := rInn_kp (t := t) (n := n) (p := p) (ho := ho) hp (rro_up0 O ⟨r0.1, by omega⟩) (rko_eq (ρ' := up ρ 0 (ρ 0 + 1)) (fun x a b => up_ne (by omega)) RK) (by rw [up_ne (by omega)]; omega) (by rw [up_ne (by omega)]; omega)
        generalize rInn t n p (up ρ 0 (ρ 0 + 1)) ho = R at *
        unfold rSem at h ⊢
        split at h
        · rename_i b
          exact absurd h b
        · rename_i b
          rw [if_neg b]
          split at h
          · rename_i c
            rw [if_pos c]
            obtain ⟨k1, k2, k3, k4, k5, k6⟩ := kp (Classical.not_not.mp b)
            rw [up_self] at k4
            rw [up_ne (by omega)] at k5 k6
            show RIV R.2.2.2.1 ∧ RFX ρ R.2.2.2.1 ∧ R.2.2.2.1 0 = ρ 0 + 1 ∧ ρ 0 < 20
            exact ⟨⟨⟨k1, by omega, by omega⟩, k2⟩, fun j hj => (k3 j hj).trans (up_ne (by omega)), k4, by omega⟩
          · exact absurd h (by show ¬ (1 : Int) = 0; omega)
theorem c_beginsRule (T : TP σ t n) (K : TKC σ t n p) (hp : 0 ≤ p ∧ p ≤ n) : Cw 12 m_RuleReader_beginsRule [vR 141] σ (fun z τ => z = (if rWh t n p = 4 then 0 else 1) ∧ τ = σ) := by
  refine Cw_of o_RuleReader_beginsRule rfl fun l d hd => jwp_sound t_RuleReader_beginsRule _ (b_RuleReader_beginsRule_0 ?_)
  simp only [RW, true_and, and_true, and_self, true_or, or_true, Nat.reduceLeDiff, Nat.reduceEqDiff, Nat.reduceAdd, Int.reduceLE, Int.reduceLT, Int.reduceEq, Int.reduceNeg, Int.reduceNe, Nat.reduceSub, reduceIte, implies_true, gt_141, gr_141_1, gt_140]
  unfold rWh
  refine cN_p (c_is (w := 0) (by decide) T K hp) (by omega) ?_
  cases b0 : tI t n p (jtb 0) with
  | true => exact ⟨fun _ => ⟨rfl, rfl⟩, fun x => absurd x (by decide)⟩
  | false =>
    refine ⟨fun x => absurd rfl x, fun _ => ?_⟩
    refine cN_p (c_is (w := 2) (by decide) T K hp) (by omega) ?_
    cases b1 : tI t n p (jtb 2) with
    | true => exact ⟨fun _ => ⟨rfl, rfl⟩, fun x => absurd x (by decide)⟩
    | false =>
      refine ⟨fun x => absurd rfl x, fun _ => ?_⟩
      refine cN_p (c_is (w := 3) (by decide) T K hp) (by omega) ?_
      cases b2 : tI t n p (jtb 3) with
      | true => exact ⟨fun _ => ⟨rfl, rfl⟩, fun x => absurd x (by decide)⟩
      | false =>
        refine ⟨fun x => absurd rfl x, fun _ => ?_⟩
        refine cN_p (c_is (w := 5) (by decide) T K hp) (by omega) ?_
        cases b3 : tI t n p (jtb 5) with
        | true => exact ⟨fun x => absurd x (by decide), fun _ => ⟨rfl, rfl⟩⟩
        | false => exact ⟨fun _ => ⟨rfl, rfl⟩, fun x => absurd rfl x⟩
/-- what the draft's letters and its ORDER are -/
def DRL (σ : jH) (ρ : Int → Int) (ho : Bool) : Prop := (∀ x, 0 ≤ x → x < 26 → σ 143 x = fo ρ x) ∧ (∀ x, 0 ≤ x → x < 26 → σ 155 x = ρ (31 + x)) ∧ σ 142 11 = b2i ho
/-- all of them: what is left behind -/
def CRA (σ τ : jH) (ρ0 : Int → Int) (R : RS) (z : Int) : Prop := FRD σ τ ∧ ((R.1 = 0 ∧ z = 1 ∧ RLS τ 142 R.2.2.2.1 ∧ DRL τ R.2.2.2.1 R.2.2.2.2 ∧ RIV R.2.2.2.1 ∧ RFX ρ0 R.2.2.2.1 ∧ τ 140 6 = σ 140 6 ∧ τ 140 7 = σ 140 7) ∨ (R.1 ≠ 0 ∧ z = 0 ∧ τ 140 6 = R.1 ∧ τ 140 7 = R.2.1))
theorem c_refuseFurther (T : TP σ t n) (K : TKC σ t n p) (hp : 0 ≤ p ∧ p ≤ n) (h11 : σ 142 11 = b2i ho) (h20 : ρ 0 = 20) : Cw 13 m_RuleReader_refuseFurther [vR 141] σ (fun z τ => FRD σ τ ∧ (rRule t n p ρ ho).1 ≠ 0 ∧ z = 0 ∧ τ 140 6 = (rRule t n p ρ ho).1 ∧ τ 140 7 = (rRule t n p ρ ho).2.1) := by
  have bad : ∀ (x : Int) (R : RS), R = rBD x (tS t n p) → x ≠ 0 → FRD σ (ju (ju σ 140 6 x) 140 7 (tS t n p)) ∧ R.1 ≠ 0 ∧ (0 : Int) = 0 ∧ ju (ju σ 140 6 x) 140 7 (tS t n p) 140 6 = R.1 ∧ ju (ju σ 140 6 x) 140 7 (tS t n p) 140 7 = R.2.1 := fun x R e hx => by
    obtain ⟨F, h⟩ := crs_fail K x hx
    rw [e]
    rcases h with ⟨a, _⟩ | ⟨a, b, c, e⟩
    · exact absurd a hx
    · exact ⟨F, a, rfl, c, e⟩
  refine Cw_of o_RuleReader_refuseFurther rfl fun l d hd => jwp_sound t_RuleReader_refuseFurther _ (b_RuleReader_refuseFurther_0 ?_)
  simp only [RW, true_and, and_true, and_self, true_or, or_true, Nat.reduceLeDiff, Nat.reduceEqDiff, Nat.reduceAdd, Int.reduceLE, Int.reduceLT, Int.reduceEq, Int.reduceNeg, Int.reduceNe, Nat.reduceSub, reduceIte, implies_true, gt_141, gr_141_0, gt_142, gr_141_1, gt_140]
  refine cN_p (c_beginsRule T K hp) (by omega) ?_
  unfold rRule
  refine ⟨fun q => ?_, fun q => ?_⟩
  · have w : ¬ rWh t n p = 4 := fun x => q (if_pos x)
    rw [if_neg w]
    refine cN_p (c_is (w := 5) (by decide) T K hp) (by omega) ?_
    have e3 : rWh t n p = 3 ↔ tI t n p (jtb 5) = true := by
      unfold rWh
      constructor
      · intro h
        by_cases a : tI t n p (jtb 0) = true
        · rw [if_pos a] at h
          omega
        · rw [if_neg a] at h
          by_cases a : tI t n p (jtb 2) = true
          · rw [if_pos a] at h
            omega
          · rw [if_neg a] at h
            by_cases a : tI t n p (jtb 3) = true
            · rw [if_pos a] at h
              omega
            · rw [if_neg a] at h
              by_cases a : tI t n p (jtb 5) = true
              · exact a
              · rw [if_neg a] at h
                omega
      · intro h
        have a0 : tI t n p (jtb 0) = false := tI_ne h (by decide)
        have a1 : tI t n p (jtb 2) = false := tI_ne h (by decide)
        have a2 : tI t n p (jtb 3) = false := tI_ne h (by decide)
        rw [a0, a1, a2, h]
        rfl
    refine ⟨fun x => ?_, fun x => ?_⟩
    · have x2 : ¬ tI t n p (jtb 5) = true := fun y => by
        rw [y] at x
        exact absurd x (by decide)
      rw [if_neg (fun y => x2 (e3.mp y.1)), if_pos h20]
      refine cN_p (c_fail 3 K) (by omega) ?_
      exact ⟨Or.inl rfl, bad 3 _ rfl (by omega)⟩
    · have x2 : tI t n p (jtb 5) = true := by
        cases g : tI t n p (jtb 5) with
        | true => rfl
        | false =>
          rw [g] at x
          exact absurd rfl x
      rw [h11]
      cases hh : ho with
      | false =>
        rw [if_neg (fun y => by cases y.2), if_pos h20]
        refine ⟨fun _ => ?_, fun x => absurd rfl x⟩
        refine cN_p (c_fail 3 K) (by omega) ?_
        exact ⟨Or.inl rfl, bad 3 _ rfl (by omega)⟩
      | true =>
        rw [if_pos ⟨e3.mpr x2, rfl⟩]
        refine ⟨fun x => absurd x (by decide), fun _ => ?_⟩
        refine cN_p (c_fail 2 K) (by omega) ?_
        exact ⟨Or.inl rfl, bad 2 _ rfl (by omega)⟩
  · have w : rWh t n p = 4 := by
      by_cases x : rWh t n p = 4
      · exact x
      · rw [if_neg x] at q
        omega
    rw [if_pos w]
    refine cN_p (c_fail 1 K) (by omega) ?_
    exact ⟨Or.inl rfl, bad 1 _ rfl (by omega)⟩
end R6
