/-! ASKS: a root's places in the reference's words -/
theorem fsB_hit {P : Int → Bool} : ∀ n : Nat, fsB P n ≠ -1 → P (fsB P n) = true
  | 0, h => absurd rfl h
  | n + 1, h => by
    simp only [fsB] at h ⊢
    by_cases g : fsB P n ≠ -1
    · rw [if_pos g]
      exact fsB_hit n g
    · rw [if_neg g] at h ⊢
      by_cases g2 : P n = true
      · rw [if_pos g2]
        exact g2
      · rw [if_neg g2] at h
        exact absurd rfl h
theorem rS_is {ω : Int → Int} {e K q : Int} (U : RLO ω) (h : nameI ω K ≠ -1) : rS ω e K q = exI (wrt ω (nameI ω K)) (KEY ω e q) (ω (477 + 106 * nameI ω K)).toNat := by
  have r : nameI ω K = -1 ∨ (0 ≤ nameI ω K ∧ nameI ω K < (ω 2).toNat) := fsB_r _
  have hit : wrt ω (nameI ω K) 0 = K := of_decide_eq_true (fsB_hit (P := fun r => decide (wrt ω r 0 = K)) _ h)
  have u3 := U.2.2.1
  have c5 := (U.2.2.2.2 (nameI ω K) (by omega) (by omega)).1
  unfold rS
  rw [decide_eq_true h, Bool.true_and]
  apply Bool.eq_iff_iff.mpr
  unfold memB
  rw [Bool.or_eq_true, decide_eq_true_eq, exI_iff, exI_iff]
  constructor
  · rintro (a | ⟨k, a, b, c⟩)
    · exact ⟨0, by omega, by omega, by rw [hit, a]⟩
    · exact ⟨k + 1, by omega, by omega, c⟩
  · rintro ⟨k, a, b, c⟩
    by_cases g : k = 0
    · rw [g, hit] at c
      exact Or.inl c.symm
    · exact Or.inr ⟨k - 1, by omega, by omega, by
        show wrt ω (nameI ω K) (k - 1 + 1) = _
        rw [show k - 1 + 1 = k by omega]
        exact c⟩
