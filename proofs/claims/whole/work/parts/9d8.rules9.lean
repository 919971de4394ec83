/-! RULES are read: the class, the draft emptied and folded -/
section R7
variable {l : Launch} {d : Nat} {t : Int → Int} {σ : jH} {n p : Int} {ρ : Int → Int} {ho : Bool}
theorem plainR_riv : RIV (plainR ρ) := by
  have z : ∀ j, 0 ≤ j → j < 3 → plainR ρ j = 0 := fun j a b => by
    unfold plainR
    rw [if_neg (by omega), if_neg (by omega), if_pos (by omega), if_neg (by omega)]
  have r : ∀ x, 0 ≤ x → x < 26 → rnk (plainR ρ) x = x := fun x a b => by
    unfold rnk plainR
    rw [if_neg (by omega), if_pos (by omega)]
    omega
  unfold RIV RRO RLO RKO
  rw [z 0 (by omega) (by omega), z 1 (by omega) (by omega), z 2 (by omega) (by omega)]
  refine ⟨⟨⟨⟨by omega, by omega, by omega, fun s a b => by omega, fun r a b => by omega⟩, fun x a b => Or.inl ?_⟩, by omega, by omega⟩, fun x a b => by rw [r x a b]; omega, fun x y a b a' b' q => by rw [r x a b, r y a' b'] at q; exact q⟩
  unfold plainR
  rw [if_pos (by omega)]
theorem plainR_rfx : RFX ρ (plainR ρ) := fun j hj => by
  unfold plainR
  rw [if_neg (by omega), if_neg (by omega)]
  by_cases q : 0 ≤ j ∧ j < 2597
  · rw [if_pos q, if_pos (by omega)]
  · rw [if_neg q]
theorem fcnt_0 (h : ∀ x, 0 ≤ x → x < 26 → ρ (5 + x) = -1) : ∀ k : Nat, k ≤ 26 → fcnt ρ k = 0
  | 0, _ => rfl
  | k + 1, hk => by
    simp only [fcnt]
    rw [fcnt_0 h k (by omega), h _ (by omega) (by omega)]
    rfl
/-- the draft, emptied so far -/
theorem l_cl_27 (hd : 11 ≤ d) (h0 : σ 142 0 = 0 ∧ σ 142 3 = 0 ∧ σ 142 5 = 0 ∧ σ 142 7 = 0 ∧ σ 142 11 = 0) : ∀ (k i : Nat) (τ : jH), i + k = 26 → (∀ c, c ≠ 143 → c ≠ 144 → c ≠ 155 → τ c = σ c) → (∀ x : Int, 0 ≤ x → x < i → τ 143 x = x ∧ τ 144 x = 0 ∧ τ 155 x = x) →
    Ev (l, (fun _ => 0), 0) d 0 0 m_Rules_clear (RW fun _ τ => DRC τ (plainR ρ) false ∧ τ 142 0 = 0 ∧ ∀ c, (c < 142 ∨ 155 < c ∨ (146 ≤ c ∧ c ≤ 153)) → τ c = σ c) 27 [some (vR 142), some (vI i)] [] gW τ 0 0
  | 0, i, τ, hk, F, V => by
    have e : i = 26 := by omega
    subst e
    have hU := isU
    refine jwp_sound t_Rules_clear _ (b_Rules_clear_27 ?_)
    simp only [RW, true_and, and_true, and_self, true_or, or_true, Nat.reduceLeDiff, Nat.reduceEqDiff, Nat.reduceAdd, Int.reduceLE, Int.reduceLT, Int.reduceEq, Int.reduceNeg, Int.reduceNe, Nat.reduceSub, reduceIte, implies_true, ru_t hU, ru_r1 hU, ru_t1 hU, ru_r2 hU, ru_t2 hU, ru_r4 hU, ru_t4 hU, ru_r6 hU, ru_t6 hU, ru_r8 hU, ru_t8 hU, ru_r9 hU, ru_t9 hU, ru_r10 hU, ru_t10 hU, Int.reduceAdd, gt_143, gt_144, gt_155]
    refine ⟨fun _ => ?_, fun q => absurd q (by omega)⟩
    refine cN_v (c_Arrays_fill (n := 20) 0 _ gt_154 (by omega) (by omega)) (by omega) (fun _ => ?_)
    have fx : ∀ x, 0 ≤ x → x < 26 → plainR ρ (5 + x) = -1 := fun x a b => by
      unfold plainR
      rw [if_pos (by omega)]
    have z : ∀ j, 0 ≤ j → j < 3 → plainR ρ j = 0 := fun j a b => by
      unfold plainR
      rw [if_neg (by omega), if_neg (by omega), if_pos (by omega), if_neg (by omega)]
    have r : ∀ c, c ≠ 154 → jfill τ 154 0 20 0 c = τ c := fun c hc => jfill_row hc
    have e142 : jfill τ 154 0 20 0 142 = σ 142 := by rw [r 142 (by omega), F 142 (by omega) (by omega) (by omega)]
    refine ⟨⟨⟨?_, ?_, ?_, ?_⟩, fun x a b => ?_, fun x a b => ?_, fun s a b => ?_, fun r a b => ?_⟩, by rw [e142]; exact h0.1, fun c hc => by rw [r c (by omega), F c (by omega) (by omega) (by omega)]⟩
    · rw [e142, z 1 (by omega) (by omega)]
      exact h0.2.2.1
    · rw [e142, z 2 (by omega) (by omega)]
      exact h0.2.2.2.1
    · rw [e142, fcnt_0 fx 26 (by omega)]
      exact h0.2.1
    · rw [e142]
      exact h0.2.2.2.2
    · obtain ⟨v1, v2, v3⟩ := V x a b
      rw [r 143 (by omega), r 144 (by omega), fx x a b, if_pos rfl]
      unfold fo
      rw [fx x a b, if_pos rfl]
      exact ⟨v1, v2⟩
    · obtain ⟨v1, v2, v3⟩ := V x a b
      rw [r 155 (by omega)]
      unfold plainR
      rw [if_neg (by omega), if_pos (by omega), v3]
      omega
    · rw [z 1 (by omega) (by omega)] at b
      omega
    · rw [z 2 (by omega) (by omega)] at b
      omega
  | k + 1, i, τ, hk, F, V => by
    have hU := isU
    refine jwp_sound t_Rules_clear _ (b_Rules_clear_27 ?_)
    simp only [RW, true_and, and_true, and_self, true_or, or_true, Nat.reduceLeDiff, Nat.reduceEqDiff, Nat.reduceAdd, Int.reduceLE, Int.reduceLT, Int.reduceEq, Int.reduceNeg, Int.reduceNe, Nat.reduceSub, reduceIte, implies_true, ru_t hU, ru_r1 hU, ru_t1 hU, ru_r2 hU, ru_t2 hU, ru_r4 hU, ru_t4 hU, ru_r6 hU, ru_t6 hU, ru_r8 hU, ru_t8 hU, ru_r9 hU, ru_t9 hU, ru_r10 hU, ru_t10 hU, Int.reduceAdd, gt_143, gt_144, gt_155]
    rw [w32_of (x := (i : Int) + 1) (by omega) (by omega), w8i (x := i) (by omega) (by omega), w8i (x := i) (by omega) (by omega), show w8 0 = 0 by decide]
    refine ⟨fun q => absurd q (by omega), fun _ => ?_⟩
    repeat (refine And.intro (by omega) ?_)
    have IH := l_cl_27 hd h0 k (i + 1) (ju (ju (ju τ 143 i i) 155 i i) 144 i 0) (by omega) (fun c a b e => by rw [ju_row b, ju_row e, ju_row a, F c a b e]) (fun x x0 x1 => by
      by_cases y : x = i
      · rw [y]
        refine ⟨?_, ?_, ?_⟩
        · rw [ju_row (by omega), ju_row (by omega), ju_self]
        · rw [ju_self]
        · rw [ju_row (by omega), ju_self]
      · obtain ⟨v1, v2, v3⟩ := V x x0 (by omega)
        refine ⟨?_, ?_, ?_⟩
        · rw [ju_row (by omega), ju_row (by omega), ju_ne2 y]
          exact v1
        · rw [ju_ne2 y, ju_row (by omega), ju_row (by omega)]
          exact v2
        · rw [ju_row (by omega), ju_ne2 y, ju_row (by omega)]
          exact v3)
    rw [show ((i + 1 : Nat) : Int) = (i : Int) + 1 by omega] at IH
    exact IH
theorem c_Rules_clear (σ : jH) (ρ : Int → Int) : Cw 11 m_Rules_clear [vR 142] σ (fun _ τ => DRC τ (plainR ρ) false ∧ τ 142 0 = 0 ∧ ∀ c, (c < 142 ∨ 155 < c ∨ (146 ≤ c ∧ c ≤ 153)) → τ c = σ c) := by
  have hU := isU
  refine Cw_of o_Rules_clear rfl fun l d hd => jwp_sound t_Rules_clear _ (b_Rules_clear_0 ?_)
  simp only [RW, true_and, and_true, and_self, true_or, or_true, Nat.reduceLeDiff, Nat.reduceEqDiff, Nat.reduceAdd, Int.reduceLE, Int.reduceLT, Int.reduceEq, Int.reduceNeg, Int.reduceNe, Nat.reduceSub, reduceIte, implies_true, ru_t hU, ru_r1 hU, ru_t1 hU, ru_r2 hU, ru_t2 hU, ru_r4 hU, ru_t4 hU, ru_r6 hU, ru_t6 hU, ru_r8 hU, ru_t8 hU, ru_r9 hU, ru_t9 hU, ru_r10 hU, ru_t10 hU, Int.reduceAdd, gt_143, gt_144, gt_155]
  repeat (refine And.intro (by omega) ?_)
  generalize hχ : ju (ju (ju (ju (ju σ 142 0 0) 142 3 0) 142 5 0) 142 7 0) 142 11 0 = χ
  have F : ∀ c, c ≠ 142 → χ c = σ c := fun c h => by rw [← hχ, ju_row h, ju_row h, ju_row h, ju_row h, ju_row h]
  have go := l_cl_27 (l := l) (σ := χ) (ρ := ρ) hd (by
    rw [← hχ]
    refine ⟨?_, ?_, ?_, ?_, ?_⟩
    all_goals simp (disch := omega) only [ju_self, ju_ne2]) 26 0 χ rfl (fun _ _ _ _ => rfl) (fun x a b => by omega)
  exact Ev_post go (fun z τ h => ⟨h.1, h.2.1, fun c hc => by rw [h.2.2 c hc, F c (by omega)]⟩)
end R7
