/-! The reference: a line is laid -/
section LL
variable {l : Launch} {d : Nat} {e i n : Int} {ω : Int → Int} {σ : jH} {P : Int → jH → Prop}
theorem l_lays_26 {a own : Int} (hd : 16 ≤ d) (hA : 2597 ≤ a ∧ a ≤ 7416) (hk : ∀ τ : jH, (∀ c, c ≠ 205 → τ c = σ c) → (∀ j : Int, 0 ≤ j → j < 61 → τ 205 j = σ 190 (a + j)) →
    Ev (l, (fun _ => 0), 0) d 0 0 m_Model_lays (RW P) 67 [some (vR 189), some (vI e), none, some (vI n), some (vI a), some (vI own), some (vI 0), none] [] gW (ju τ 190 a n) 0 0) : ∀ (m k : Nat) (τ : jH), k + m = 61 → (∀ c, c ≠ 205 → τ c = σ c) → (∀ j : Int, 0 ≤ j → j < k → τ 205 j = σ 190 (a + j)) →
    Ev (l, (fun _ => 0), 0) d 0 0 m_Model_lays (RW P) 26 [some (vR 189), some (vI e), none, some (vI n), some (vI a), some (vI own), some (vI k), none] [] gW τ 0 0
  | 0, k, τ, h, F, I => by
    have k61 : k = 61 := by omega
    subst k61
    have := hk τ F I
    refine jwp_sound t_Model_lays _ (b_Model_lays_26 ?_)
    simp only [RW, true_and, and_true, and_self, true_or, or_true, Nat.reduceLeDiff, Nat.reduceEqDiff, Nat.reduceAdd, Int.reduceLE, Int.reduceLT, Int.reduceEq, Int.reduceNeg, Int.reduceNe, Nat.reduceSub, reduceIte, implies_true, gt_189, gr_189_1, gt_190, gr_189_26, gt_205, gr_189_27, gt_206, gr_189_4, gt_193]
    refine ⟨fun _ => ?_, fun q => absurd q (by omega)⟩
    repeat (refine And.intro (by omega) ?_)
    exact this
  | m + 1, k, τ, h, F, I => by
    have IH := l_lays_26 hd hA hk m (k + 1) (ju τ 205 k (τ 190 (a + k))) (by omega) (fun c hc => by rw [ju_row hc]; exact F c hc) (fun j j0 j1 => by
      by_cases q : j = k
      · rw [q, ju_self, F 190 (by omega)]
      · rw [ju_ne2 q]
        exact I j j0 (by omega))
    rw [show ((k + 1 : Nat) : Int) = (k : Int) + 1 by omega] at IH
    refine jwp_sound t_Model_lays _ (b_Model_lays_26 ?_)
    simp only [RW, true_and, and_true, and_self, true_or, or_true, Nat.reduceLeDiff, Nat.reduceEqDiff, Nat.reduceAdd, Int.reduceLE, Int.reduceLT, Int.reduceEq, Int.reduceNeg, Int.reduceNe, Nat.reduceSub, reduceIte, implies_true, gt_189, gr_189_1, gt_190, gr_189_26, gt_205, gr_189_27, gt_206, gr_189_4, gt_193]
    rw [w32_of (x := (k : Int) + 1) (by omega) (by omega), w32_of (x := a + k) (by omega) (by omega)]
    refine ⟨fun q => absurd q (by omega), fun _ => ?_⟩
    repeat (refine And.intro (by omega) ?_)
    exact IH
theorem l_lays_67 {a own : Int} {tx : Int → Int} (hd : 16 ≤ d) (he : 0 ≤ e ∧ e ≤ 1) (hA : 2597 ≤ a ∧ a ≤ 7416) (ho : own = 0 ∨ own = 1) (hn : 0 ≤ n ∧ n ≤ 60) (ht : ∀ j, 0 ≤ j → j < n → σ 206 j = tx j) (hk : ∀ τ : jH, (∀ c, c ≠ 190 → τ c = σ c) → (∀ j : Int, τ 190 j = if j = a then n else if a < j ∧ j ≤ a + n then tx (j - a - 1) else σ 190 j) →
    Ev (l, (fun _ => 0), 0) d 0 0 m_Model_lays (RW P) 117 [some (vR 189), some (vI e), none, none, some (vI a), some (vI own), none, none] [vI own, vI (τ 190 (3 + e)), vI (3 + e), vR 190] gW τ 0 0) : ∀ (m k : Nat) (τ : jH), (k : Int) + m = n → (∀ c, c ≠ 190 → τ c = σ c) → (∀ j : Int, τ 190 j = if j = a then n else if a < j ∧ j ≤ a + k then tx (j - a - 1) else σ 190 j) →
    Ev (l, (fun _ => 0), 0) d 0 0 m_Model_lays (RW P) 67 [some (vR 189), some (vI e), none, some (vI n), some (vI a), some (vI own), some (vI k), none] [] gW τ 0 0
  | 0, k, τ, h, F, I => by
    have kn : (k : Int) = n := by omega
    rw [kn] at I
    have := hk τ F I
    refine jwp_sound t_Model_lays _ (b_Model_lays_67 ?_)
    simp only [RW, true_and, and_true, and_self, true_or, or_true, Nat.reduceLeDiff, Nat.reduceEqDiff, Nat.reduceAdd, Int.reduceLE, Int.reduceLT, Int.reduceEq, Int.reduceNeg, Int.reduceNe, Nat.reduceSub, reduceIte, implies_true, gt_189, gr_189_1, gt_190, gr_189_26, gt_205, gr_189_27, gt_206, gr_189_4, gt_193]
    rw [w32_of (x := 3 + e) (by omega) (by omega)]
    refine ⟨fun _ => ?_, fun q => absurd q (by omega)⟩
    repeat (refine And.intro (by omega) ?_)
    rcases ho with q | q
    · subst q
      exact ⟨fun _ => this, fun q => absurd rfl q⟩
    · subst q
      exact ⟨fun q => by omega, fun _ => this⟩
  | m + 1, k, τ, h, F, I => by
    have e206 : τ 206 k = tx k := by
      rw [F 206 (by omega)]
      exact ht k (by omega) (by omega)
    have IH := l_lays_67 hd he hA ho hn ht hk m (k + 1) (ju τ 190 (a + 1 + k) (tx k)) (by omega) (fun c hc => by rw [ju_row hc]; exact F c hc) (fun j => by
      by_cases q : j = a + 1 + k
      · rw [q, ju_self, if_neg (by omega), if_pos (by omega), show a + 1 + (k : Int) - a - 1 = k by omega]
      · rw [ju_ne2 q, I j]
        by_cases q2 : j = a
        · rw [if_pos q2, if_pos q2]
        · rw [if_neg q2, if_neg q2]
          by_cases q3 : a < j ∧ j ≤ a + k
          · rw [if_pos q3, if_pos (by omega)]
          · rw [if_neg q3, if_neg (by omega)])
    rw [show ((k + 1 : Nat) : Int) = (k : Int) + 1 by omega] at IH
    refine jwp_sound t_Model_lays _ (b_Model_lays_67 ?_)
    simp only [RW, true_and, and_true, and_self, true_or, or_true, Nat.reduceLeDiff, Nat.reduceEqDiff, Nat.reduceAdd, Int.reduceLE, Int.reduceLT, Int.reduceEq, Int.reduceNeg, Int.reduceNe, Nat.reduceSub, reduceIte, implies_true, gt_189, gr_189_1, gt_190, gr_189_26, gt_205, gr_189_27, gt_206, gr_189_4, gt_193]
    rw [e206, w32_of (x := (k : Int) + 1) (by omega) (by omega), w32_of (x := a + 1) (by omega) (by omega), w32_of (x := a + 1 + k) (by omega) (by omega)]
    refine ⟨fun q => absurd q (by omega), fun _ => ?_⟩
    repeat (refine And.intro (by omega) ?_)
    exact IH
theorem l_lays_151 {a own x6 : Int} (hd : 16 ≤ d) (he : 0 ≤ e ∧ e ≤ 1) (hA : 2597 ≤ a ∧ a ≤ 7416) (ho : own = 0 ∨ own = 1) (hx : x6 = 0 ∨ x6 = 1) (hr : ∀ j : Int, 0 ≤ j → j < 61 → σ 205 j = ω (a + j)) (hs : ∀ j : Int, (j < a ∨ a + 60 < j) → σ 190 j = if j = 3 + e then ω (3 + e) + own else ω j) (hL : 0 ≤ ω (3 + e) ∧ ω (3 + e) ≤ 40)
    (M : ∀ τ : jH, (∀ c, c ≠ 190 → τ c = σ c) → τ 190 = ω → MOK τ ∧ RKO (τ 190)) (hk : ∀ τ υ : jH, (∀ c, c ≠ 190 → τ c = σ c) → τ 190 = ω → MKD τ υ → P x6 υ) : ∀ (m k : Nat) (τ : jH), k + m = 61 → (∀ c, c ≠ 190 → τ c = σ c) → (∀ j : Int, τ 190 j = if a ≤ j ∧ j < a + k then ω j else σ 190 j) →
    Ev (l, (fun _ => 0), 0) d 0 0 m_Model_lays (RW P) 151 [some (vR 189), some (vI e), none, none, some (vI a), some (vI own), some (vI x6), some (vI k)] [] gW τ 0 0
  | 0, k, τ, h, F, I => by
    have k61 : k = 61 := by omega
    subst k61
    have e3 : τ 190 (3 + e) = ω (3 + e) + own := by
      rw [I, if_neg (by omega), hs _ (by omega), if_pos rfl]
    have r : ∀ c, c ≠ 190 → ju τ 190 (3 + e) (ω (3 + e)) c = σ c := fun c hc => by rw [ju_row hc]; exact F c hc
    have z : ju τ 190 (3 + e) (ω (3 + e)) 190 = ω := by
      funext j
      by_cases q : j = 3 + e
      · rw [q, ju_self]
      · rw [ju_ne2 q, I]
        by_cases q2 : a ≤ j ∧ j < a + (61 : Nat)
        · rw [if_pos q2]
        · rw [if_neg q2, hs j (by omega), if_neg q]
    have M' := M _ r z
    refine jwp_sound t_Model_lays _ (b_Model_lays_151 ?_)
    simp only [RW, true_and, and_true, and_self, true_or, or_true, Nat.reduceLeDiff, Nat.reduceEqDiff, Nat.reduceAdd, Int.reduceLE, Int.reduceLT, Int.reduceEq, Int.reduceNeg, Int.reduceNe, Nat.reduceSub, reduceIte, implies_true, gt_189, gr_189_1, gt_190, gr_189_26, gt_205, gr_189_27, gt_206, gr_189_4, gt_193]
    rw [w32_of (x := 3 + e) (by omega) (by omega), e3]
    refine ⟨fun _ => ?_, fun q => absurd q (by omega)⟩
    repeat (refine And.intro (by omega) ?_)
    rcases ho with q | q
    · subst q
      refine ⟨fun _ => ?_, fun q => absurd rfl q⟩
      rw [w32_of (x := ω (3 + e) + 0 - 0) (by omega) (by omega), show ω (3 + e) + 0 - 0 = ω (3 + e) by omega]
      repeat (refine And.intro (by omega) ?_)
      exact cN_w (c_Model_makes _ M'.1 M'.2) (by omega) (fun _ υ h => ⟨hx, hk _ υ r z h⟩)
    · subst q
      refine ⟨fun q => by omega, fun _ => ?_⟩
      rw [w32_of (x := ω (3 + e) + 1 - 1) (by omega) (by omega), show ω (3 + e) + 1 - 1 = ω (3 + e) by omega]
      repeat (refine And.intro (by omega) ?_)
      exact cN_w (c_Model_makes _ M'.1 M'.2) (by omega) (fun _ υ h => ⟨hx, hk _ υ r z h⟩)
  | m + 1, k, τ, h, F, I => by
    have e205 : τ 205 k = ω (a + k) := by
      rw [F 205 (by omega)]
      exact hr k (by omega) (by omega)
    have IH := l_lays_151 hd he hA ho hx hr hs hL M hk m (k + 1) (ju τ 190 (a + k) (ω (a + k))) (by omega) (fun c hc => by rw [ju_row hc]; exact F c hc) (fun j => by
      by_cases q : j = a + k
      · rw [q, ju_self, if_pos (by omega)]
      · rw [ju_ne2 q, I j]
        by_cases q3 : a ≤ j ∧ j < a + k
        · rw [if_pos q3, if_pos (by omega)]
        · rw [if_neg q3, if_neg (by omega)])
    rw [show ((k + 1 : Nat) : Int) = (k : Int) + 1 by omega] at IH
    refine jwp_sound t_Model_lays _ (b_Model_lays_151 ?_)
    simp only [RW, true_and, and_true, and_self, true_or, or_true, Nat.reduceLeDiff, Nat.reduceEqDiff, Nat.reduceAdd, Int.reduceLE, Int.reduceLT, Int.reduceEq, Int.reduceNeg, Int.reduceNe, Nat.reduceSub, reduceIte, implies_true, gt_189, gr_189_1, gt_190, gr_189_26, gt_205, gr_189_27, gt_206, gr_189_4, gt_193]
    rw [e205, w32_of (x := (k : Int) + 1) (by omega) (by omega), w32_of (x := a + k) (by omega) (by omega)]
    refine ⟨fun q => absurd q (by omega), fun _ => ?_⟩
    repeat (refine And.intro (by omega) ?_)
    exact IH
end LL
