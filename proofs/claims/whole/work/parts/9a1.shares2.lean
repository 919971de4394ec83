/-! Shares: the reference -/
theorem hnk_0 {c : Int → Int} {m : Int} : ∀ (k : Nat) (h s i : Int), s ≤ m → (∀ j, i ≤ j → j < i + k → 0 ≤ c j ∧ c j ≤ m) → s + sq (fun j => c (i + j)) k ≤ m → hnk c m k h s i = h
  | 0, h, s, i, _, _, _ => rfl
  | k + 1, h, s, i, h1, h2, h3 => by
    have c0 := h2 i (by omega) (by omega)
    have e : sq (fun j => c (i + j)) (k + 1) = c i + sq (fun j => c (i + 1 + j)) k := by
      clear h3 h2 h1
      induction k with
      | zero => simp [sq]
      | succ k ih =>
        rw [sq_s, ih, sq_s]
        show c i + sq (fun j => c (i + 1 + j)) k + c (i + ((k + 1 : Nat) : Int)) = c i + (sq (fun j => c (i + 1 + j)) k + c (i + 1 + (k : Int)))
        rw [show i + ((k + 1 : Nat) : Int) = i + 1 + (k : Int) by omega]
        omega
    have s0 : 0 ≤ sq (fun j => c (i + 1 + j)) k := by
      have : ∀ n : Nat, n ≤ k → 0 ≤ sq (fun j => c (i + 1 + j)) n := by
        intro n
        induction n with
        | zero => intro _; exact Int.le_refl _
        | succ n ih =>
          intro hn
          have a := ih (by omega)
          have b := (h2 (i + 1 + n) (by omega) (by omega)).1
          rw [sq_s]
          show 0 ≤ sq (fun j => c (i + 1 + j)) n + c (i + 1 + (n : Int))
          omega
      exact this k (Nat.le_refl _)
    rw [e] at h3
    simp only [hnk]
    rw [if_neg (by omega), if_neg (by omega)]
    exact hnk_0 k h (s + c i) (i + 1) (by omega) (fun j a b => h2 j (by omega) (by omega)) (by omega)
theorem hnk_41 {c : Int → Int} {m : Int} : ∀ (k : Nat) (h s i j : Int), i ≤ j → j < i + k → m < c j → hnk c m k h s i = 41
  | 0, h, s, i, j, a, b, _ => absurd a (by omega)
  | k + 1, h, s, i, j, a, b, q => by
    simp only [hnk]
    by_cases e : m < c i
    · rw [if_pos e]
    · have ne : j ≠ i := fun x => e (x ▸ q)
      rw [if_neg e, hnk_41 k _ _ (i + 1) j (by omega) (by omega) q, hnk_41 k _ _ (i + 1) j (by omega) (by omega) q]
      split <;> rfl
section SR
variable {l : Launch} {d : Nat} {ω c : Int → Int} {σ : jH} {e L n : Int}
/-- words in the lines as the reference counts them -/
def ILR (σ : jH) (c : Int → Int) (L : Int) : Prop := ∀ i, 0 ≤ i → i < L → σ 220 i = c i
theorem l_hf_19 {m : Int} (hd : 11 ≤ d) (he : 0 ≤ e ∧ e ≤ 1) (hL : 0 ≤ L ∧ L ≤ 40) (h3 : σ 190 (3 + e) = L) (I : ILR σ c L) (hm : 0 ≤ m ∧ m ≤ 300) (hc : ∀ i, 0 ≤ i → i < L → 0 ≤ c i ∧ c i ≤ m) : ∀ (k : Nat) (h s i : Int), i + k = L → 0 ≤ i → 0 ≤ h → h + k ≤ 100 → 0 ≤ s → s ≤ m →
    Ev (l, (fun _ => 0), 0) d 0 0 m_Model_handsFor (RW fun z τ => z = hnk c m k (h + 1) s i ∧ τ = σ) 19 [some (vR 189), some (vI e), none, some (vI m), some (vI h), some (vI i), some (vI (m - s))] [] gW σ 0 0
  | 0, h, s, i, hk, i0, h0, h1, s0, s1 => by
    refine jwp_sound t_Model_handsFor _ (b_Model_handsFor_19 ?_)
    simp only [RW, true_and, and_true, and_self, true_or, or_true, Nat.reduceLeDiff, Nat.reduceEqDiff, Nat.reduceAdd, Int.reduceLE, Int.reduceLT, Int.reduceEq, Int.reduceNeg, Int.reduceNe, Nat.reduceSub, reduceIte, implies_true, gt_189, gr_189_34, gt_220]
    refine cN_p (c_Model_linesOf _ he.1 he.2) (by omega) ?_
    rw [h3, w32_of (x := h + 1) (by omega) (by omega)]
    refine ⟨fun _ => ?_, fun q => absurd q (by omega)⟩
    refine jwp_sound t_Model_handsFor _ (b_Model_handsFor_6 ?_)
    simp only [RW, true_and, and_true, and_self, true_or, or_true, Nat.reduceLeDiff, Nat.reduceEqDiff, Nat.reduceAdd, Int.reduceLE, Int.reduceLT, Int.reduceEq, Int.reduceNeg, Int.reduceNe, Nat.reduceSub, reduceIte, implies_true, gt_189, gr_189_34, gt_220]
    refine cN_p (c_Model_linesOf _ he.1 he.2) (by omega) ?_
    rw [h3]
    exact ⟨fun _ => ⟨rfl, rfl⟩, fun q => absurd q (by omega)⟩
  | k + 1, h, s, i, hk, i0, h0, h1, s0, s1 => by
    have c1 := I i i0 (by omega)
    obtain ⟨c2, c3⟩ := hc i i0 (by omega)
    have adv : ∀ h s : Int, 0 ≤ h → h + k ≤ 100 → 0 ≤ s → s + c i ≤ m → Ev (l, (fun _ => 0), 0) d 0 0 m_Model_handsFor (RW fun z τ => z = hnk c m k (h + 1) (s + c i) (i + 1) ∧ τ = σ) 19 [some (vR 189), some (vI e), none, some (vI m), some (vI h), some (vI i), some (vI (m - s))] [] gW σ 0 0 := fun h s a b a2 b2 => by
      have IH := l_hf_19 hd he hL h3 I hm hc k h (s + c i) (i + 1) (by omega) (by omega) a b (by omega) b2
      refine jwp_sound t_Model_handsFor _ (b_Model_handsFor_19 ?_)
      simp only [RW, true_and, and_true, and_self, true_or, or_true, Nat.reduceLeDiff, Nat.reduceEqDiff, Nat.reduceAdd, Int.reduceLE, Int.reduceLT, Int.reduceEq, Int.reduceNeg, Int.reduceNe, Nat.reduceSub, reduceIte, implies_true, gt_189, gr_189_34, gt_220]
      refine cN_p (c_Model_linesOf _ he.1 he.2) (by omega) ?_
      rw [h3, c1, w32_of (x := h + 1) (by omega) (by omega), w32_of (x := i + 1) (by omega) (by omega), w32_of (x := m - s - c i) (by omega) (by omega), show m - s - c i = m - (s + c i) by omega]
      refine ⟨fun q => absurd q (by omega), fun _ => ?_⟩
      repeat (refine And.intro (by omega) ?_)
      refine fun q => ?_
      repeat (refine And.intro (by omega) ?_)
      exact IH
    simp only [hnk]
    rw [if_neg (by omega)]
    by_cases q : m < s + c i
    · rw [if_pos q]
      have A := adv (h + 1) 0 (by omega) (by omega) (by omega) (by omega)
      rw [show m - 0 = m by omega, show 0 + c i = c i by omega] at A
      refine jwp_sound t_Model_handsFor _ (b_Model_handsFor_19 ?_)
      simp only [RW, true_and, and_true, and_self, true_or, or_true, Nat.reduceLeDiff, Nat.reduceEqDiff, Nat.reduceAdd, Int.reduceLE, Int.reduceLT, Int.reduceEq, Int.reduceNeg, Int.reduceNe, Nat.reduceSub, reduceIte, implies_true, gt_189, gr_189_34, gt_220]
      refine cN_p (c_Model_linesOf _ he.1 he.2) (by omega) ?_
      rw [h3, c1, w32_of (x := h + 1) (by omega) (by omega)]
      refine ⟨fun q => absurd q (by omega), fun _ => ?_⟩
      repeat (refine And.intro (by omega) ?_)
      refine ⟨fun _ => ?_, fun x => absurd x (by omega)⟩
      refine jwp_sound t_Model_handsFor _ (b_Model_handsFor_6 ?_)
      simp only [RW, true_and, and_true, and_self, true_or, or_true, Nat.reduceLeDiff, Nat.reduceEqDiff, Nat.reduceAdd, Int.reduceLE, Int.reduceLT, Int.reduceEq, Int.reduceNeg, Int.reduceNe, Nat.reduceSub, reduceIte, implies_true, gt_189, gr_189_34, gt_220]
      refine cN_p (c_Model_linesOf _ he.1 he.2) (by omega) ?_
      rw [h3]
      exact ⟨fun x => absurd x (by omega), fun _ => A⟩
    · rw [if_neg q]
      exact adv h s h0 (by omega) s0 (by omega)
theorem c_handsFor {m i : Int} (he : 0 ≤ e ∧ e ≤ 1) (hL : 0 ≤ L ∧ L ≤ 40) (h3 : σ 190 (3 + e) = L) (I : ILR σ c L) (hm : 0 ≤ m ∧ m ≤ 300) (hc : ∀ i, 0 ≤ i → i < L → 0 ≤ c i ∧ c i ≤ m) (hi : 0 ≤ i ∧ i ≤ L) : Cw 11 m_Model_handsFor [vR 189, vI e, vI i, vI m] σ (fun z τ => z = HN c L i m ∧ τ = σ) := by
  have hk : i + ((L - i).toNat : Int) = L := by omega
  refine Cw_of o_Model_handsFor rfl fun l d hd => jwp_sound t_Model_handsFor _ (b_Model_handsFor_0 ?_)
  refine jwp_sound t_Model_handsFor _ (b_Model_handsFor_6 ?_)
  simp only [RW, true_and, and_true, and_self, true_or, or_true, Nat.reduceLeDiff, Nat.reduceEqDiff, Nat.reduceAdd, Int.reduceLE, Int.reduceLT, Int.reduceEq, Int.reduceNeg, Int.reduceNe, Nat.reduceSub, reduceIte, implies_true, gt_189, gr_189_34, gt_220]
  refine cN_p (c_Model_linesOf _ he.1 he.2) (by omega) ?_
  rw [h3]
  unfold HN
  refine ⟨fun q => ?_, fun q => ?_⟩
  · rw [if_neg (by omega), show (L - i).toNat = 0 by omega]
    exact ⟨rfl, rfl⟩
  · have := l_hf_19 (l := l) hd he hL h3 I hm hc (L - i).toNat 0 0 i hk hi.1 (by omega) (by omega) (by omega) hm.1
    rw [show m - 0 = m by omega, show (0 : Int) + 1 = 1 by omega] at this
    rw [if_pos q]
    exact this
/-- shares that stand, in the reference -/
def SHR (σ : jH) (N : Int) (f : Int → Int) : Prop := σ 189 36 = N ∧ (0 ≤ N ∧ N ≤ 8) ∧ ∀ i, 0 ≤ i → i < N → σ 221 i = f i
/-- shares are made by the reference, or not -/
def SRP (σ τ : jH) (ω : Int → Int) (e n z : Int) : Prop := (((0 ≤ e ∧ e ≤ 1) ∧ 1 ≤ n ∧ n ≤ 8) ∧ z = shM (lnW ω e) (ω (3 + e)) n ∧ SHR τ n (fun j => sts (lnW ω e) (ω (3 + e)) (shM (lnW ω e) (ω (3 + e)) n) n j.toNat) ∧ (∀ c, c ≠ 189 → c ≠ 220 → c ≠ 221 → τ c = σ c) ∧ ∀ j, j ≠ 36 → τ 189 j = σ 189 j) ∨ (¬ ((0 ≤ e ∧ e ≤ 1) ∧ 1 ≤ n ∧ n ≤ 8) ∧ z = -2 ∧ τ = σ)
theorem l_ms_24 {P : Int → jH → Prop} (hd : 12 ≤ d) (N : ∀ τ : jH, (∀ x, x ≠ 220 → τ x = σ x) → (∀ j, 0 ≤ j → j < 40 → τ 220 j = 0) → Ev (l, (fun _ => 0), 0) d 0 0 m_Model_shares (RW P) 45 [some (vR 189), some (vI e), some (vI n), some (vI 0), none, none] [] gW τ 0 0) : ∀ (k i : Nat) (τ : jH), i + k = 40 → (∀ x, x ≠ 220 → τ x = σ x) → (∀ j, 0 ≤ j → j < (i : Int) → τ 220 j = 0) →
    Ev (l, (fun _ => 0), 0) d 0 0 m_Model_shares (RW P) 24 [some (vR 189), some (vI e), some (vI n), some (vI i), none, none] [] gW τ 0 0
  | 0, i, τ, hk, F, V => by
    refine jwp_sound t_Model_shares _ (b_Model_shares_24 ?_)
    exact ⟨fun _ => N τ F (fun j a b => V j a (by omega)), fun q => absurd q (by omega)⟩
  | k + 1, i, τ, hk, F, V => by
    have IH := l_ms_24 hd N k (i + 1) (ju τ 220 i 0) (by omega) (fun x hx => by rw [ju_row hx, F x hx]) (fun j a b => by
      by_cases q : j = i
      · rw [q, ju_self]
      · rw [ju_ne2 q]
        exact V j a (by omega))
    rw [show ((i + 1 : Nat) : Int) = (i : Int) + 1 by omega] at IH
    refine jwp_sound t_Model_shares _ (b_Model_shares_24 ?_)
    simp only [RW, true_and, and_true, and_self, true_or, or_true, Nat.reduceLeDiff, Nat.reduceEqDiff, Nat.reduceAdd, Int.reduceLE, Int.reduceLT, Int.reduceEq, Int.reduceNeg, Int.reduceNe, Nat.reduceSub, reduceIte, implies_true, gt_189, gr_189_34, gt_220, gr_189_35, gt_221, gr_189_4, gt_193, gr_189_6, gt_195]
    rw [w32_of (x := (i : Int) + 1) (by omega) (by omega)]
    refine ⟨fun q => absurd q (by omega), fun _ => ?_⟩
    repeat (refine And.intro (by omega) ?_)
    exact IH
theorem l_ms_45 {P : Int → jH → Prop} (hd : 12 ≤ d) (R : RFR σ ω) (he : 0 ≤ e ∧ e ≤ 1) (N : ∀ τ : jH, (∀ x, x ≠ 220 → τ x = σ x) → ILR τ (lnW ω e) 40 → Ev (l, (fun _ => 0), 0) d 0 0 m_Model_shares (RW P) 87 [some (vR 189), some (vI e), some (vI n), some (vI 0), some (vI 0), none] [] gW τ 0 0) : ∀ (k p : Nat) (τ : jH), (p : Int) + k = (wW ω e).1 → (∀ x, x ≠ 220 → τ x = σ x) → (∀ j, 0 ≤ j → j < 40 → τ 220 j = cq (wW ω e).2.2.1 p j) →
    Ev (l, (fun _ => 0), 0) d 0 0 m_Model_shares (RW P) 45 [some (vR 189), some (vI e), some (vI n), some (vI p), none, none] [] gW τ 0 0
  | 0, p, τ, hk, F, V => by
    have w := R.W he
    refine jwp_sound t_Model_shares _ (b_Model_shares_45 ?_)
    simp only [RW, true_and, and_true, and_self, true_or, or_true, Nat.reduceLeDiff, Nat.reduceEqDiff, Nat.reduceAdd, Int.reduceLE, Int.reduceLT, Int.reduceEq, Int.reduceNeg, Int.reduceNe, Nat.reduceSub, reduceIte, implies_true, gt_189, gr_189_34, gt_220, gr_189_35, gt_221, gr_189_4, gt_193, gr_189_6, gt_195]
    rw [F 193 (by omega), w.1]
    repeat (refine And.intro (by omega) ?_)
    refine ⟨fun _ => N τ F (fun j a b => ?_), fun q => absurd q (by omega)⟩
    rw [V j a b]
    unfold lnW
    rw [show (wW ω e).1.toNat = p by omega]
  | k + 1, p, τ, hk, F, V => by
    have w := R.W he
    have L := (R.1.L he).1
    have wl := ((R.2.2.2.2.2.1 e he.1 he.2).2 p (by omega) (by omega)).1
    have wr := (W_lines (ω := ω) (e := e) (p := p) L.1 (by omega) (by omega)).1
    have l40 := L.2.1
    have IH := l_ms_45 hd R he N k (p + 1) (ju τ 220 ((wW ω e).2.2.1 p) (cq (wW ω e).2.2.1 p ((wW ω e).2.2.1 p) + 1)) (by omega) (fun x hx => by rw [ju_row hx, F x hx]) (fun j a b => by
      show _ = cq (wW ω e).2.2.1 p j + (if (wW ω e).2.2.1 p = j then 1 else 0)
      by_cases q : j = (wW ω e).2.2.1 p
      · rw [q, ju_self, if_pos rfl]
      · rw [ju_ne2 q, V j a b, if_neg (fun x => q x.symm)]
        omega)
    rw [show ((p + 1 : Nat) : Int) = (p : Int) + 1 by omega] at IH
    have cr := cq_r (wW ω e).2.2.1 ((wW ω e).2.2.1 p) p
    refine jwp_sound t_Model_shares _ (b_Model_shares_45 ?_)
    simp only [RW, true_and, and_true, and_self, true_or, or_true, Nat.reduceLeDiff, Nat.reduceEqDiff, Nat.reduceAdd, Int.reduceLE, Int.reduceLT, Int.reduceEq, Int.reduceNeg, Int.reduceNe, Nat.reduceSub, reduceIte, implies_true, gt_189, gr_189_34, gt_220, gr_189_35, gt_221, gr_189_4, gt_193, gr_189_6, gt_195]
    rw [F 193 (by omega), w.1, w32_of (x := 340 * e) (by omega) (by omega), w32_of (x := 340 * e + (p : Int)) (by omega) (by omega), F 195 (by omega), wl, V _ wr.1 (by omega), w32_of (x := (p : Int) + 1) (by omega) (by omega), w32_of (x := cq _ _ _ + 1) (by omega) (by omega)]
    repeat (refine And.intro (by omega) ?_)
    refine fun _ => ?_
    repeat (refine And.intro (by omega) ?_)
    exact IH
theorem l_ms_87 {P : Int → jH → Prop} (hd : 12 ≤ d) (he : 0 ≤ e ∧ e ≤ 1) (hL : 0 ≤ L ∧ L ≤ 40) (h3 : σ 190 (3 + e) = L) (I : ILR σ c L) (hc : ∀ i, 0 ≤ i → i < L → 0 ≤ c i ∧ c i ≤ 300) (N : ∀ M, 0 ≤ M → M ≤ 300 → (∀ j, 0 ≤ j → j < L → c j ≤ M) → (M = 0 ∨ ∃ j, 0 ≤ j ∧ j < L ∧ c j = M) → Ev (l, (fun _ => 0), 0) d 0 0 m_Model_shares (RW P) 115 [some (vR 189), some (vI e), some (vI n), some (vI M), none, none] [] gW σ 0 0) : ∀ (k : Nat) (M i : Int), i + k = L → 0 ≤ i → 0 ≤ M → M ≤ 300 → (∀ j, 0 ≤ j → j < i → c j ≤ M) → (M = 0 ∨ ∃ j, 0 ≤ j ∧ j < i ∧ c j = M) →
    Ev (l, (fun _ => 0), 0) d 0 0 m_Model_shares (RW P) 87 [some (vR 189), some (vI e), some (vI n), some (vI M), some (vI i), none] [] gW σ 0 0
  | 0, M, i, hk, i0, m0, m1, h1, h2 => by
    refine jwp_sound t_Model_shares _ (b_Model_shares_87 ?_)
    simp only [RW, true_and, and_true, and_self, true_or, or_true, Nat.reduceLeDiff, Nat.reduceEqDiff, Nat.reduceAdd, Int.reduceLE, Int.reduceLT, Int.reduceEq, Int.reduceNeg, Int.reduceNe, Nat.reduceSub, reduceIte, implies_true, gt_189, gr_189_34, gt_220, gr_189_35, gt_221, gr_189_4, gt_193, gr_189_6, gt_195]
    refine cN_p (c_Model_linesOf _ he.1 he.2) (by omega) ?_
    rw [h3]
    exact ⟨fun _ => N M m0 m1 (fun j a b => h1 j a (by omega)) (h2.imp id (fun ⟨j, a, b, q⟩ => ⟨j, a, by omega, q⟩)), fun q => absurd q (by omega)⟩
  | k + 1, M, i, hk, i0, m0, m1, h1, h2 => by
    have c1 := I i i0 (by omega)
    obtain ⟨c2, c3⟩ := hc i i0 (by omega)
    refine jwp_sound t_Model_shares _ (b_Model_shares_87 ?_)
    simp only [RW, true_and, and_true, and_self, true_or, or_true, Nat.reduceLeDiff, Nat.reduceEqDiff, Nat.reduceAdd, Int.reduceLE, Int.reduceLT, Int.reduceEq, Int.reduceNeg, Int.reduceNe, Nat.reduceSub, reduceIte, implies_true, gt_189, gr_189_34, gt_220, gr_189_35, gt_221, gr_189_4, gt_193, gr_189_6, gt_195]
    refine cN_p (c_Model_linesOf _ he.1 he.2) (by omega) ?_
    rw [h3, c1, w32_of (x := i + 1) (by omega) (by omega)]
    refine ⟨fun q => absurd q (by omega), fun _ => ?_⟩
    repeat (refine And.intro (by omega) ?_)
    refine l_ms_87 hd he hL h3 I hc N k (max M (c i)) (i + 1) (by omega) (by omega) (by omega) (by omega) (fun j a b => ?_) ?_
    · by_cases q : j = i
      · rw [q]
        omega
      · have := h1 j a (by omega)
        omega
    · by_cases q : c i ≤ M
      · rw [show max M (c i) = M by omega]
        exact h2.imp id (fun ⟨j, a, b, q⟩ => ⟨j, a, by omega, q⟩)
      · exact Or.inr ⟨i, i0, by omega, by omega⟩
theorem l_ms_115 {P : Int → jH → Prop} {T : Int} (hd : 12 ≤ d) (he : 0 ≤ e ∧ e ≤ 1) (hL : 0 ≤ L ∧ L ≤ 40) (h3 : σ 190 (3 + e) = L) (I : ILR σ c L) (hn : 1 ≤ n ∧ n ≤ 8) (h300 : shP c L n 300 = true) (N : Ev (l, (fun _ => 0), 0) d 0 0 m_Model_shares (RW P) 138 [some (vR 189), some (vI e), some (vI n), some (vI T), some (vI 0), some (vI 0)] [] gW σ 0 0) : ∀ (k : Nat) (m : Int), m + k = 300 → 0 ≤ m → (∀ i, 0 ≤ i → i < L → 0 ≤ c i ∧ c i ≤ m) → fsi (shP c L n) k m = T →
    Ev (l, (fun _ => 0), 0) d 0 0 m_Model_shares (RW P) 115 [some (vR 189), some (vI e), some (vI n), some (vI m), none, none] [] gW σ 0 0
  | 0, m, hk, m0, hc, hT => by
    have m3 : m = 300 := by omega
    subst m3
    have ep : HN c L 0 300 ≤ n := by
      unfold shP at h300
      rwa [decide_eq_true_eq] at h300
    simp only [fsi] at hT
    subst hT
    refine jwp_sound t_Model_shares _ (b_Model_shares_115 ?_)
    simp only [RW, true_and, and_true, and_self, true_or, or_true, Nat.reduceLeDiff, Nat.reduceEqDiff, Nat.reduceAdd, Int.reduceLE, Int.reduceLT, Int.reduceEq, Int.reduceNeg, Int.reduceNe, Nat.reduceSub, reduceIte, implies_true, gt_189, gr_189_34, gt_220, gr_189_35, gt_221, gr_189_4, gt_193, gr_189_6, gt_195]
    refine cN_p (c_handsFor he hL h3 I ⟨by omega, by omega⟩ hc ⟨by omega, hL.1⟩) (by omega) ?_
    exact ⟨fun _ => N, fun q => absurd q (by omega)⟩
  | k + 1, m, hk, m0, hc, hT => by
    simp only [fsi] at hT
    have ep : shP c L n m = true ↔ HN c L 0 m ≤ n := by
      unfold shP
      rw [decide_eq_true_eq]
    refine jwp_sound t_Model_shares _ (b_Model_shares_115 ?_)
    simp only [RW, true_and, and_true, and_self, true_or, or_true, Nat.reduceLeDiff, Nat.reduceEqDiff, Nat.reduceAdd, Int.reduceLE, Int.reduceLT, Int.reduceEq, Int.reduceNeg, Int.reduceNe, Nat.reduceSub, reduceIte, implies_true, gt_189, gr_189_34, gt_220, gr_189_35, gt_221, gr_189_4, gt_193, gr_189_6, gt_195]
    refine cN_p (c_handsFor he hL h3 I ⟨by omega, by omega⟩ hc ⟨by omega, hL.1⟩) (by omega) ?_
    rw [w32_of (x := m + 1) (by omega) (by omega)]
    refine ⟨fun q => ?_, fun q => ?_⟩
    · rw [if_pos (ep.mpr q)] at hT
      subst hT
      exact N
    · rw [if_neg (fun x => absurd (ep.mp x) (by omega))] at hT
      exact l_ms_115 hd he hL h3 I hn h300 N k (m + 1) (by omega) (by omega) (fun i a b => by have := hc i a b; omega) hT
theorem l_ms_153 {P : Int → jH → Prop} {m : Int} {τ : jH} {h : Nat} (hd : 12 ≤ d) (he : 0 ≤ e ∧ e ≤ 1) (hL : 0 ≤ L ∧ L ≤ 40) (h3 : τ 190 (3 + e) = L) (I : ILR τ c L) (hn : 1 ≤ n ∧ n ≤ 8) (hh : h < n) (hm : 0 ≤ m ∧ m ≤ 300) (hc : ∀ i, 0 ≤ i → i < L → 0 ≤ c i ∧ c i ≤ m) : ∀ (k : Nat) (i : Int), 0 ≤ i → i + k = L →
    (N : Ev (l, (fun _ => 0), 0) d 0 0 m_Model_shares (RW P) 138 [some (vR 189), some (vI e), some (vI n), some (vI m), some (vI (fsi (shQ c L m (n - h - 1)) k i)), some (vI (h + 1))] [] gW τ 0 0) →
    Ev (l, (fun _ => 0), 0) d 0 0 m_Model_shares (RW P) 153 [some (vR 189), some (vI e), some (vI n), some (vI m), some (vI i), some (vI h)] [] gW τ 0 0
  | 0, i, i0, hk, N => by
    have z : HN c L i m = 0 := by
      unfold HN
      rw [if_neg (by omega), show (L - i).toNat = 0 by omega]
      rfl
    refine jwp_sound t_Model_shares _ (b_Model_shares_153 ?_)
    simp only [RW, true_and, and_true, and_self, true_or, or_true, Nat.reduceLeDiff, Nat.reduceEqDiff, Nat.reduceAdd, Int.reduceLE, Int.reduceLT, Int.reduceEq, Int.reduceNeg, Int.reduceNe, Nat.reduceSub, reduceIte, implies_true, gt_189, gr_189_34, gt_220, gr_189_35, gt_221, gr_189_4, gt_193, gr_189_6, gt_195]
    refine cN_p (c_handsFor he hL h3 I hm hc ⟨i0, by omega⟩) (by omega) ?_
    rw [w32_of (x := (h : Int) + 1) (by omega) (by omega), w32_of (x := n - 1) (by omega) (by omega), w32_of (x := n - 1 - (h : Int)) (by omega) (by omega), z]
    exact ⟨fun _ => N, fun q => absurd q (by omega)⟩
  | k + 1, i, i0, hk, N => by
    simp only [fsi] at N
    have e2 : shQ c L m (n - h - 1) i = true ↔ HN c L i m ≤ n - h - 1 := by
      unfold shQ
      rw [decide_eq_true_eq]
    refine jwp_sound t_Model_shares _ (b_Model_shares_153 ?_)
    simp only [RW, true_and, and_true, and_self, true_or, or_true, Nat.reduceLeDiff, Nat.reduceEqDiff, Nat.reduceAdd, Int.reduceLE, Int.reduceLT, Int.reduceEq, Int.reduceNeg, Int.reduceNe, Nat.reduceSub, reduceIte, implies_true, gt_189, gr_189_34, gt_220, gr_189_35, gt_221, gr_189_4, gt_193, gr_189_6, gt_195]
    refine cN_p (c_handsFor he hL h3 I hm hc ⟨i0, by omega⟩) (by omega) ?_
    rw [w32_of (x := (h : Int) + 1) (by omega) (by omega), w32_of (x := n - 1) (by omega) (by omega), w32_of (x := n - 1 - (h : Int)) (by omega) (by omega), w32_of (x := i + 1) (by omega) (by omega)]
    refine ⟨fun q => ?_, fun q => ?_⟩
    · rw [if_pos (e2.mpr (by omega))] at N
      exact N
    · rw [if_neg (fun x => absurd (e2.mp x) (by omega))] at N
      exact l_ms_153 hd he hL h3 I hn hh hm hc k (i + 1) (by omega) (by omega) N
theorem l_ms_138 {m : Int} (hd : 12 ≤ d) (he : 0 ≤ e ∧ e ≤ 1) (hL : 0 ≤ L ∧ L ≤ 40) (h3 : σ 190 (3 + e) = L) (I : ILR σ c L) (hn : 1 ≤ n ∧ n ≤ 8) (hm : 0 ≤ m ∧ m ≤ 300) (hc : ∀ i, 0 ≤ i → i < L → 0 ≤ c i ∧ c i ≤ m) : ∀ (k h : Nat) (τ : jH), (h : Int) + k = n → (∀ x, x ≠ 221 → τ x = σ x) → (∀ j : Nat, j < h → τ 221 j = sts c L m n j) →
    Ev (l, (fun _ => 0), 0) d 0 0 m_Model_shares (RW fun z υ => z = m ∧ SHR υ n (fun j => sts c L m n j.toNat) ∧ (∀ x, x ≠ 189 → x ≠ 221 → υ x = σ x) ∧ ∀ j, j ≠ 36 → υ 189 j = σ 189 j) 138 [some (vR 189), some (vI e), some (vI n), some (vI m), some (vI (sts c L m n h)), some (vI h)] [] gW τ 0 0
  | 0, h, τ, hk, F, V => by
    refine jwp_sound t_Model_shares _ (b_Model_shares_138 ?_)
    simp only [RW, true_and, and_true, and_self, true_or, or_true, Nat.reduceLeDiff, Nat.reduceEqDiff, Nat.reduceAdd, Int.reduceLE, Int.reduceLT, Int.reduceEq, Int.reduceNeg, Int.reduceNe, Nat.reduceSub, reduceIte, implies_true, gt_189, gr_189_34, gt_220, gr_189_35, gt_221, gr_189_4, gt_193, gr_189_6, gt_195]
    refine ⟨fun _ => ⟨⟨ju_self, by omega, fun i a b => ?_⟩, fun x a b => by rw [ju_row a, F x b], fun j hj => by rw [ju_ne2 hj, F 189 (by omega)]⟩, fun q => absurd q (by omega)⟩
    rw [ju_row (by omega)]
    have := V i.toNat (by omega)
    rwa [show ((i.toNat : Nat) : Int) = i by omega] at this
  | k + 1, h, τ, hk, F, V => by
    have r := sts_r (c := c) (m := m) (n := n) hL.1 h
    have IH := l_ms_138 hd he hL h3 I hn hm hc k (h + 1) (ju τ 221 h (sts c L m n h)) (by omega) (fun x hx => by rw [ju_row hx, F x hx]) (fun j hj => by
      by_cases q : j = h
      · subst q
        exact ju_self
      · rw [ju_ne2 (by omega)]
        exact V j (by omega))
    simp only [sts] at IH
    rw [show ((h + 1 : Nat) : Int) = (h : Int) + 1 by omega] at IH
    refine jwp_sound t_Model_shares _ (b_Model_shares_138 ?_)
    simp only [RW, true_and, and_true, and_self, true_or, or_true, Nat.reduceLeDiff, Nat.reduceEqDiff, Nat.reduceAdd, Int.reduceLE, Int.reduceLT, Int.reduceEq, Int.reduceNeg, Int.reduceNe, Nat.reduceSub, reduceIte, implies_true, gt_189, gr_189_34, gt_220, gr_189_35, gt_221, gr_189_4, gt_193, gr_189_6, gt_195]
    refine ⟨fun q => absurd q (by omega), fun _ => ?_⟩
    repeat (refine And.intro (by omega) ?_)
    exact l_ms_153 (c := c) hd he hL (by rw [ju_row (by omega), F 190 (by omega)]; exact h3) (fun i a b => by rw [ju_row (by omega), F 220 (by omega)]; exact I i a b) hn (by omega) hm hc (L - sts c L m n h).toNat _ r.1 (by omega) IH
theorem shP_300 (W : OKW ω) (he : 0 ≤ e ∧ e ≤ 1) (hn : 1 ≤ n) : shP (lnW ω e) (ω (3 + e)) n 300 = true := by
  have w := W.n he
  have L := (W.L he).1
  have s := sq_cq (w := (wW ω e).2.2.1) (N := (ω (3 + e)).toNat) (wW ω e).1.toNat (fun p a b => by
    have := (W_lines (ω := ω) (e := e) L.1 a (by omega)).1
    omega)
  unfold shP HN
  rw [decide_eq_true_eq, hnk_0]
  · split <;> omega
  · omega
  · intro j a b
    exact lnW_r W he j
  · have : sq (fun j => lnW ω e (0 + j)) (ω (3 + e) - 0).toNat = sq (cq (wW ω e).2.2.1 (wW ω e).1.toNat) (ω (3 + e)).toNat := by
      rw [show ω (3 + e) - 0 = ω (3 + e) by omega]
      exact sq_eq (fun k a b => by show cq _ _ (0 + k) = _; rw [show (0 : Int) + k = k by omega])
    rw [this, s]
    omega
theorem shM_M {M : Int} (h0 : 0 ≤ M) (h1 : M ≤ 300) (hL : 0 ≤ L) (hn : n ≤ 8) (h2 : M = 0 ∨ ∃ j, 0 ≤ j ∧ j < L ∧ c j = M) : fsi (shP c L n) (300 - M).toNat M = shM c L n := by
  unfold shM
  have := fsi_skip (P := shP c L n) (300 - M).toNat M.toNat 0 (fun j a b => by
    rcases h2 with h2 | ⟨x, x0, x1, x2⟩
    · omega
    · unfold shP
      rw [decide_eq_false_iff_not]
      unfold HN
      rw [hnk_41 _ _ _ _ x (by omega) (by omega) (by omega)]
      omega)
  rw [show M.toNat + (300 - M).toNat = 300 by omega, show 0 + ((M.toNat : Nat) : Int) = M by omega] at this
  exact this.symm
theorem c_Model_shares (R : RFR σ ω) (e n : Int) : Cw 12 m_Model_shares [vR 189, vI e, vI n] σ (fun z τ => SRP σ τ ω e n z) := by
  have e190 := R.2.2.2.1
  refine Cw_of o_Model_shares rfl fun l d hd => jwp_sound t_Model_shares _ (b_Model_shares_0 ?_)
  refine cN_p (c_Model_isEdition _ _) (by omega) ?_
  by_cases he : 0 ≤ e ∧ e ≤ 1
  · rw [if_pos he]
    refine ⟨fun q => by omega, fun _ => ?_⟩
    refine cN_p (c_Model_in _ _ _ _) (by omega) ?_
    by_cases hn : 1 ≤ n ∧ n ≤ 8
    · have L := (R.1.L he).1
      have w := R.W he
      rw [if_pos hn]
      refine ⟨fun _ => ?_, fun q => by omega⟩
      refine l_ms_24 (σ := σ) hd (fun τ F V => ?_) 40 0 σ rfl (fun _ _ => rfl) (fun j a b => by omega)
      refine l_ms_45 (σ := σ) hd R he (fun τ2 F2 I => ?_) (wW ω e).1.toNat 0 τ (by omega) F (fun j a b => V j a b)
      have h3 : τ2 190 (3 + e) = ω (3 + e) := by rw [F2 190 (by omega), e190]
      have I' : ILR τ2 (lnW ω e) (ω (3 + e)) := fun i a b => I i a (by have := L.2.1; omega)
      refine l_ms_87 (c := lnW ω e) hd he ⟨L.1, L.2.1⟩ h3 I' (fun i _ _ => lnW_r R.1 he i) (fun M m0 m1 h1 h2 => ?_) (ω (3 + e)).toNat 0 0 (by have := L.1; omega) (by omega) (by omega) (by omega) (fun j a b => by omega) (Or.inl rfl)
      have hM := shM_M (c := lnW ω e) m0 m1 L.1 hn.2 h2
      have mr := fsi_r (P := shP (lnW ω e) (ω (3 + e)) n) (300 - M).toNat M
      rw [hM] at mr
      refine l_ms_115 (c := lnW ω e) hd he ⟨L.1, L.2.1⟩ h3 I' hn (shP_300 R.1 he hn.1) ?_ (300 - M).toNat M (by omega) m0 (fun i a b => ⟨(lnW_r R.1 he i).1, h1 i a b⟩) hM
      have go := l_ms_138 (l := l) (c := lnW ω e) hd he ⟨L.1, L.2.1⟩ h3 I' hn ⟨by omega, by omega⟩ (fun i a b => ⟨(lnW_r R.1 he i).1, by have := h1 i a b; omega⟩) n.toNat 0 τ2 (by omega) (fun _ _ => rfl) (fun j hj => by omega) (m := shM (lnW ω e) (ω (3 + e)) n)
      refine Ev_post go (fun z υ h => ?_)
      obtain ⟨rfl, h4, h5, h6⟩ := h
      exact Or.inl ⟨⟨he, hn⟩, rfl, h4, fun c a b b2 => by rw [h5 c a b2, F2 c b], fun j hj => by rw [h6 j hj, F2 189 (by omega)]⟩
    · rw [if_neg hn]
      exact ⟨fun q => absurd rfl q, fun _ => ⟨rfl, Or.inr ⟨fun x => hn x.2, rfl, rfl⟩⟩⟩
  · rw [if_neg he]
    exact ⟨fun _ => ⟨rfl, Or.inr ⟨fun x => he x.1, rfl, rfl⟩⟩, fun q => absurd rfl q⟩
theorem c_Model_share {N : Int} {f : Int → Int} (S : SHR σ N f) (i : Int) : Cw 11 m_Model_share [vR 189, vI i] σ (fun z τ => z = s_share N f i ∧ τ = σ) := by
  obtain ⟨s1, s2, s3⟩ := S
  refine Cw_of o_Model_share rfl fun l d hd => jwp_sound t_Model_share _ (b_Model_share_0 ?_)
  simp only [RW, true_and, and_true, and_self, true_or, or_true, Nat.reduceLeDiff, Nat.reduceEqDiff, Nat.reduceAdd, Int.reduceLE, Int.reduceLT, Int.reduceEq, Int.reduceNeg, Int.reduceNe, Nat.reduceSub, reduceIte, implies_true, gt_189, gr_189_35, gt_221]
  rw [s1, w32_of (x := N - 1) (by omega) (by omega)]
  refine cN_p (c_Model_in _ _ _ _) (by omega) ?_
  unfold s_share
  by_cases q : 0 ≤ i ∧ i ≤ N - 1
  · rw [if_pos q, if_pos ⟨q.1, by omega⟩]
    refine ⟨fun x => by omega, fun _ => ?_⟩
    repeat (refine And.intro (by omega) ?_)
    exact ⟨s3 i q.1 (by omega), rfl⟩
  · rw [if_neg q, if_neg (fun x => q ⟨x.1, by omega⟩)]
    exact ⟨fun _ => ⟨rfl, rfl⟩, fun x => absurd rfl x⟩
end SR
