/-! Likeness: the class's alike and matched -/
section LM
variable {l : Launch} {d : Nat} {w z ω : Int → Int} {σ : jH} {n m : Int}
theorem l_rf_37 (hd : 12 ≤ d) (hm : 0 ≤ m ∧ m ≤ 300) (hn : 0 ≤ n ∧ n ≤ 300) (h1 : σ 105 0 = n) (h2 : σ 120 0 = m) (hw : ∀ p, 0 ≤ p → p < n → σ 112 p = w p) (hz : ∀ q, 0 ≤ q → q < m → σ 127 q = z q) : ∀ (k : Nat) (H B : Int) (τ : jH), (k : Int) ≤ n → LKF σ τ → LKH τ H B → (∀ q, 0 ≤ q → q ≤ m → τ B q = LQ w z n m k q) → LKB τ (spP w z n m ((k : Int) - 1) (m - 1)) →
    Ev (l, (fun _ => 0), 0) d 0 0 m_Likeness_refresh (RW fun _ υ => (∀ c, (c < 135 ∨ 139 < c) → υ c = σ c) ∧ (υ 135 0 = 1 ∧ υ 135 1 = LQ w z n m 0 0) ∧ (∀ p, 0 ≤ p → p < n → υ 136 p = mtc w z n m p 700 0 0) ∧ ∃ H B, LKH υ H B) 37 [some (vR 135), some (vR 105), some (vR 120), some (vI ((k : Int) - 1))] [] gW τ 0 0
  | 0, H, B, τ, hk, F, K, V, L => by
    have K' := K
    obtain ⟨K1, K2, K3⟩ := K'
    have tB : gW.2.1 B = (1, 301) := by
      rcases K3 with ⟨_, h⟩ | ⟨_, h⟩ <;> rw [h]
      · exact gt_139
      · exact gt_138
    refine jwp_sound t_Likeness_refresh _ (b_Likeness_refresh_37 ?_)
    simp only [RW, true_and, and_true, and_self, true_or, or_true, Nat.reduceLeDiff, Nat.reduceEqDiff, Nat.reduceAdd, Int.reduceLE, Int.reduceLT, Int.reduceEq, Int.reduceNeg, Int.reduceNe, Nat.reduceSub, reduceIte, implies_true, gt_135]
    rw [K2, tB, V 0 (Int.le_refl _) hm.1]
    refine ⟨fun _ => ⟨rfl, by omega, ?_⟩, fun x => absurd x (by omega)⟩
    have r : ∀ c, c ≠ 135 → ju τ 135 1 (LQ w z n m ((0 : Nat) : Int) 0) c = τ c := fun c hc => ju_row hc
    refine cN_w (c_pairUp (w := w) (z := z) (σ := ju τ 135 1 (LQ w z n m ((0 : Nat) : Int) 0)) hm hn (by rw [r 105 (by omega), F.1 105 (by omega)]; exact h1) (by rw [r 120 (by omega), F.1 120 (by omega)]; exact h2) (fun p a b => by rw [r 112 (by omega), F.1 112 (by omega)]; exact hw p a b) (fun p a b => by rw [r 127 (by omega), F.1 127 (by omega)]; exact hz p a b) (fun p q a b c e => by
      have := L p q a b c e
      unfold BTS at this ⊢
      rw [r 137 (by omega)]
      exact this)) (by omega) (fun _ υ h => ?_)
    obtain ⟨G, M⟩ := h
    refine ⟨fun c hc => by rw [ju_row (by omega), G c (by omega), r c (by omega)]; exact F.1 c (by omega), ⟨ju_self, by rw [ju_ne2 (by omega), G 135 (by omega), ju_self]; rfl⟩, fun p a b => by rw [ju_row (by omega)]; exact M p a b, H, B, by rw [ju_ne2 (by omega), G 135 (by omega), ju_ne2 (by omega)]; exact K1, by rw [ju_ne2 (by omega), G 135 (by omega), ju_ne2 (by omega)]; exact K2, K3⟩
  | k + 1, H, B, τ, hk, F, K, V, L => by
    have e112 : τ 112 k = w k := by rw [F.1 112 (by omega)]; exact hw k (by omega) (by omega)
    have kE : ((k + 1 : Nat) : Int) - 1 = (k : Int) := by omega
    rw [kE] at L
    rw [kE]
    refine jwp_sound t_Likeness_refresh _ (b_Likeness_refresh_37 ?_)
    simp only [RW, true_and, and_true, and_self, true_or, or_true, Nat.reduceLeDiff, Nat.reduceEqDiff, Nat.reduceAdd, Int.reduceLE, Int.reduceLT, Int.reduceEq, Int.reduceNeg, Int.reduceNe, Nat.reduceSub, reduceIte, implies_true, gt_135, gt_105, gr_105_5, gt_112]
    rw [e112, w32_of (x := (k : Int) + -1) (by omega) (by omega), show (k : Int) + -1 = (k : Int) - 1 by omega]
    refine ⟨fun x => absurd x (by omega), fun _ => ⟨by omega, by omega, ?_⟩⟩
    refine cN_w (c_fillRow (w := w) (z := z) (n := n) (H := H) (B := B) hm hn.2 ⟨by omega, by omega⟩ (by rw [F.1 120 (by omega)]; exact h2) (fun q a b => by rw [F.1 127 (by omega)]; exact hz q a b) K (fun q a b => by rw [V q a b, show ((k + 1 : Nat) : Int) = (k : Int) + 1 by omega]) L) (by omega) (fun _ υ h => ?_)
    obtain ⟨F2, K2, V2, L2⟩ := h
    refine l_rf_37 hd hm hn h1 h2 hw hz k B H υ (by omega) (F.tr F2) K2 V2 (fun p q a b c e => ?_)
    rw [L2 p q a b c e]
    unfold spP
    have : ((p < n ∧ q < m) ∧ ((k : Int) < p ∨ (p = (k : Int) ∧ -1 < q))) ↔ ((p < n ∧ q < m) ∧ ((k : Int) - 1 < p ∨ (p = (k : Int) - 1 ∧ m - 1 < q))) := by omega
    simp only [this]
theorem c_Likeness_refresh (D : CDR σ ω) (W : OKW ω) (I : LKI σ ω) : Cw 12 m_Likeness_refresh [vR 135, vR 105, vR 120] σ (fun _ υ => (∀ c, (c < 135 ∨ 139 < c) → υ c = σ c) ∧ υ 135 0 ≠ 0 ∧ LKI υ ω) := by
  obtain ⟨I1, H, B, K⟩ := I
  have w0 := W.n (e := 0) (by omega)
  have w1 := W.n (e := 1) (by omega)
  have T0 := D.W (e := 0) (by omega)
  have T1 := D.W (e := 1) (by omega)
  have K' := K
  obtain ⟨K1, K2, K3⟩ := K'
  have tB : gW.2.1 B = (1, 301) := by
    rcases K3 with ⟨_, h⟩ | ⟨_, h⟩ <;> rw [h]
    · exact gt_139
    · exact gt_138
  have h1 : σ 105 0 = (wW ω 0).1 := T0.1.1
  have h2 : σ 120 0 = (wW ω 1).1 := T1.1.1
  refine Cw_of o_Likeness_refresh rfl fun l d hd => jwp_sound t_Likeness_refresh _ (b_Likeness_refresh_0 ?_)
  simp only [RW, true_and, and_true, and_self, true_or, or_true, Nat.reduceLeDiff, Nat.reduceEqDiff, Nat.reduceAdd, Int.reduceLE, Int.reduceLT, Int.reduceEq, Int.reduceNeg, Int.reduceNe, Nat.reduceSub, reduceIte, implies_true, gt_135, gr_135_3, gt_105]
  refine ⟨fun q => ?_, fun q => ⟨q, I1, H, B, K⟩⟩
  refine cN_v (c_fill3 (N := 1500) 0 _ gt_137 (by omega) (by omega)) (by omega) (fun _ => ?_)
  rw [jfill_row (by omega), K2]
  refine cN_v (c_Arrays_fill (n := 301) 0 _ tB (by omega) (by omega)) (by omega) (fun _ => ?_)
  have r : ∀ c, c ≠ 137 → c ≠ B → jfill (jfill σ 137 0 1500 0) B 0 301 0 c = σ c := fun c a b => by rw [jfill_row b, jfill_row a]
  rw [r 105 (by omega) (by omega), h1, show min (wW ω 0).1 300 = (wW ω 0).1 by omega, w32_of (x := (wW ω 0).1 - 1) (by omega) (by omega)]
  refine ⟨by omega, ?_⟩
  generalize hχ : jfill (jfill σ 137 0 1500 0) B 0 301 0 = χ at r
  have eB : ∀ q, 0 ≤ q → q < 301 → χ B q = 0 := fun q a b => by rw [← hχ, jfill_in a b]
  have e137 : ∀ j, 0 ≤ j → j < 1500 → χ 137 j = 0 := fun j a b => by rw [← hχ, jfill_row (by omega), jfill_in a b]
  have go := l_rf_37 (l := l) (w := dw ω 0) (z := dw ω 1) (n := (wW ω 0).1) (m := (wW ω 1).1) (σ := χ) hd ⟨w1.1, w1.2.1⟩ ⟨w0.1, w0.2.1⟩ (by rw [r 105 (by omega) (by omega)]; exact h1) (by rw [r 120 (by omega) (by omega)]; exact h2) (fun p a b => by rw [r 112 (by omega) (by omega)]; exact T0.2.1 p a b) (fun p a b => by rw [r 127 (by omega) (by omega)]; exact T1.2.1 p a b) (wW ω 0).1.toNat H B χ (by omega) LKF.rf ⟨by rw [r 135 (by omega) (by omega)]; exact K1, by rw [r 135 (by omega) (by omega)]; exact K2, K3⟩ (fun q a b => by rw [eB q a (by omega), LQ_n (by omega)]) (fun p q a b c e => by
    unfold BTS spP
    rw [e137 _ (by omega) (by omega), btb_zero, decide_eq_false (by omega), Bool.false_and])
  rw [show (((wW ω 0).1.toNat : Nat) : Int) - 1 = (wW ω 0).1 - 1 by omega] at go
  refine Ev_post go (fun _ υ h => ?_)
  obtain ⟨g1, ⟨g2, g3⟩, g4, g5⟩ := h
  exact ⟨fun c hc => by rw [g1 c hc, r c (by omega) (by omega)], by omega, fun _ => ⟨g3, g4⟩, g5⟩
theorem c_freshLikeness (C : CFR σ ω) (I : LKI σ ω) : Cw 15 m_WordPlaces_freshLikeness [vR 1] σ (fun x τ => x = 135 ∧ LKP σ τ ω ∧ τ 135 0 ≠ 0 ∧ CDR τ ω) := by
  refine Cw_of o_WordPlaces_freshLikeness rfl fun l d hd => jwp_sound t_WordPlaces_freshLikeness _ (b_WordPlaces_freshLikeness_0 ?_)
  simp only [RW, true_and, and_true, and_self, true_or, or_true, Nat.reduceLeDiff, Nat.reduceEqDiff, Nat.reduceAdd, Int.reduceLE, Int.reduceLT, Int.reduceEq, Int.reduceNeg, Int.reduceNe, Nat.reduceSub, reduceIte, implies_true, gt_1, gr_1_2, gt_3, gr_1_5, gt_97, gr_1_6, gt_135]
  refine cN_w (c_refresh i3 C.1 C.2.1) (by omega) (fun _ τ h => ?_)
  have h' := fresh_of C h
  have C2 := C.of h'.1
  refine cN_p (c_wordsOf _ _) (by omega) ?_
  refine cN_p (c_wordsOf _ _) (by omega) ?_
  rw [if_pos rfl, if_neg (by omega)]
  have e135 : τ 135 = σ 135 := h'.1.1 135 (by omega)
  have e136 : τ 136 = σ 136 := h'.1.1 136 (by omega)
  have I2 : LKI τ ω := by
    obtain ⟨I1, H, B, K1, K2, K3⟩ := I
    refine ⟨fun x => ?_, H, B, by rw [e135]; exact K1, by rw [e135]; exact K2, K3⟩
    rw [e135] at x
    unfold LKD
    rw [e135, e136]
    exact I1 x
  refine cN_w (c_Likeness_refresh h'.2.2 C.1 I2) (by omega) (fun _ υ hυ => ?_)
  obtain ⟨g1, g2, g3⟩ := hυ
  exact ⟨⟨C2.of1 (fun c a b => g1 c (by omega)), g3, fun c hc => by rw [g1 c (by omega), h'.1.1 c (by omega)]⟩, g2, CDR_eq (fun c a b => g1 c (by omega)) h'.2.2⟩
theorem c_alike (C : CFR σ ω) (I : LKI σ ω) : Cw 16 m_WordPlaces_alike [vR 1] σ (fun x τ => x = s_alike ω ∧ LKP σ τ ω) := by
  refine Cw_of o_WordPlaces_alike rfl fun l d hd => jwp_sound t_WordPlaces_alike _ (b_WordPlaces_alike_0 ?_)
  simp only [RW, true_and, and_true, and_self, true_or, or_true, Nat.reduceLeDiff, Nat.reduceEqDiff, Nat.reduceAdd, Int.reduceLE, Int.reduceLT, Int.reduceEq, Int.reduceNeg, Int.reduceNe, Nat.reduceSub, reduceIte, implies_true, gt_1]
  refine cN_w (c_freshLikeness C I) (by omega) (fun x τ h => ?_)
  obtain ⟨rfl, h1, h2, h3⟩ := h
  exact ⟨by rw [gt_135], (h1.2.1.1 h2).1, h1⟩
theorem c_matched (C : CFR σ ω) (I : LKI σ ω) (p : Int) : Cw 16 m_WordPlaces_matched [vR 1, vI p] σ (fun x τ => x = s_matched ω p ∧ LKP σ τ ω) := by
  unfold s_matched
  have w0 := C.1.n (e := 0) (by omega)
  refine Cw_of o_WordPlaces_matched rfl fun l d hd => jwp_sound t_WordPlaces_matched _ (b_WordPlaces_matched_0 ?_)
  simp only [RW, true_and, and_true, and_self, true_or, or_true, Nat.reduceLeDiff, Nat.reduceEqDiff, Nat.reduceAdd, Int.reduceLE, Int.reduceLT, Int.reduceEq, Int.reduceNeg, Int.reduceNe, Nat.reduceSub, reduceIte, implies_true, gt_1, gr_1_5, gt_97]
  refine cN_w (c_freshLikeness C I) (by omega) (fun x τ h => ?_)
  obtain ⟨rfl, h1, h2, h3⟩ := h
  have T0 := h3.W (e := 0) (by omega)
  have e105 : τ 105 0 = (wW ω 0).1 := T0.1.1
  refine cN_p (c_wordsOf _ _) (by omega) ?_
  rw [if_pos rfl]
  simp only [RW, true_and, and_true, and_self, true_or, or_true, Nat.reduceLeDiff, Nat.reduceEqDiff, Nat.reduceAdd, Int.reduceLE, Int.reduceLT, Int.reduceEq, Int.reduceNeg, Int.reduceNe, Nat.reduceSub, reduceIte, implies_true, gt_105, gt_135, gr_135_2, gt_136]
  refine cN_p (c_has (b := 105) (Or.inl rfl) e105 w0.2.1 p) (by omega) ?_
  by_cases q : 0 ≤ p ∧ p < (wW ω 0).1
  · rw [if_pos q, if_pos q]
    exact ⟨fun x => by omega, fun _ => ⟨q.1, by omega, (h1.2.1.1 h2).2 p q.1 q.2, h1⟩⟩
  · rw [if_neg q, if_neg q]
    exact ⟨fun _ => ⟨rfl, h1⟩, fun x => absurd rfl x⟩
end LM
