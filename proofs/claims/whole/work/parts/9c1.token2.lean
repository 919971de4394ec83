/-! Tokens: the class's advance, open, fail, is, letters -/
def eqB (t : Int → Int) (s : Int) (bs : List Nat) : Nat → Bool
  | 0 => true
  | k + 1 => eqB t s bs k && decide (t (s + k) = ((bs.getD k 0 : Nat) : Int))
def tI (t : Int → Int) (n p : Int) (bs : List Nat) : Bool := (decide (tK t n p = 1) && decide (tN t n p - tS t n p = ((bs.length : Nat) : Int))) && eqB t (tS t n p) bs bs.length
theorem eqB_f {t : Int → Int} {s : Int} {bs : List Nat} {i : Nat} (h : ¬ t (s + i) = ((bs.getD i 0 : Nat) : Int)) : ∀ k : Nat, i < k → eqB t s bs k = false
  | 0, hk => absurd hk (by omega)
  | k + 1, hk => by
    simp only [eqB]
    by_cases q : i = k
    · subst q
      rw [decide_eq_false h, Bool.and_false]
    · rw [eqB_f h k (by omega), Bool.false_and]
def tL (t : Int → Int) (n p : Int) : Int := if tK t n p = 1 ∧ tN t n p - tS t n p = 1 then t (tS t n p) - 97 else -1
def wK (t : Int → Int) (n p : Int) : Int × Nat := tky t (tS t n p) (tN t n p - tS t n p).toNat
theorem tK_1 {t : Int → Int} {n p : Int} (h : tK t n p = 1) : tS t n p < n ∧ isL (t (tS t n p)) := by
  unfold tK tKs at h
  split at h
  · omega
  · split at h
    · exact ⟨by omega, by assumption⟩
    · split at h
      · omega
      · split at h <;> omega
theorem tK_l {t : Int → Int} {n p : Int} (hp : p ≤ n) (h : tK t n p = 1) : ∀ j, tS t n p ≤ j → j < tN t n p → isL (t j) := fun j a b => by
  obtain ⟨h1, h2⟩ := tK_1 h
  have e : tN t n p = fsi (nlB t) (n - tS t n p).toNat (tS t n p) := by
    unfold tN tE
    rw [if_neg (by omega), if_pos h2]
  rw [e] at b
  have := fsi_all (P := nlB t) _ _ j a b
  exact Classical.not_not.mp (of_decide_eq_false this)
theorem tky_20 {t : Int → Int} {s : Int} : ∀ k : Nat, (∀ j : Int, 0 ≤ j → j < 20 + k → isL (t (s + j))) → tky t s (20 + k) = tky t s 20
  | 0, _ => rfl
  | k + 1, h => by
    have IH := tky_20 k (fun j a b => h j a (by omega))
    have ln : (tky t s 20).2 = 20 := by
      rw [tky_len 20 (fun j a b => h j a (by omega))]
      rfl
    have g := h ((20 + k : Nat) : Int) (by omega) (by omega)
    have e : tky t s (20 + k + 1) = (kad (tky t s (20 + k)).1 (tky t s (20 + k)).2 (t (s + ((20 + k : Nat) : Int)) - 97), min ((tky t s (20 + k)).2 + 1) 20) := if_pos g
    rw [show 20 + (k + 1) = 20 + k + 1 by omega, e, IH, ln]
    unfold kad
    rw [if_neg (by omega)]
    apply Prod.ext
    · rfl
    · exact ln.symm
section T2
variable {l : Launch} {d : Nat} {t : Int → Int} {σ : jH} {n p : Int}
def ADV (σ υ : jH) (t : Int → Int) (n s : Int) : Prop := FTK σ υ ∧ υ 140 2 = s ∧ υ 140 3 = tE t n s ∧ υ 140 4 = tKs t n s ∧ (tKs t n s = 2 → υ 140 5 = min 1000 (nvl t s (tE t n s - s).toNat))
theorem l_av_52 {s : Int} (hd : 12 ≤ d) (T : TP σ t n) (h1 : σ 140 1 = n) (s0 : 0 ≤ s ∧ s ≤ n) {τ : jH} (F : FTK σ τ) (h3 : τ 140 3 = s) :
    Ev (l, (fun _ => 0), 0) d 0 0 m_Tokens_advance (RW fun _ υ => ADV σ υ t n s) 42 [some (vR 140), none] [] gW τ 0 0 := by
  have g1 : τ 140 1 = n := by rw [F.2 1 (by omega) (by omega) (by omega) (by omega)]; exact h1
  refine jwp_sound t_Tokens_advance _ (b_Tokens_advance_42 ?_)
  simp only [RW, true_and, and_true, and_self, true_or, or_true, Nat.reduceLeDiff, Nat.reduceEqDiff, Nat.reduceAdd, Int.reduceLE, Int.reduceLT, Int.reduceEq, Int.reduceNeg, Int.reduceNe, Nat.reduceSub, reduceIte, implies_true, gt_140]
  rw [h3]
  generalize hχ : ju τ 140 2 s = χ
  have x2 : χ 140 2 = s := by rw [← hχ, ju_self]
  have x3 : χ 140 3 = s := by rw [← hχ, ju_ne2 (by omega)]; exact h3
  have xr : ∀ c, c ≠ 140 → χ c = σ c := fun c hc => by rw [← hχ, ju_row hc, F.1 c hc]
  have xj : ∀ j, j ≠ 2 → χ 140 j = τ 140 j := fun j hj => by rw [← hχ, ju_ne2 hj]
  have Fχ : FTK σ χ := ⟨xr, fun j a b c e => by rw [xj j a, F.2 j a b c e]⟩
  have x1 : χ 140 1 = n := by rw [xj 1 (by omega)]; exact g1
  refine cN_p (c_byteAhead (T.eq (xr 2 (by omega))) x1 x3 s0.1) (by omega) ?_
  rw [x3, x1]
  refine ⟨fun q => ?_, fun q => ?_⟩
  · obtain ⟨T1, T2⟩ := T
    rw [if_pos q]
    refine cN_p (c_isLetter _ _) (by omega) ?_
    by_cases g : isL (t s)
    · have hE : tE t n s = fsi (nlB t) (n - s).toNat s := by
        unfold tE
        rw [if_neg (by omega), if_pos g]
      have hK : tKs t n s = 1 := by
        unfold tKs
        rw [if_neg (by omega), if_pos g]
      rw [if_pos g]
      refine ⟨fun x => absurd x (by omega), fun _ => ?_⟩
      have Fk : FTK σ (ju χ 140 4 1) := ⟨fun c hc => by rw [ju_row hc, xr c hc], fun j a b c e => by rw [ju_ne2 c, Fχ.2 j a b c e]⟩
      have go := l_av_99 (l := l) (s := s) hd ⟨T1, T2⟩ h1 s0.1 (n - s).toNat s (ju χ 140 4 1) (by omega) s0.1 Fk ⟨by rw [ju_ne2 (by omega)]; exact x3, by rw [ju_ne2 (by omega)]; exact x2, ju_self⟩
      refine Ev_post go (fun _ υ h => ?_)
      obtain ⟨h1, h2, h3, h4⟩ := h
      unfold ADV
      rw [hE, hK]
      exact ⟨h1, h3, h2, h4, fun x => absurd x (by omega)⟩
    · rw [if_neg g]
      refine ⟨fun _ => ?_, fun x => absurd rfl x⟩
      refine cN_p (c_isDigit _ _) (by omega) ?_
      by_cases g2 : isD (t s)
      · have hE : tE t n s = fsi (ndB t) (n - s).toNat s := by
          unfold tE
          rw [if_neg (by omega), if_neg g, if_pos g2]
        have hK : tKs t n s = 2 := by
          unfold tKs
          rw [if_neg (by omega), if_neg g, if_pos g2]
        rw [if_pos g2]
        refine ⟨fun x => absurd x (by omega), fun _ => ?_⟩
        refine cN_w (c_readNumber (s := s) (σ := χ) ⟨T1, fun j a b => by rw [xr 2 (by omega)]; exact T2 j a b⟩ x1 s0 x3) (by omega) (fun _ υ h => ?_)
        obtain ⟨h1, h2, h3, h4, h5⟩ := h
        unfold ADV
        rw [hE, hK]
        exact ⟨Fχ.tr h1, by rw [h4]; exact x2, h2, h5, fun _ => h3⟩
      · have hE : tE t n s = s + 1 := by
          unfold tE
          rw [if_neg (by omega), if_neg g, if_neg g2]
        have hK : tKs t n s = if isSg (t s) then t s else 3 := by
          unfold tKs
          rw [if_neg (by omega), if_neg g, if_neg g2]
        rw [if_neg g2]
        refine ⟨fun _ => ?_, fun x => absurd rfl x⟩
        have fin : ∀ v, v = (if isSg (t s) then t s else 3) → ADV σ (ju (ju χ 140 4 v) 140 3 (w32 (ju χ 140 4 v 140 3 + 1))) t n s := fun v hv => by
          rw [ju_ne2 (show (3 : Int) ≠ 4 by omega), x3, w32_of (by omega) (by omega)]
          unfold ADV
          rw [hE, hK]
          refine ⟨⟨fun c hc => by rw [ju_row hc, ju_row hc, xr c hc], fun j a b c e => by rw [ju_ne2 b, ju_ne2 c, Fχ.2 j a b c e]⟩, by rw [ju_ne2 (by omega), ju_ne2 (by omega)]; exact x2, ju_self, by rw [ju_ne2 (by omega), ju_self, hv], fun x => ?_⟩
          split at x <;> omega
        refine ⟨fun a => fin _ ?_, fun a => ⟨fun a2 => fin _ ?_, fun a2 => ⟨fun a3 => fin _ ?_, fun a3 => ⟨fun a4 => fin _ ?_, fun a4 => fin _ ?_⟩⟩⟩⟩
        · rw [if_pos (Or.inl a)]
        · rw [if_pos (Or.inr (Or.inl a2))]
        · rw [if_pos (Or.inr (Or.inr (Or.inl a3)))]
        · rw [if_neg (by omega)]
        · rw [if_pos (Or.inr (Or.inr (Or.inr a4)))]
  · have hE : tE t n s = s := by
      unfold tE
      rw [if_pos q]
    have hK : tKs t n s = 0 := by
      unfold tKs
      rw [if_pos q]
    unfold ADV
    rw [hE, hK]
    exact ⟨⟨fun c hc => by rw [ju_row hc, xr c hc], fun j a b c e => by rw [ju_ne2 c, Fχ.2 j a b c e]⟩, by rw [ju_ne2 (by omega)]; exact x2, by rw [ju_ne2 (by omega)]; exact x3, ju_self, fun x => absurd x (by omega)⟩
theorem l_av_0 (hd : 12 ≤ d) (T : TP σ t n) (h1 : σ 140 1 = n) : ∀ (k : Nat) (x : Int) (τ : jH), x + k = n → 0 ≤ x → FTK σ τ → τ 140 3 = x →
    Ev (l, (fun _ => 0), 0) d 0 0 m_Tokens_advance (RW fun _ υ => ADV σ υ t n (fsi (wsB t) k x)) 0 [some (vR 140), none] [] gW τ 0 0
  | 0, x, τ, hk, x0, F, h3 => by
    refine jwp_sound t_Tokens_advance _ (b_Tokens_advance_0 ?_)
    simp only [RW, true_and, and_true, and_self, true_or, or_true, Nat.reduceLeDiff, Nat.reduceEqDiff, Nat.reduceAdd, Int.reduceLE, Int.reduceLT, Int.reduceEq, Int.reduceNeg, Int.reduceNe, Nat.reduceSub, reduceIte, implies_true, gt_140]
    rw [F.2 1 (by omega) (by omega) (by omega) (by omega), h1, h3]
    exact ⟨fun _ => l_av_52 hd T h1 ⟨x0, by omega⟩ F h3, fun q => absurd q (by omega)⟩
  | k + 1, x, τ, hk, x0, F, h3 => by
    have T1 := T.1
    have g1 : τ 140 1 = n := by rw [F.2 1 (by omega) (by omega) (by omega) (by omega)]; exact h1
    have BA := c_byteAhead (T.eq (F.1 2 (by omega))) g1 h3 x0
    rw [if_pos (show x < n by omega)] at BA
    have IH := l_av_0 hd T h1 k (x + 1) (ju τ 140 3 (x + 1)) (by omega) (by omega) ⟨fun c hc => by rw [ju_row hc, F.1 c hc], fun j a b c e => by rw [ju_ne2 b, F.2 j a b c e]⟩ ju_self
    refine jwp_sound t_Tokens_advance _ (b_Tokens_advance_0 ?_)
    simp only [RW, true_and, and_true, and_self, true_or, or_true, Nat.reduceLeDiff, Nat.reduceEqDiff, Nat.reduceAdd, Int.reduceLE, Int.reduceLT, Int.reduceEq, Int.reduceNeg, Int.reduceNe, Nat.reduceSub, reduceIte, implies_true, gt_140]
    rw [g1, h3]
    refine ⟨fun q => absurd q (by omega), fun _ => ?_⟩
    refine cN_p BA (by omega) ?_
    rw [h3, w32_of (x := x + 1) (by omega) (by omega)]
    refine ⟨fun q => ?_, fun q => ?_⟩
    · rw [fsi_st (decide_eq_false (fun y => y (Or.inl q)))]
      exact IH
    refine cN_p BA (by omega) ?_
    refine ⟨fun q2 => ?_, fun q2 => ?_⟩
    · rw [fsi_hit (decide_eq_true (by omega))]
      exact l_av_52 hd T h1 ⟨x0, by omega⟩ F h3
    · rw [h3, w32_of (x := x + 1) (by omega) (by omega), fsi_st (decide_eq_false (fun y => y (Or.inr q2)))]
      exact IH
theorem c_advance0 (T : TP σ t n) (h1 : σ 140 1 = n) (h3 : σ 140 3 = p) (hp : 0 ≤ p ∧ p ≤ n) : Cw 12 m_Tokens_advance [vR 140] σ (fun _ υ => FTK σ υ ∧ TKC υ t n p) := by
  refine Cw_of o_Tokens_advance rfl fun l d hd => ?_
  have go := l_av_0 (l := l) hd T h1 (n - p).toNat p σ (by omega) hp.1 FTK.rf h3
  refine Ev_post go (fun _ υ h => ?_)
  obtain ⟨g1, g2, g3, g4, g5⟩ := h
  exact ⟨g1, ⟨by rw [g1.2 1 (by omega) (by omega) (by omega) (by omega)]; exact h1, g2, g3, g4⟩, g5⟩
theorem c_advance (T : TP σ t n) (K : TKC σ t n p) (hp : 0 ≤ p ∧ p ≤ n) : Cw 12 m_Tokens_advance [vR 140] σ (fun _ υ => FTK σ υ ∧ TKC υ t n (tN t n p)) := by
  have r := tS_r (t := t) hp.2
  have r2 := tN_r (t := t) hp.2
  exact c_advance0 T K.1.1 K.1.2.2.1 ⟨by omega, by omega⟩
theorem c_open (T : TP σ t n) : Cw 13 m_Tokens_open [vR 140, vI n] σ (fun _ υ => (∀ c, c ≠ 140 → υ c = σ c) ∧ TKC υ t n 0 ∧ υ 140 6 = 0 ∧ υ 140 7 = -1) := by
  have T1 := T.1
  refine Cw_of o_Tokens_open rfl fun l d hd => jwp_sound t_Tokens_open _ (b_Tokens_open_0 ?_)
  simp only [RW, true_and, and_true, and_self, true_or, or_true, Nat.reduceLeDiff, Nat.reduceEqDiff, Nat.reduceAdd, Int.reduceLE, Int.reduceLT, Int.reduceEq, Int.reduceNeg, Int.reduceNe, Nat.reduceSub, reduceIte, implies_true, gt_140, gr_140_0, gt_2]
  rw [show max 0 (min n 400) = n by omega]
  repeat (refine And.intro (by omega) ?_)
  refine cN_w (c_advance0 (p := 0) (T.eq (by rw [ju_row (by omega), ju_row (by omega), ju_row (by omega), ju_row (by omega)])) (by rw [ju_ne2 (by omega), ju_ne2 (by omega), ju_ne2 (by omega), ju_self]) (by rw [ju_ne2 (by omega), ju_ne2 (by omega), ju_self]) ⟨by omega, T1.1⟩) (by omega) (fun _ υ h => ?_)
  obtain ⟨F, K⟩ := h
  exact ⟨fun c hc => by rw [F.1 c hc, ju_row hc, ju_row hc, ju_row hc, ju_row hc], K, by rw [F.2 6 (by omega) (by omega) (by omega) (by omega), ju_ne2 (by omega), ju_self], by rw [F.2 7 (by omega) (by omega) (by omega) (by omega), ju_self]⟩
theorem c_fail (x : Int) (K : TKC σ t n p) : Cw 10 m_Tokens_fail [vR 140, vI x] σ (fun z τ => z = 0 ∧ τ = ju (ju σ 140 6 x) 140 7 (tS t n p)) := by
  refine Cw_of o_Tokens_fail rfl fun l d hd => jwp_sound t_Tokens_fail _ (b_Tokens_fail_0 ?_)
  simp only [RW, true_and, and_true, and_self, true_or, or_true, Nat.reduceLeDiff, Nat.reduceEqDiff, Nat.reduceAdd, Int.reduceLE, Int.reduceLT, Int.reduceEq, Int.reduceNeg, Int.reduceNe, Nat.reduceSub, reduceIte, implies_true, gt_140]
  rw [ju_ne2 (by omega), K.1.2.1]
theorem c_letterCount (K : TKC σ t n p) (hp : 0 ≤ p ∧ p ≤ n) (hn : n ≤ 400) : Cw 10 m_Tokens_letterCount [vR 140] σ (fun z τ => z = (if tK t n p = 1 then tN t n p - tS t n p else 0) ∧ τ = σ) := by
  have r := tS_r (t := t) hp.2
  have r2 := tN_r (t := t) hp.2
  refine Cw_of o_Tokens_letterCount rfl fun l d hd => jwp_sound t_Tokens_letterCount _ (b_Tokens_letterCount_0 ?_)
  simp only [RW, true_and, and_true, and_self, true_or, or_true, Nat.reduceLeDiff, Nat.reduceEqDiff, Nat.reduceAdd, Int.reduceLE, Int.reduceLT, Int.reduceEq, Int.reduceNeg, Int.reduceNe, Nat.reduceSub, reduceIte, implies_true, gt_140]
  rw [K.1.2.2.2, K.1.2.2.1, K.1.2.1, w32_of (by omega) (by omega)]
  exact ⟨fun q => by rw [if_neg q], fun q => by rw [if_pos q]⟩
theorem c_letterAt {i : Int} (T : TP σ t n) (K : TKC σ t n p) (hp : 0 ≤ p ∧ p ≤ n) (hi : 0 ≤ i) (hi2 : tS t n p + i < tN t n p) : Cw 10 m_Tokens_letterAt [vR 140, vI i] σ (fun z τ => z = t (tS t n p + i) - 97 ∧ τ = σ) := by
  have r := tS_r (t := t) hp.2
  have r2 := tN_r (t := t) hp.2
  obtain ⟨T1, T2⟩ := T
  obtain ⟨b1, b2, b3⟩ := T2 (tS t n p + i) (by omega) (by omega)
  refine Cw_of o_Tokens_letterAt rfl fun l d hd => jwp_sound t_Tokens_letterAt _ (b_Tokens_letterAt_0 ?_)
  simp only [RW, true_and, and_true, and_self, true_or, or_true, Nat.reduceLeDiff, Nat.reduceEqDiff, Nat.reduceAdd, Int.reduceLE, Int.reduceLT, Int.reduceEq, Int.reduceNeg, Int.reduceNe, Nat.reduceSub, reduceIte, implies_true, gt_140, gr_140_0, gt_2]
  rw [K.1.2.2.1, K.1.2.1, w32_of (x := tS t n p + i) (by omega) (by omega), b1, w32_of (x := t _ - 97) (by omega) (by omega)]
  refine ⟨fun q => absurd q (by omega), fun _ => ⟨fun q => absurd q (by omega), fun _ => ⟨fun q => absurd q (by omega), fun _ => ⟨fun q => absurd q (by omega), fun _ => ?_⟩⟩⟩⟩
  repeat (refine And.intro (by omega) ?_)
  first | rfl | exact ⟨rfl, rfl⟩
theorem c_onlyLetter (T : TP σ t n) (K : TKC σ t n p) (hp : 0 ≤ p ∧ p ≤ n) : Cw 11 m_Tokens_onlyLetter [vR 140] σ (fun z τ => z = tL t n p ∧ τ = σ) := by
  have T1 := T.1
  refine Cw_of o_Tokens_onlyLetter rfl fun l d hd => jwp_sound t_Tokens_onlyLetter _ (b_Tokens_onlyLetter_0 ?_)
  simp only [RW, true_and, and_true, and_self, true_or, or_true, Nat.reduceLeDiff, Nat.reduceEqDiff, Nat.reduceAdd, Int.reduceLE, Int.reduceLT, Int.reduceEq, Int.reduceNeg, Int.reduceNe, Nat.reduceSub, reduceIte, implies_true, gt_140]
  refine cN_p (c_letterCount K hp T1.2) (by omega) ?_
  unfold tL
  by_cases q : tK t n p = 1
  · rw [if_pos q]
    by_cases q2 : tN t n p - tS t n p = 1
    · rw [if_pos ⟨q, q2⟩]
      refine ⟨fun x => absurd q2 x, fun _ => ?_⟩
      refine cN_p (c_letterAt (i := 0) T K hp (by omega) (by omega)) (by omega) ?_
      rw [Int.add_zero]
      exact ⟨rfl, rfl⟩
    · rw [if_neg (fun x => q2 x.2)]
      exact ⟨fun _ => ⟨rfl, rfl⟩, fun x => absurd x q2⟩
  · rw [if_neg q, if_neg (fun x => q x.1)]
    exact ⟨fun _ => ⟨rfl, rfl⟩, fun x => absurd x (by omega)⟩
end T2
