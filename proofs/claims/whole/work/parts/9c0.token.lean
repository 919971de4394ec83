/-! Tokens: what stands where; the class goes on -/
abbrev isD (b : Int) : Prop := 48 ≤ b ∧ b ≤ 57
abbrev isSg (b : Int) : Prop := b = 59 ∨ b = 40 ∨ b = 41 ∨ b = 34
def wsB (t : Int → Int) (j : Int) : Bool := decide (¬ (t j = 32 ∨ t j = 10))
def ndB (t : Int → Int) (j : Int) : Bool := decide (¬ isD (t j))
def tS (t : Int → Int) (n p : Int) : Int := fsi (wsB t) (n - p).toNat p
def tE (t : Int → Int) (n s : Int) : Int := if n ≤ s then s else if isL (t s) then fsi (nlB t) (n - s).toNat s else if isD (t s) then fsi (ndB t) (n - s).toNat s else s + 1
def tKs (t : Int → Int) (n s : Int) : Int := if n ≤ s then 0 else if isL (t s) then 1 else if isD (t s) then 2 else if isSg (t s) then t s else 3
def tN (t : Int → Int) (n p : Int) : Int := tE t n (tS t n p)
def tK (t : Int → Int) (n p : Int) : Int := tKs t n (tS t n p)
def nvl (t : Int → Int) (s : Int) : Nat → Int
  | 0 => 0
  | k + 1 => nvl t s k * 10 + t (s + k) - 48
def tV (t : Int → Int) (n p : Int) : Int := nvl t (tS t n p) (tN t n p - tS t n p).toNat
theorem fsi_st {P : Int → Bool} {k : Nat} {i : Int} (h : P i = false) : fsi P (k + 1) i = fsi P k (i + 1) := by
  simp only [fsi]
  rw [h, if_neg Bool.false_ne_true]
theorem fsi_hit {P : Int → Bool} {k : Nat} {i : Int} (h : P i = true) : fsi P (k + 1) i = i := by
  simp only [fsi]
  rw [if_pos h]
theorem tS_r {t : Int → Int} {n p : Int} (h : p ≤ n) : p ≤ tS t n p ∧ tS t n p ≤ n := by
  have := fsi_r (P := wsB t) (n - p).toNat p
  unfold tS
  omega
theorem tE_r {t : Int → Int} {n s : Int} (h : s ≤ n) : s ≤ tE t n s ∧ tE t n s ≤ n ∧ (s < n → s < tE t n s) := by
  unfold tE
  by_cases q : n ≤ s
  · rw [if_pos q]
    omega
  · rw [if_neg q]
    have k1 : (n - s).toNat = (n - (s + 1)).toNat + 1 := by omega
    by_cases g : isL (t s)
    · rw [if_pos g, k1, fsi_st (nlB_f g)]
      have := fsi_r (P := nlB t) (n - (s + 1)).toNat (s + 1)
      omega
    · rw [if_neg g]
      by_cases g2 : isD (t s)
      · rw [if_pos g2, k1, fsi_st (decide_eq_false (fun x => x g2))]
        have := fsi_r (P := ndB t) (n - (s + 1)).toNat (s + 1)
        omega
      · rw [if_neg g2]
        omega
theorem tN_r {t : Int → Int} {n p : Int} (h : p ≤ n) : tS t n p ≤ tN t n p ∧ tN t n p ≤ n ∧ (tS t n p < n → tS t n p < tN t n p) := tE_r (tS_r h).2
theorem nvl_r {t : Int → Int} {s : Int} : ∀ k : Nat, (∀ j : Int, 0 ≤ j → j < k → isD (t (s + j))) → 0 ≤ nvl t s k
  | 0, _ => Int.le_refl _
  | k + 1, h => by
    have IH := nvl_r k (fun j a b => h j a (by omega))
    have := h k (by omega) (by omega)
    simp only [nvl]
    omega
def TP (σ : jH) (t : Int → Int) (n : Int) : Prop := (0 ≤ n ∧ n ≤ 400) ∧ ∀ j, 0 ≤ j → j < n → σ 2 j = t j ∧ -128 ≤ t j ∧ t j < 128
/-- the class's token at p -/
def TKC (σ : jH) (t : Int → Int) (n p : Int) : Prop := (σ 140 1 = n ∧ σ 140 2 = tS t n p ∧ σ 140 3 = tN t n p ∧ σ 140 4 = tK t n p) ∧ (tK t n p = 2 → σ 140 5 = min 1000 (tV t n p))
/-- nothing but the token has changed -/
def FTK (σ τ : jH) : Prop := (∀ c, c ≠ 140 → τ c = σ c) ∧ ∀ j, j ≠ 2 → j ≠ 3 → j ≠ 4 → j ≠ 5 → τ 140 j = σ 140 j
theorem FTK.tr {σ τ υ : jH} (h : FTK σ τ) (h' : FTK τ υ) : FTK σ υ := ⟨fun c hc => (h'.1 c hc).trans (h.1 c hc), fun j a b c d => (h'.2 j a b c d).trans (h.2 j a b c d)⟩
theorem FTK.rf {σ : jH} : FTK σ σ := ⟨fun _ _ => rfl, fun _ _ _ _ _ => rfl⟩
section TO
variable {l : Launch} {d : Nat} {t : Int → Int} {σ : jH} {n : Int}
theorem c_isDigit (b : Int) (σ : jH) : Cw 10 m_Tokens_isDigit [vI b] σ (fun z τ => z = (if isD b then 1 else 0) ∧ τ = σ) := by
  refine Cw_of o_Tokens_isDigit rfl fun l d hd => jwp_sound t_Tokens_isDigit _ (b_Tokens_isDigit_0 ?_)
  simp only [RW, true_and, and_true, and_self, true_or, or_true, Nat.reduceLeDiff, Nat.reduceEqDiff, Nat.reduceAdd, Int.reduceLE, Int.reduceLT, Int.reduceEq, Int.reduceNeg, Int.reduceNe, Nat.reduceSub, reduceIte, implies_true]
  grind
theorem TP.eq {τ : jH} (T : TP σ t n) (h : τ 2 = σ 2) : TP τ t n := by
  unfold TP
  rw [h]
  exact T
theorem c_byteAhead {x : Int} (T : TP σ t n) (h1 : σ 140 1 = n) (h3 : σ 140 3 = x) (x0 : 0 ≤ x) : Cw 10 m_Tokens_byteAhead [vR 140] σ (fun z τ => z = (if x < n then t x else -1) ∧ τ = σ) := by
  obtain ⟨T1, T2⟩ := T
  refine Cw_of o_Tokens_byteAhead rfl fun l d hd => jwp_sound t_Tokens_byteAhead _ (b_Tokens_byteAhead_0 ?_)
  simp only [RW, true_and, and_true, and_self, true_or, or_true, Nat.reduceLeDiff, Nat.reduceEqDiff, Nat.reduceAdd, Int.reduceLE, Int.reduceLT, Int.reduceEq, Int.reduceNeg, Int.reduceNe, Nat.reduceSub, reduceIte, implies_true, gt_140, gr_140_0, gt_2]
  rw [h1, h3]
  refine ⟨fun q => absurd q (by omega), fun _ => ⟨fun q => by rw [if_neg (by omega)], fun q => ⟨fun q2 => absurd q2 (by omega), fun q2 => ⟨by omega, by omega, ?_⟩⟩⟩⟩
  rw [if_pos q]
  first | exact (T2 x x0 q).1 | exact ⟨(T2 x x0 q).1, rfl⟩
theorem l_rn_10 {s : Int} (hd : 11 ≤ d) (T : TP σ t n) (h1 : σ 140 1 = n) (s0 : 0 ≤ s) : ∀ (k m : Nat) (τ : jH), s + m + k = n → FTK σ τ → (∀ j : Int, 0 ≤ j → j < m → isD (t (s + j))) → (τ 140 3 = s + m ∧ τ 140 5 = min 1000 (nvl t s m) ∧ τ 140 2 = σ 140 2 ∧ τ 140 4 = 2) →
    Ev (l, (fun _ => 0), 0) d 0 0 m_Tokens_readNumber (RW fun _ υ => FTK σ υ ∧ υ 140 3 = fsi (ndB t) k (s + m) ∧ υ 140 5 = min 1000 (nvl t s (fsi (ndB t) k (s + m) - s).toNat) ∧ υ 140 2 = σ 140 2 ∧ υ 140 4 = 2) 10 [some (vR 140)] [] gW τ 0 0
  | 0, m, τ, hk, F, A, V => by
    obtain ⟨v3, v5, v2, v4⟩ := V
    refine jwp_sound t_Tokens_readNumber _ (b_Tokens_readNumber_10 ?_)
    simp only [RW, true_and, and_true, and_self, true_or, or_true, Nat.reduceLeDiff, Nat.reduceEqDiff, Nat.reduceAdd, Int.reduceLE, Int.reduceLT, Int.reduceEq, Int.reduceNeg, Int.reduceNe, Nat.reduceSub, reduceIte, implies_true, gt_140]
    rw [F.2 1 (by omega) (by omega) (by omega) (by omega), h1, v3]
    refine ⟨fun _ => ⟨F, rfl, ?_, v2, v4⟩, fun q => absurd q (by omega)⟩
    show τ 140 5 = min 1000 (nvl t s (s + (m : Int) - s).toNat)
    rw [show (s + (m : Int) - s).toNat = m by omega]
    exact v5
  | k + 1, m, τ, hk, F, A, V => by
    obtain ⟨v3, v5, v2, v4⟩ := V
    obtain ⟨T1, T2⟩ := T
    obtain ⟨b1, b2, b3⟩ := T2 (s + m) (by omega) (by omega)
    have nr := nvl_r m A
    have g1 : τ 140 1 = n := by rw [F.2 1 (by omega) (by omega) (by omega) (by omega)]; exact h1
    have BA := c_byteAhead (TP.eq (σ := σ) (τ := τ) (t := t) (n := n) ⟨T1, T2⟩ (F.1 2 (by omega))) g1 v3 (by omega)
    rw [if_pos (show s + (m : Int) < n by omega)] at BA
    refine jwp_sound t_Tokens_readNumber _ (b_Tokens_readNumber_10 ?_)
    simp only [RW, true_and, and_true, and_self, true_or, or_true, Nat.reduceLeDiff, Nat.reduceEqDiff, Nat.reduceAdd, Int.reduceLE, Int.reduceLT, Int.reduceEq, Int.reduceNeg, Int.reduceNe, Nat.reduceSub, reduceIte, implies_true, gt_140]
    rw [g1, v3]
    refine ⟨fun q => absurd q (by omega), fun _ => ?_⟩
    refine cN_p BA (by omega) ?_
    refine cN_p (c_isDigit _ _) (by omega) ?_
    by_cases g : isD (t (s + m))
    · rw [if_pos g, fsi_st (decide_eq_false (fun x => x g))]
      refine ⟨fun x => absurd x (by omega), fun _ => ?_⟩
      refine cN_p BA (by omega) ?_
      rw [v5, w32_of (x := min 1000 (nvl t s m) * 10) (by omega) (by omega), w32_of (x := min 1000 (nvl t s m) * 10 + t (s + m)) (by omega) (by omega), w32_of (x := min 1000 (nvl t s m) * 10 + t (s + m) - 48) (by omega) (by omega)]
      refine ⟨by omega, ?_⟩
      rw [ju_ne2 (by omega), v3, w32_of (x := s + (m : Int) + 1) (by omega) (by omega)]
      have IH := l_rn_10 hd ⟨T1, T2⟩ h1 s0 k (m + 1) (ju (ju τ 140 5 (min 1000 (min 1000 (nvl t s m) * 10 + t (s + m) - 48))) 140 3 (s + m + 1)) (by omega) ⟨fun c hc => by rw [ju_row hc, ju_row hc, F.1 c hc], fun j a b c e => by rw [ju_ne2 b, ju_ne2 e, F.2 j a b c e]⟩ (fun j a b => by
        by_cases y : j = m
        · rw [y]; exact g
        · exact A j a (by omega)) ⟨by rw [ju_self]; omega, by
          rw [ju_ne2 (by omega), ju_self]
          show _ = min 1000 (nvl t s m * 10 + t (s + m) - 48)
          omega, by rw [ju_ne2 (by omega), ju_ne2 (by omega)]; exact v2, by rw [ju_ne2 (by omega), ju_ne2 (by omega)]; exact v4⟩
      rw [show s + ((m + 1 : Nat) : Int) = s + (m : Int) + 1 by omega] at IH
      exact IH
    · rw [if_neg g, fsi_hit (decide_eq_true g)]
      refine ⟨fun _ => ⟨F, v3, ?_, v2, v4⟩, fun x => absurd rfl x⟩
      rw [show (s + (m : Int) - s).toNat = m by omega]
      exact v5
theorem c_readNumber {s : Int} (T : TP σ t n) (h1 : σ 140 1 = n) (s0 : 0 ≤ s ∧ s ≤ n) (h3 : σ 140 3 = s) : Cw 11 m_Tokens_readNumber [vR 140] σ (fun _ υ => FTK σ υ ∧ υ 140 3 = fsi (ndB t) (n - s).toNat s ∧ υ 140 5 = min 1000 (nvl t s (fsi (ndB t) (n - s).toNat s - s).toNat) ∧ υ 140 2 = σ 140 2 ∧ υ 140 4 = 2) := by
  refine Cw_of o_Tokens_readNumber rfl fun l d hd => jwp_sound t_Tokens_readNumber _ (b_Tokens_readNumber_0 ?_)
  simp only [RW, true_and, and_true, and_self, true_or, or_true, Nat.reduceLeDiff, Nat.reduceEqDiff, Nat.reduceAdd, Int.reduceLE, Int.reduceLT, Int.reduceEq, Int.reduceNeg, Int.reduceNe, Nat.reduceSub, reduceIte, implies_true, gt_140]
  have go := l_rn_10 (l := l) (s := s) hd T h1 s0.1 (n - s).toNat 0 (ju (ju σ 140 4 2) 140 5 0) (by omega) ⟨fun c hc => by rw [ju_row hc, ju_row hc], fun j a b c e => by rw [ju_ne2 e, ju_ne2 c]⟩ (fun j a b => by omega) ⟨by rw [ju_ne2 (by omega), ju_ne2 (by omega), h3]; omega, by rw [ju_self]; rfl, by rw [ju_ne2 (by omega), ju_ne2 (by omega)], by rw [ju_ne2 (by omega), ju_self]⟩
  rw [Int.natCast_zero, Int.add_zero] at go
  exact go
theorem l_av_99 {s : Int} (hd : 12 ≤ d) (T : TP σ t n) (h1 : σ 140 1 = n) (s0 : 0 ≤ s) : ∀ (k : Nat) (x : Int) (τ : jH), x + k = n → 0 ≤ x → FTK σ τ → (τ 140 3 = x ∧ τ 140 2 = s ∧ τ 140 4 = 1) →
    Ev (l, (fun _ => 0), 0) d 0 0 m_Tokens_advance (RW fun _ υ => FTK σ υ ∧ υ 140 3 = fsi (nlB t) k x ∧ υ 140 2 = s ∧ υ 140 4 = 1) 86 [some (vR 140), none] [] gW τ 0 0
  | 0, x, τ, hk, x0, F, V => by
    obtain ⟨v3, v2, v4⟩ := V
    refine jwp_sound t_Tokens_advance _ (b_Tokens_advance_86 ?_)
    simp only [RW, true_and, and_true, and_self, true_or, or_true, Nat.reduceLeDiff, Nat.reduceEqDiff, Nat.reduceAdd, Int.reduceLE, Int.reduceLT, Int.reduceEq, Int.reduceNeg, Int.reduceNe, Nat.reduceSub, reduceIte, implies_true, gt_140]
    rw [F.2 1 (by omega) (by omega) (by omega) (by omega), h1, v3]
    exact ⟨fun _ => ⟨F, rfl, v2, v4⟩, fun q => absurd q (by omega)⟩
  | k + 1, x, τ, hk, x0, F, V => by
    obtain ⟨v3, v2, v4⟩ := V
    obtain ⟨T1, T2⟩ := T
    have g1 : τ 140 1 = n := by rw [F.2 1 (by omega) (by omega) (by omega) (by omega)]; exact h1
    have BA := c_byteAhead (TP.eq (σ := σ) (τ := τ) (t := t) (n := n) ⟨T1, T2⟩ (F.1 2 (by omega))) g1 v3 x0
    rw [if_pos (show x < n by omega)] at BA
    refine jwp_sound t_Tokens_advance _ (b_Tokens_advance_86 ?_)
    simp only [RW, true_and, and_true, and_self, true_or, or_true, Nat.reduceLeDiff, Nat.reduceEqDiff, Nat.reduceAdd, Int.reduceLE, Int.reduceLT, Int.reduceEq, Int.reduceNeg, Int.reduceNe, Nat.reduceSub, reduceIte, implies_true, gt_140]
    rw [g1, v3]
    refine ⟨fun q => absurd q (by omega), fun _ => ?_⟩
    refine cN_p BA (by omega) ?_
    refine cN_p (c_isLetter _ _) (by omega) ?_
    by_cases g : isL (t x)
    · rw [if_pos g, v3, fsi_st (nlB_f g), w32_of (x := x + 1) (by omega) (by omega)]
      refine ⟨fun y => absurd y (by omega), fun _ => ?_⟩
      exact l_av_99 hd ⟨T1, T2⟩ h1 s0 k (x + 1) _ (by omega) (by omega) ⟨fun c hc => by rw [ju_row hc, F.1 c hc], fun j a b c e => by rw [ju_ne2 b, F.2 j a b c e]⟩ ⟨ju_self, by rw [ju_ne2 (by omega)]; exact v2, by rw [ju_ne2 (by omega)]; exact v4⟩
    · rw [if_neg g, fsi_hit (nlB_t g)]
      exact ⟨fun _ => ⟨F, v3, v2, v4⟩, fun y => absurd rfl y⟩
end TO
