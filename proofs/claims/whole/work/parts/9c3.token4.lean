/-! Tokens: the reference's see and step -/
def tokc (K : Int) : Int := if 34 ≤ K then 3 else if K = 3 then 4 else K
def TP2 (σ : jH) (t : Int → Int) (n : Int) : Prop := (0 ≤ n ∧ n ≤ 400) ∧ ∀ j, 0 ≤ j → j < n → σ 202 j = t j ∧ -128 ≤ t j ∧ t j < 128
def TKR (σ : jH) (t : Int → Int) (n p : Int) : Prop := (σ 189 17 = n ∧ σ 189 19 = tS t n p ∧ σ 189 18 = tN t n p ∧ σ 189 20 = tokc (tK t n p)) ∧ (34 ≤ tK t n p → σ 189 21 = tK t n p) ∧ (tK t n p = 2 → σ 189 21 = min 9999 (tV t n p))
def FTR2 (σ τ : jH) : Prop := (∀ c, c ≠ 189 → τ c = σ c) ∧ ∀ j, j ≠ 18 → j ≠ 19 → j ≠ 20 → j ≠ 21 → τ 189 j = σ 189 j
theorem FTR2.tr {σ τ υ : jH} (h : FTR2 σ τ) (h' : FTR2 τ υ) : FTR2 σ υ := ⟨fun c hc => (h'.1 c hc).trans (h.1 c hc), fun j a b c d => (h'.2 j a b c d).trans (h.2 j a b c d)⟩
theorem FTR2.rf {σ : jH} : FTR2 σ σ := ⟨fun _ _ => rfl, fun _ _ _ _ _ => rfl⟩
def seeV (t : Int → Int) (n k : Int) : Int := if k < n then t k % 256 else -1
theorem and255 : ∀ x : Fin 256, jand32 ((x.val : Int) - 128) 255 = ((x.val : Int) - 128) % 256 := by decide +kernel
theorem jand255 {x : Int} (h0 : -128 ≤ x) (h1 : x < 128) : jand32 x 255 = x % 256 := by
  have := and255 ⟨(x + 128).toNat, by omega⟩
  have e : (((x + 128).toNat : Nat) : Int) - 128 = x := by omega
  simp only [e] at this
  exact this
def ADR2 (σ υ : jH) (t : Int → Int) (n s : Int) : Prop := FTR2 σ υ ∧ υ 189 19 = s ∧ υ 189 18 = tE t n s ∧ υ 189 20 = tokc (tKs t n s) ∧ (34 ≤ tKs t n s → υ 189 21 = tKs t n s) ∧ (tKs t n s = 2 → υ 189 21 = min 9999 (nvl t s (tE t n s - s).toNat))
section T4
variable {l : Launch} {d : Nat} {t : Int → Int} {σ : jH} {n p : Int}
theorem c_see {k : Int} (T : TP2 σ t n) (h : σ 189 17 = n) (k0 : 0 ≤ k) : Cw 10 m_Model_see [vR 189, vI k] σ (fun z τ => z = seeV t n k ∧ τ = σ) := by
  obtain ⟨T1, T2⟩ := T
  refine Cw_of o_Model_see rfl fun l d hd => jwp_sound t_Model_see _ (b_Model_see_0 ?_)
  simp only [RW, true_and, and_true, and_self, true_or, or_true, Nat.reduceLeDiff, Nat.reduceEqDiff, Nat.reduceAdd, Int.reduceLE, Int.reduceLT, Int.reduceEq, Int.reduceNeg, Int.reduceNe, Nat.reduceSub, reduceIte, implies_true, gt_189, gr_189_14, gt_202]
  rw [h]
  unfold seeV
  refine ⟨fun q => by rw [if_neg (by omega)], fun q => ?_⟩
  obtain ⟨b1, b2, b3⟩ := T2 k k0 q
  rw [if_pos q, b1, jand255 b2 b3]
  repeat (refine And.intro (by omega) ?_)
  first | rfl | exact ⟨rfl, rfl⟩
theorem TP2.of {τ : jH} (T : TP2 σ t n) (F : FTR2 σ τ) : TP2 τ t n := by
  unfold TP2
  rw [F.1 202 (by omega)]
  exact T
theorem l_st_76 {s : Int} (hd : 11 ≤ d) (T : TP2 σ t n) (h1 : σ 189 17 = n) : ∀ (k : Nat) (x : Int) (τ : jH), x + k = n → 0 ≤ x → FTR2 σ τ → (τ 189 18 = x ∧ τ 189 19 = s) →
    Ev (l, (fun _ => 0), 0) d 0 0 m_Model_step (RW fun _ υ => FTR2 σ υ ∧ υ 189 18 = fsi (nlB t) k x ∧ υ 189 19 = s ∧ υ 189 20 = 1) 76 [some (vR 189), none] [] gW τ 0 0
  | 0, x, τ, hk, x0, F, V => by
    obtain ⟨v3, v2⟩ := V
    have g1 : τ 189 17 = n := by rw [F.2 17 (by omega) (by omega) (by omega) (by omega)]; exact h1
    refine jwp_sound t_Model_step _ (b_Model_step_76 ?_)
    simp only [RW, true_and, and_true, and_self, true_or, or_true, Nat.reduceLeDiff, Nat.reduceEqDiff, Nat.reduceAdd, Int.reduceLE, Int.reduceLT, Int.reduceEq, Int.reduceNeg, Int.reduceNe, Nat.reduceSub, reduceIte, implies_true, gt_189]
    rw [v3]
    refine cN_p (c_see (T.of F) g1 x0) (by omega) ?_
    refine cN_p (c_Model_isLetter _ _) (by omega) ?_
    have e : seeV t n x = -1 := if_neg (by omega)
    rw [e, if_neg (by omega)]
    exact ⟨fun _ => ⟨⟨fun c hc => by rw [ju_row hc, F.1 c hc], fun j a b c e => by rw [ju_ne2 c, F.2 j a b c e]⟩, by rw [ju_ne2 (by omega)]; exact v3, by rw [ju_ne2 (by omega)]; exact v2, ju_self⟩, fun y => absurd rfl y⟩
  | k + 1, x, τ, hk, x0, F, V => by
    obtain ⟨v3, v2⟩ := V
    have g1 : τ 189 17 = n := by rw [F.2 17 (by omega) (by omega) (by omega) (by omega)]; exact h1
    obtain ⟨b1, b2, b3⟩ := T.2 x x0 (by omega)
    have T1 := T.1
    refine jwp_sound t_Model_step _ (b_Model_step_76 ?_)
    simp only [RW, true_and, and_true, and_self, true_or, or_true, Nat.reduceLeDiff, Nat.reduceEqDiff, Nat.reduceAdd, Int.reduceLE, Int.reduceLT, Int.reduceEq, Int.reduceNeg, Int.reduceNe, Nat.reduceSub, reduceIte, implies_true, gt_189]
    rw [v3]
    refine cN_p (c_see (T.of F) g1 x0) (by omega) ?_
    refine cN_p (c_Model_isLetter _ _) (by omega) ?_
    have e : seeV t n x = t x % 256 := if_pos (by omega)
    rw [e, v3, w32_of (x := x + 1) (by omega) (by omega)]
    by_cases g : isL (t x)
    · rw [if_pos (show isL (t x % 256) by omega), fsi_st (nlB_f g)]
      refine ⟨fun y => absurd y (by omega), fun _ => ?_⟩
      exact l_st_76 hd T h1 k (x + 1) _ (by omega) (by omega) ⟨fun c hc => by rw [ju_row hc, F.1 c hc], fun j a b c e => by rw [ju_ne2 a, F.2 j a b c e]⟩ ⟨ju_self, by rw [ju_ne2 (by omega)]; exact v2⟩
    · rw [if_neg (show ¬ isL (t x % 256) by omega), fsi_hit (nlB_t g)]
      exact ⟨fun _ => ⟨⟨fun c hc => by rw [ju_row hc, F.1 c hc], fun j a b c e => by rw [ju_ne2 c, F.2 j a b c e]⟩, by rw [ju_ne2 (by omega)]; exact v3, by rw [ju_ne2 (by omega)]; exact v2, ju_self⟩, fun y => absurd rfl y⟩
theorem l_st_130 {s : Int} (hd : 11 ≤ d) (T : TP2 σ t n) (h1 : σ 189 17 = n) (s0 : 0 ≤ s) : ∀ (k m : Nat) (τ : jH), s + m + k = n → FTR2 σ τ → (∀ j : Int, 0 ≤ j → j < m → isD (t (s + j))) → (τ 189 18 = s + m ∧ τ 189 19 = s ∧ τ 189 21 = min 9999 (nvl t s m)) →
    Ev (l, (fun _ => 0), 0) d 0 0 m_Model_step (RW fun _ υ => FTR2 σ υ ∧ υ 189 18 = fsi (ndB t) k (s + m) ∧ υ 189 19 = s ∧ υ 189 20 = 2 ∧ υ 189 21 = min 9999 (nvl t s (fsi (ndB t) k (s + m) - s).toNat)) 130 [some (vR 189), none] [] gW τ 0 0
  | 0, m, τ, hk, F, A, V => by
    obtain ⟨v3, v2, v5⟩ := V
    have g1 : τ 189 17 = n := by rw [F.2 17 (by omega) (by omega) (by omega) (by omega)]; exact h1
    refine jwp_sound t_Model_step _ (b_Model_step_130 ?_)
    simp only [RW, true_and, and_true, and_self, true_or, or_true, Nat.reduceLeDiff, Nat.reduceEqDiff, Nat.reduceAdd, Int.reduceLE, Int.reduceLT, Int.reduceEq, Int.reduceNeg, Int.reduceNe, Nat.reduceSub, reduceIte, implies_true, gt_189]
    rw [v3]
    refine cN_p (c_see (T.of F) g1 (by omega)) (by omega) ?_
    refine cN_p (c_Model_in _ _ _ _) (by omega) ?_
    have e : seeV t n (s + m) = -1 := if_neg (by omega)
    rw [e, if_neg (by omega)]
    refine ⟨fun _ => ⟨⟨fun c hc => by rw [ju_row hc, F.1 c hc], fun j a b c e => by rw [ju_ne2 c, F.2 j a b c e]⟩, by rw [ju_ne2 (by omega)]; exact v3, by rw [ju_ne2 (by omega)]; exact v2, ju_self, ?_⟩, fun y => absurd rfl y⟩
    rw [ju_ne2 (by omega)]
    show τ 189 21 = min 9999 (nvl t s (s + (m : Int) - s).toNat)
    rw [show (s + (m : Int) - s).toNat = m by omega]
    exact v5
  | k + 1, m, τ, hk, F, A, V => by
    obtain ⟨v3, v2, v5⟩ := V
    have g1 : τ 189 17 = n := by rw [F.2 17 (by omega) (by omega) (by omega) (by omega)]; exact h1
    obtain ⟨b1, b2, b3⟩ := T.2 (s + m) (by omega) (by omega)
    have T1 := T.1
    have nr := nvl_r m A
    refine jwp_sound t_Model_step _ (b_Model_step_130 ?_)
    simp only [RW, true_and, and_true, and_self, true_or, or_true, Nat.reduceLeDiff, Nat.reduceEqDiff, Nat.reduceAdd, Int.reduceLE, Int.reduceLT, Int.reduceEq, Int.reduceNeg, Int.reduceNe, Nat.reduceSub, reduceIte, implies_true, gt_189]
    rw [v3]
    refine cN_p (c_see (T.of F) g1 (by omega)) (by omega) ?_
    refine cN_p (c_Model_in _ _ _ _) (by omega) ?_
    have e : seeV t n (s + m) = t (s + m) % 256 := if_pos (by omega)
    rw [e, v3, v5]
    by_cases g : isD (t (s + m))
    · rw [if_pos (show 48 ≤ t (s + m) % 256 ∧ t (s + m) % 256 ≤ 57 by omega), fsi_st (decide_eq_false (fun x => x g))]
      refine ⟨fun y => absurd y (by omega), fun _ => ?_⟩
      refine cN_p (c_see (T.of F) g1 (by omega)) (by omega) ?_
      rw [e, w32_of (x := 10 * min 9999 (nvl t s m)) (by omega) (by omega), w32_of (x := 10 * min 9999 (nvl t s m) + t (s + m) % 256) (by omega) (by omega), w32_of (x := 10 * min 9999 (nvl t s m) + t (s + m) % 256 - 48) (by omega) (by omega), ju_ne2 (show (18 : Int) ≠ 21 by omega), v3, w32_of (x := s + (m : Int) + 1) (by omega) (by omega)]
      refine ⟨by omega, ?_⟩
      have IH := l_st_130 hd T h1 s0 k (m + 1) (ju (ju τ 189 21 (min 9999 (10 * min 9999 (nvl t s m) + t (s + m) % 256 - 48))) 189 18 (s + m + 1)) (by omega) ⟨fun c hc => by rw [ju_row hc, ju_row hc, F.1 c hc], fun j a b c e => by rw [ju_ne2 a, ju_ne2 e, F.2 j a b c e]⟩ (fun j a b => by
        by_cases y : j = m
        · rw [y]; exact g
        · exact A j a (by omega)) ⟨by rw [ju_self]; omega, by rw [ju_ne2 (by omega), ju_ne2 (by omega)]; exact v2, by
          rw [ju_ne2 (by omega), ju_self]
          show _ = min 9999 (nvl t s m * 10 + t (s + m) - 48)
          omega⟩
      rw [show s + ((m + 1 : Nat) : Int) = s + (m : Int) + 1 by omega] at IH
      exact IH
    · rw [if_neg (show ¬ (48 ≤ t (s + m) % 256 ∧ t (s + m) % 256 ≤ 57) by omega), fsi_hit (decide_eq_true g)]
      refine ⟨fun _ => ⟨⟨fun c hc => by rw [ju_row hc, F.1 c hc], fun j a b c e => by rw [ju_ne2 c, F.2 j a b c e]⟩, by rw [ju_ne2 (by omega)]; exact v3, by rw [ju_ne2 (by omega)]; exact v2, ju_self, ?_⟩, fun y => absurd rfl y⟩
      rw [ju_ne2 (by omega), show (s + (m : Int) - s).toNat = m by omega]
      exact v5
theorem l_st_0 (hd : 11 ≤ d) (T : TP2 σ t n) (h1 : σ 189 17 = n) : ∀ (k : Nat) (x : Int) (τ : jH), x + k = n → 0 ≤ x → FTR2 σ τ → τ 189 18 = x →
    Ev (l, (fun _ => 0), 0) d 0 0 m_Model_step (RW fun _ υ => ADR2 σ υ t n (fsi (wsB t) k x)) 0 [some (vR 189), none] [] gW τ 0 0 := by
  have body : ∀ (x : Int) (τ : jH), 0 ≤ x → x ≤ n → FTR2 σ τ → τ 189 18 = x → (x < n → ¬ (t x = 32 ∨ t x = 10)) → Ev (l, (fun _ => 0), 0) d 0 0 m_Model_step (RW fun _ υ => ADR2 σ υ t n x) 0 [some (vR 189), none] [] gW τ 0 0 := fun x τ x0 x1 F h3 nw => by
    have g1 : τ 189 17 = n := by rw [F.2 17 (by omega) (by omega) (by omega) (by omega)]; exact h1
    have T1 := T.1
    refine jwp_sound t_Model_step _ (b_Model_step_0 ?_)
    simp only [RW, true_and, and_true, and_self, true_or, or_true, Nat.reduceLeDiff, Nat.reduceEqDiff, Nat.reduceAdd, Int.reduceLE, Int.reduceLT, Int.reduceEq, Int.reduceNeg, Int.reduceNe, Nat.reduceSub, reduceIte, implies_true, gt_189]
    rw [h3]
    refine cN_p (c_see (T.of F) g1 x0) (by omega) ?_
    have n32 : seeV t n x ≠ 32 := by
      unfold seeV
      split
      · obtain ⟨b1, b2, b3⟩ := T.2 x x0 (by assumption)
        have := nw (by assumption)
        omega
      · omega
    have n10 : seeV t n x ≠ 10 := by
      unfold seeV
      split
      · obtain ⟨b1, b2, b3⟩ := T.2 x x0 (by assumption)
        have := nw (by assumption)
        omega
      · omega
    refine ⟨fun y => absurd y n32, fun _ => ?_⟩
    rw [h3]
    refine cN_p (c_see (T.of F) g1 x0) (by omega) ?_
    refine ⟨fun _ => ?_, fun y => absurd y n10⟩
    rw [ju_ne2 (show (18 : Int) ≠ 19 by omega), h3]
    generalize hχ : ju τ 189 19 x = χ
    have x2 : χ 189 19 = x := by rw [← hχ, ju_self]
    have x3 : χ 189 18 = x := by rw [← hχ, ju_ne2 (by omega)]; exact h3
    have xr : ∀ c, c ≠ 189 → χ c = σ c := fun c hc => by rw [← hχ, ju_row hc, F.1 c hc]
    have Fχ : FTR2 σ χ := ⟨xr, fun j a b c e => by rw [← hχ, ju_ne2 b, F.2 j a b c e]⟩
    have c1 : χ 189 17 = n := by rw [Fχ.2 17 (by omega) (by omega) (by omega) (by omega)]; exact h1
    refine cN_p (c_see (T.of Fχ) c1 x0) (by omega) ?_
    by_cases q : x < n
    · obtain ⟨b1, b2, b3⟩ := T.2 x x0 q
      have e : seeV t n x = t x % 256 := if_pos q
      rw [e]
      refine ⟨fun _ => ?_, fun y => absurd y (by omega)⟩
      refine cN_p (c_Model_isLetter _ _) (by omega) ?_
      by_cases g : isL (t x)
      · have hE : tE t n x = fsi (nlB t) (n - x).toNat x := by
          unfold tE
          rw [if_neg (by omega), if_pos g]
        have hK : tKs t n x = 1 := by
          unfold tKs
          rw [if_neg (by omega), if_pos g]
        rw [if_pos (show isL (t x % 256) by omega)]
        refine ⟨fun y => absurd y (by omega), fun _ => ?_⟩
        have go := l_st_76 (l := l) (s := x) hd T h1 (n - x).toNat x χ (by omega) x0 Fχ ⟨x3, x2⟩
        refine Ev_post go (fun _ υ h => ?_)
        obtain ⟨h1, h2, h3, h4⟩ := h
        unfold ADR2
        rw [hE, hK]
        exact ⟨h1, h3, h2, h4, fun y => absurd y (by omega), fun y => absurd y (by omega)⟩
      · rw [if_neg (show ¬ isL (t x % 256) by omega)]
        refine ⟨fun _ => ?_, fun y => absurd rfl y⟩
        refine cN_p (c_Model_in _ _ _ _) (by omega) ?_
        by_cases g2 : isD (t x)
        · have hE : tE t n x = fsi (ndB t) (n - x).toNat x := by
            unfold tE
            rw [if_neg (by omega), if_neg g, if_pos g2]
          have hK : tKs t n x = 2 := by
            unfold tKs
            rw [if_neg (by omega), if_neg g, if_pos g2]
          rw [if_pos (show 48 ≤ t x % 256 ∧ t x % 256 ≤ 57 by omega)]
          refine ⟨fun y => absurd y (by omega), fun _ => ?_⟩
          have go := l_st_130 (l := l) (s := x) hd T h1 x0 (n - x).toNat 0 (ju χ 189 21 0) (by omega) ⟨fun c hc => by rw [ju_row hc, xr c hc], fun j a b c e => by rw [ju_ne2 e, Fχ.2 j a b c e]⟩ (fun j a b => by omega) ⟨by rw [ju_ne2 (by omega), x3]; omega, by rw [ju_ne2 (by omega)]; exact x2, by rw [ju_self]; rfl⟩
          rw [Int.natCast_zero, Int.add_zero] at go
          refine Ev_post go (fun _ υ h => ?_)
          obtain ⟨h1, h2, h3, h4, h5⟩ := h
          unfold ADR2
          rw [hE, hK]
          exact ⟨h1, h3, h2, h4, fun y => absurd y (by omega), fun _ => h5⟩
        · have hE : tE t n x = x + 1 := by
            unfold tE
            rw [if_neg (by omega), if_neg g, if_neg g2]
          have hK : tKs t n x = if isSg (t x) then t x else 3 := by
            unfold tKs
            rw [if_neg (by omega), if_neg g, if_neg g2]
          rw [if_neg (show ¬ (48 ≤ t x % 256 ∧ t x % 256 ≤ 57) by omega)]
          refine ⟨fun _ => ?_, fun y => absurd rfl y⟩
          have fin : ∀ v, v = tokc (if isSg (t x) then t x else 3) → ADR2 σ (ju (ju (ju χ 189 21 (t x % 256)) 189 20 v) 189 18 (w32 (ju (ju χ 189 21 (t x % 256)) 189 20 v 189 18 + 1))) t n x := fun v hv => by
            rw [ju_ne2 (show (18 : Int) ≠ 20 by omega), ju_ne2 (show (18 : Int) ≠ 21 by omega), x3, w32_of (by omega) (by omega)]
            unfold ADR2
            rw [hE, hK]
            refine ⟨⟨fun c hc => by rw [ju_row hc, ju_row hc, ju_row hc, xr c hc], fun j a b c e => by rw [ju_ne2 a, ju_ne2 c, ju_ne2 e, Fχ.2 j a b c e]⟩, by rw [ju_ne2 (by omega), ju_ne2 (by omega), ju_ne2 (by omega)]; exact x2, ju_self, by rw [ju_ne2 (by omega), ju_self, hv], fun y => ?_, fun y => ?_⟩
            · rw [ju_ne2 (by omega), ju_ne2 (by omega), ju_self]
              split
              · omega
              · rename_i h
                rw [if_neg h] at y
                omega
            · exfalso
              split at y <;> omega
          refine ⟨fun a => fin 3 ?_, fun a => ⟨fun a2 => fin 3 ?_, fun a2 => ⟨fun a3 => fin 3 ?_, fun a3 => ⟨fun a4 => fin 4 ?_, fun a4 => fin 3 ?_⟩⟩⟩⟩
          · rw [if_pos (Or.inl (show t x = 59 by omega))]
            unfold tokc
            rw [if_pos (by omega)]
          · rw [if_pos (Or.inr (Or.inl (show t x = 40 by omega)))]
            unfold tokc
            rw [if_pos (by omega)]
          · rw [if_pos (Or.inr (Or.inr (Or.inl (show t x = 41 by omega))))]
            unfold tokc
            rw [if_pos (by omega)]
          · rw [if_neg (by omega)]
            rfl
          · rw [if_pos (Or.inr (Or.inr (Or.inr (show t x = 34 by omega))))]
            unfold tokc
            rw [if_pos (by omega)]
    · have e : seeV t n x = -1 := if_neg q
      have hE : tE t n x = x := by
        unfold tE
        rw [if_pos (by omega)]
      have hK : tKs t n x = 0 := by
        unfold tKs
        rw [if_pos (by omega)]
      rw [e]
      refine ⟨fun y => absurd rfl y, fun _ => ?_⟩
      unfold ADR2
      rw [hE, hK]
      exact ⟨⟨fun c hc => by rw [ju_row hc, xr c hc], fun j a b c e => by rw [ju_ne2 c, Fχ.2 j a b c e]⟩, by rw [ju_ne2 (by omega)]; exact x2, by rw [ju_ne2 (by omega)]; exact x3, ju_self, fun y => absurd y (by omega), fun y => absurd y (by omega)⟩
  intro k
  induction k with
  | zero =>
    intro x τ hk x0 F h3
    exact body x τ x0 (by omega) F h3 (fun y => absurd y (by omega))
  | succ k ih =>
    intro x τ hk x0 F h3
    have g1 : τ 189 17 = n := by rw [F.2 17 (by omega) (by omega) (by omega) (by omega)]; exact h1
    have T1 := T.1
    obtain ⟨b1, b2, b3⟩ := T.2 x x0 (by omega)
    have e : seeV t n x = t x % 256 := if_pos (by omega)
    by_cases w : t x = 32 ∨ t x = 10
    · have IH := ih (x + 1) (ju τ 189 18 (x + 1)) (by omega) (by omega) ⟨fun c hc => by rw [ju_row hc, F.1 c hc], fun j a b c e => by rw [ju_ne2 a, F.2 j a b c e]⟩ ju_self
      rw [fsi_st (decide_eq_false (fun y => y w))]
      refine jwp_sound t_Model_step _ (b_Model_step_0 ?_)
      simp only [RW, true_and, and_true, and_self, true_or, or_true, Nat.reduceLeDiff, Nat.reduceEqDiff, Nat.reduceAdd, Int.reduceLE, Int.reduceLT, Int.reduceEq, Int.reduceNeg, Int.reduceNe, Nat.reduceSub, reduceIte, implies_true, gt_189]
      rw [h3]
      refine cN_p (c_see (T.of F) g1 x0) (by omega) ?_
      rw [h3, w32_of (x := x + 1) (by omega) (by omega), e]
      refine ⟨fun _ => IH, fun y => ?_⟩
      refine cN_p (c_see (T.of F) g1 x0) (by omega) ?_
      rw [e, h3, w32_of (x := x + 1) (by omega) (by omega)]
      exact ⟨fun z => absurd z (by omega), fun _ => IH⟩
    · rw [fsi_hit (decide_eq_true w)]
      exact body x τ x0 (by omega) F h3 (fun _ => w)
theorem c_step0 (T : TP2 σ t n) (h1 : σ 189 17 = n) (h3 : σ 189 18 = p) (hp : 0 ≤ p ∧ p ≤ n) : Cw 11 m_Model_step [vR 189] σ (fun _ υ => FTR2 σ υ ∧ TKR υ t n p) := by
  refine Cw_of o_Model_step rfl fun l d hd => ?_
  have go := l_st_0 (l := l) hd T h1 (n - p).toNat p σ (by omega) hp.1 FTR2.rf h3
  refine Ev_post go (fun _ υ h => ?_)
  obtain ⟨g1, g2, g3, g4, g5, g6⟩ := h
  exact ⟨g1, ⟨by rw [g1.2 17 (by omega) (by omega) (by omega) (by omega)]; exact h1, g2, g3, g4⟩, g5, g6⟩
theorem c_step (T : TP2 σ t n) (K : TKR σ t n p) (hp : 0 ≤ p ∧ p ≤ n) : Cw 11 m_Model_step [vR 189] σ (fun _ υ => FTR2 σ υ ∧ TKR υ t n (tN t n p)) := by
  have r := tS_r (t := t) hp.2
  have r2 := tN_r (t := t) hp.2
  exact c_step0 T K.1.1 K.1.2.2.1 ⟨by omega, by omega⟩
end T4
