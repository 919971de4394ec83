/-! A slip is written: the reference -/
section SQ
variable {l : Launch} {d : Nat} {ω t : Int → Int} {n h p : Int}
theorem l_msl_48 {P : Int → jH → Prop} {σ : jH} (hd : 15 ≤ d) (T : ∀ j, 0 ≤ j → j < n → σ 202 j = t j) (hn : 0 ≤ n ∧ n ≤ 400) (N : Ev (l, (fun _ => 0), 0) d 0 0 m_Model_slip (RW P) 77 [some (vR 189), some (vI h), some (vI p), some (vI n), some (vI (if okwd t n then 1 else 0)), none, none] [] gW σ 0 0) : ∀ (k i : Nat), (i : Int) + k = n → (h1 : 1 ≤ n ∧ n ≤ 20) → alB t i = true →
    Ev (l, (fun _ => 0), 0) d 0 0 m_Model_slip (RW P) 48 [some (vR 189), some (vI h), some (vI p), some (vI n), some (vI 1), some (vI i), none] [] gW σ 0 0
  | 0, i, hk, h1, A => by
    rw [if_pos ⟨h1, by rw [show n.toNat = i by omega]; exact A⟩] at N
    refine jwp_sound t_Model_slip _ (b_Model_slip_48 ?_)
    exact ⟨fun _ => N, fun x => absurd x (by omega)⟩
  | k + 1, i, hk, h1, A => by
    refine jwp_sound t_Model_slip _ (b_Model_slip_48 ?_)
    simp only [RW, true_and, and_true, and_self, true_or, or_true, Nat.reduceLeDiff, Nat.reduceEqDiff, Nat.reduceAdd, Int.reduceLE, Int.reduceLT, Int.reduceEq, Int.reduceNeg, Int.reduceNe, Nat.reduceSub, reduceIte, implies_true, gt_189, gr_189_1, gt_190, gr_189_14, gt_202]
    rw [T i (by omega) (by omega), w32_of (x := (i : Int) + 1) (by omega) (by omega)]
    refine ⟨fun q => absurd q (by omega), fun _ => ⟨fun x => x.elim, fun _ => ⟨by omega, by omega, ?_⟩⟩⟩
    refine cN_p (c_Model_isLetter _ _) (by omega) ?_
    have IH := l_msl_48 hd T hn N k (i + 1) (by omega) h1
    rw [show ((i + 1 : Nat) : Int) = (i : Int) + 1 by omega] at IH
    by_cases g : isL (t i)
    · rw [if_pos g]
      refine IH ?_
      show (alB t i && decide (isL (t i))) = true
      rw [A, decide_eq_true g]
      rfl
    · rw [if_neg (fun x => g (alB_iff.mp x.2 i (by omega) (by omega)))] at N
      rw [if_neg g]
      refine jwp_sound t_Model_slip _ (b_Model_slip_48 ?_)
      simp only [RW, true_and, and_true, and_self, true_or, or_true, Nat.reduceLeDiff, Nat.reduceEqDiff, Nat.reduceAdd, Int.reduceLE, Int.reduceLT, Int.reduceEq, Int.reduceNeg, Int.reduceNe, Nat.reduceSub, reduceIte, implies_true]
      exact ⟨fun _ => N, fun _ => ⟨fun _ => N, fun x => x.elim⟩⟩
def SLQ (σ τ : jH) (ω : Int → Int) (h p n : Int) (t : Int → Int) (z : Int) : Prop := (¬ ((0 ≤ h ∧ h ≤ 3) ∧ 0 ≤ p ∧ p < (wW ω 0).1) ∧ z = -2 ∧ τ = σ) ∨ (((0 ≤ h ∧ h ≤ 3) ∧ 0 ≤ p ∧ p < (wW ω 0).1) ∧ ¬ okwd t n ∧ z = -4 ∧ τ = ju σ 189 15 0) ∨ (((0 ≤ h ∧ h ≤ 3) ∧ 0 ≤ p ∧ p < (wW ω 0).1) ∧ okwd t n ∧ z = (if rgtS (slw ω (sAd h p) n t) h p then 1 else 0) ∧ RFR τ (slw ω (sAd h p) n t) ∧ (∀ c, c ≠ 189 → c ≠ 190 → c ≠ 201 → τ c = σ c) ∧ τ 189 15 = 0 ∧ ∀ j, j ≠ 15 → τ 189 j = σ 189 j)
theorem l_msl_103 {σ : jH} (hd : 15 ≤ d) (R : RFR σ ω) (hal : ALP σ) (S : SPO ω) (T : ∀ j, 0 ≤ j → j < n → σ 202 j = t j) (K : okwd t n) (hh : 0 ≤ h ∧ h ≤ 3) (hp : 0 ≤ p ∧ p < 300) : ∀ (m k : Nat) (τ : jH), (k : Int) + m = n → (∀ c, c ≠ 190 → τ c = σ c) → (∀ j, τ 190 j = if j = sAd h p then n else if sAd h p < j ∧ j ≤ sAd h p + k then t (j - sAd h p - 1) - 97 else ω j) →
    Ev (l, (fun _ => 0), 0) d 0 0 m_Model_slip (RW fun z τ => z = (if rgtS (slw ω (sAd h p) n t) h p then 1 else 0) ∧ RFR τ (slw ω (sAd h p) n t) ∧ ∀ c, c ≠ 190 → c ≠ 201 → τ c = σ c) 103 [some (vR 189), some (vI h), some (vI p), some (vI n), none, some (vI (sAd h p)), some (vI k)] [] gW τ 0 0
  | 0, k, τ, hk, F, V => by
    have A := sAd_lo hh hp
    have LW : LOW ω (slw ω (sAd h p) n t) := slw_low A.1
    have SM := SAM.of R.1 LW
    have e : τ 190 = slw ω (sAd h p) n t := by
      funext j
      rw [V]
      unfold slw
      rw [show (k : Int) = n by omega]
    have R' : RFR τ (slw ω (sAd h p) n t) := ⟨SM.okw R.1, SM.rdr R.2 e (fun c a b => F c (by omega)) (by rw [F 189 (by omega)])⟩
    refine jwp_sound t_Model_slip _ (b_Model_slip_103 ?_)
    simp only [RW, true_and, and_true, and_self, true_or, or_true, Nat.reduceLeDiff, Nat.reduceEqDiff, Nat.reduceAdd, Int.reduceLE, Int.reduceLT, Int.reduceEq, Int.reduceNeg, Int.reduceNe, Nat.reduceSub, reduceIte, implies_true, gt_189, gr_189_1, gt_190, gr_189_14, gt_202]
    refine ⟨fun _ => ?_, fun x => absurd x (by omega)⟩
    refine cN_w (c_Model_isRight R' (fun x a b => by rw [F 200 (by omega)]; exact hal x a b) (slw_spo K hh hp S) hh hp) (by omega) (fun z υ hz => ?_)
    obtain ⟨rfl, F2⟩ := hz
    have R2 := R'.of (fun c h => F2 c (by omega))
    by_cases g : rgtS (slw ω (sAd h p) n t) h p
    · rw [if_pos g]
      exact ⟨fun x => absurd x (by omega), fun _ => ⟨rfl, R2, fun c a b => by rw [F2 c b, F c a]⟩⟩
    · rw [if_neg g]
      exact ⟨fun _ => ⟨rfl, R2, fun c a b => by rw [F2 c b, F c a]⟩, fun x => absurd rfl x⟩
  | m + 1, k, τ, hk, F, V => by
    have A := sAd_lo hh hp
    have K1 := K.1
    have g := alB_iff.mp K.2 k (by omega) (by omega)
    refine jwp_sound t_Model_slip _ (b_Model_slip_103 ?_)
    simp only [RW, true_and, and_true, and_self, true_or, or_true, Nat.reduceLeDiff, Nat.reduceEqDiff, Nat.reduceAdd, Int.reduceLE, Int.reduceLT, Int.reduceEq, Int.reduceNeg, Int.reduceNe, Nat.reduceSub, reduceIte, implies_true, gt_189, gr_189_1, gt_190, gr_189_14, gt_202]
    rw [F 202 (by omega), T k (by omega) (by omega), w32_of (x := sAd h p + 1) (by omega) (by omega), w32_of (x := sAd h p + 1 + (k : Int)) (by omega) (by omega), w32_of (x := (k : Int) + 1) (by omega) (by omega), w32_of (x := t k - 97) (by omega) (by omega)]
    refine ⟨fun x => absurd x (by omega), fun _ => ⟨by omega, by omega, by omega, by omega, ?_⟩⟩
    have IH := l_msl_103 hd R hal S T K hh hp m (k + 1) (ju τ 190 (sAd h p + 1 + k) (t k - 97)) (by omega) (fun c hc => by rw [ju_row hc, F c hc]) (fun j => ?_)
    · rw [show ((k + 1 : Nat) : Int) = (k : Int) + 1 by omega] at IH
      exact IH
    · by_cases x : j = sAd h p + 1 + k
      · rw [x, ju_self, if_neg (by omega), if_pos (by omega), show sAd h p + 1 + (k : Int) - sAd h p - 1 = k by omega]
      · rw [ju_ne2 x, V j]
        by_cases y : j = sAd h p
        · rw [if_pos y, if_pos y]
        · rw [if_neg y, if_neg y]
          by_cases z : sAd h p < j ∧ j ≤ sAd h p + k
          · rw [if_pos z, if_pos (by omega)]
          · rw [if_neg z, if_neg (by omega)]
theorem c_Model_slip {σ : jH} (R : RFR σ ω) (hal : ALP σ) (S : SPO ω) (T : TPR σ n t) (h p : Int) : Cw 15 m_Model_slip [vR 189, vI h, vI p] σ (fun z τ => SLQ σ τ ω h p n t z) := by
  have w := R.W (e := 0) (by omega)
  obtain ⟨T1, T2, T3⟩ := T
  refine Cw_of o_Model_slip rfl fun l d hd => jwp_sound t_Model_slip _ (b_Model_slip_0 ?_)
  simp only [RW, true_and, and_true, and_self, true_or, or_true, Nat.reduceLeDiff, Nat.reduceEqDiff, Nat.reduceAdd, Int.reduceLE, Int.reduceLT, Int.reduceEq, Int.reduceNeg, Int.reduceNe, Nat.reduceSub, reduceIte, implies_true, gt_189, gr_189_1, gt_190, gr_189_14, gt_202]
  refine cN_p (c_Model_in _ _ _ _) (by omega) ?_
  by_cases hh : 0 ≤ h ∧ h ≤ 3
  · rw [if_pos hh]
    refine ⟨fun x => absurd x (by omega), fun _ => ?_⟩
    refine cN_p (c_Model_isWord R _ _) (by omega) ?_
    by_cases hp : 0 ≤ p ∧ p < (wW ω 0).1
    · rw [if_pos ⟨by omega, hp⟩]
      refine ⟨fun _ => ?_, fun x => absurd x (by omega)⟩
      rw [T1]
      refine cN_p (c_Model_in _ _ _ _) (by omega) ?_
      have hp3 : 0 ≤ p ∧ p < 300 := ⟨hp.1, by omega⟩
      have R1 : RFR (ju σ 189 15 0) ω := R.of2 (fun c a b => ju_row (by omega)) (ju_ne2 (by omega))
      have hal1 : ALP (ju σ 189 15 0) := fun x a b => by rw [ju_row (by omega)]; exact hal x a b
      have T4 : ∀ j, 0 ≤ j → j < n → ju σ 189 15 0 202 j = t j := fun j a b => by rw [ju_row (by omega)]; exact T3 j a b
      have A := sAd_lo hh hp3
      have N : Ev (l, (fun _ => 0), 0) d 0 0 m_Model_slip (RW fun z τ => SLQ σ τ ω h p n t z) 77 [some (vR 189), some (vI h), some (vI p), some (vI n), some (vI (if okwd t n then 1 else 0)), none, none] [] gW (ju σ 189 15 0) 0 0 := by
        refine jwp_sound t_Model_slip _ (b_Model_slip_77 ?_)
        simp only [RW, true_and, and_true, and_self, true_or, or_true, Nat.reduceLeDiff, Nat.reduceEqDiff, Nat.reduceAdd, Int.reduceLE, Int.reduceLT, Int.reduceEq, Int.reduceNeg, Int.reduceNe, Nat.reduceSub, reduceIte, implies_true, gt_189, gr_189_1, gt_190, gr_189_14, gt_202]
        by_cases K : okwd t n
        · rw [if_pos K]
          refine ⟨fun _ => ?_, fun x => absurd x (by omega)⟩
          refine cN_p (c_Model_slipAt _ hh hp3) (by omega) ?_
          refine ⟨by omega, by omega, ?_⟩
          have go := l_msl_103 (l := l) hd R1 hal1 S T4 K hh hp3 n.toNat 0 (ju (ju σ 189 15 0) 190 (sAd h p) n) (by omega) (fun c hc => ju_row hc) (fun j => by
            by_cases y : j = sAd h p
            · rw [if_pos y, y, ju_self]
            · rw [if_neg y, if_neg (by omega), ju_ne2 y, ju_row (by omega), R.2.2.2.1])
          refine Ev_post go (fun z υ hz => ?_)
          obtain ⟨h1, h2, h3⟩ := hz
          exact Or.inr (Or.inr ⟨⟨hh, hp⟩, K, h1, h2, fun c a b b2 => by rw [h3 c b b2, ju_row a], by rw [h3 189 (by omega) (by omega), ju_self], fun j hj => by rw [h3 189 (by omega) (by omega), ju_ne2 hj]⟩)
        · rw [if_neg K]
          exact ⟨fun x => absurd rfl x, fun _ => Or.inr (Or.inl ⟨⟨hh, hp⟩, K, rfl, rfl⟩)⟩
      by_cases h1 : 1 ≤ n ∧ n ≤ 20
      · rw [if_pos h1]
        exact l_msl_48 hd T4 T2 N n.toNat 0 (by omega) h1 rfl
      · rw [if_neg h1]
        rw [if_neg (fun x => h1 x.1)] at N
        refine jwp_sound t_Model_slip _ (b_Model_slip_48 ?_)
        simp only [RW, true_and, and_true, and_self, true_or, or_true, Nat.reduceLeDiff, Nat.reduceEqDiff, Nat.reduceAdd, Int.reduceLE, Int.reduceLT, Int.reduceEq, Int.reduceNeg, Int.reduceNe, Nat.reduceSub, reduceIte, implies_true]
        exact ⟨fun _ => N, fun _ => ⟨fun _ => N, fun x => x.elim⟩⟩
    · rw [if_neg (fun x => hp x.2)]
      exact ⟨fun x => absurd rfl x, fun _ => Or.inl ⟨fun x => hp x.2, rfl, rfl⟩⟩
  · rw [if_neg hh]
    exact ⟨fun _ => Or.inl ⟨fun x => hh x.1, rfl, rfl⟩, fun x => absurd rfl x⟩
end SQ
