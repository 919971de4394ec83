/-! Ranks: the reference's rank and ranked -/
def RKR (σ : jH) (N : Int) (f g : Int → Int) : Prop := σ 189 41 = N ∧ (0 ≤ N ∧ N ≤ 40) ∧ ∀ i, 0 ≤ i → i < N → σ 224 i = f i ∧ σ 225 i = g i
def RNR (σ τ : jH) (ω : Int → Int) (e n : Int) (t : Int → Int) (z : Int) : Prop := ((0 ≤ e ∧ e ≤ 1) ∧ z = (rkW ω e n t).1 ∧ RKR τ z (rkW ω e n t).2.1 (rkW ω e n t).2.2 ∧ (∀ c, c ≠ 189 → c ≠ 218 → c ≠ 220 → c ≠ 223 → c ≠ 224 → c ≠ 225 → τ c = σ c) ∧ τ 189 15 = 0 ∧ ∀ j, j ≠ 15 → j ≠ 41 → τ 189 j = σ 189 j) ∨ (¬ (0 ≤ e ∧ e ≤ 1) ∧ z = -2 ∧ τ = σ)
section RV1
variable {l : Launch} {d : Nat} {ω t : Int → Int} {σ : jH} {e n : Int}
theorem l_bi_3 {f i : Int} (hd : 10 ≤ d) (R : RFR σ ω) (he : 0 ≤ e ∧ e ≤ 1) : ∀ (k p : Nat), (p : Int) + k = (wW ω e).1 → bgn (dw ω e) (wW ω e).2.2.1 f i p = false →
    Ev (l, (fun _ => 0), 0) d 0 0 m_Model_beginsIn (RW fun z τ => z = b2i (bgW ω e f i) ∧ τ = σ) 3 [some (vR 189), some (vI e), some (vI f), some (vI i), some (vI p)] [] gW σ 0 0
  | 0, p, hk, hb => by
    have w := R.W he
    refine jwp_sound t_Model_beginsIn _ (b_Model_beginsIn_3 ?_)
    simp only [RW, true_and, and_true, and_self, true_or, or_true, Nat.reduceLeDiff, Nat.reduceEqDiff, Nat.reduceAdd, Int.reduceLE, Int.reduceLT, Int.reduceEq, Int.reduceNeg, Int.reduceNe, Nat.reduceSub, reduceIte, implies_true, gt_189, gr_189_4, gt_193, gr_189_5, gt_194, gr_189_6, gt_195]
    rw [w.1]
    refine ⟨by omega, by omega, fun _ => ?_, fun q => absurd q (by omega)⟩
    unfold bgW
    rw [show (wW ω e).1.toNat = p by omega, hb]
    rfl
  | k + 1, p, hk, hb => by
    have w := R.W he
    have IH := l_bi_3 (f := f) (i := i) hd R he k (p + 1) (by omega)
    have hw := R.2.2.2.2.2.2.1 e p he.1 he.2 (by omega) (by omega)
    have wl := ((R.2.2.2.2.2.1 e he.1 he.2).2 p (by omega) (by omega)).1
    rw [show ((p + 1 : Nat) : Int) = (p : Int) + 1 by omega] at IH
    have bs : bgn (dw ω e) (wW ω e).2.2.1 f i (p + 1) = (bgn (dw ω e) (wW ω e).2.2.1 f i p || (decide (dw ω e p = f) && decide ((wW ω e).2.2.1 p = i))) := rfl
    rw [hb, Bool.false_or] at bs
    rw [bs] at IH
    refine jwp_sound t_Model_beginsIn _ (b_Model_beginsIn_3 ?_)
    simp only [RW, true_and, and_true, and_self, true_or, or_true, Nat.reduceLeDiff, Nat.reduceEqDiff, Nat.reduceAdd, Int.reduceLE, Int.reduceLT, Int.reduceEq, Int.reduceNeg, Int.reduceNe, Nat.reduceSub, reduceIte, implies_true, gt_189, gr_189_4, gt_193, gr_189_5, gt_194, gr_189_6, gt_195]
    rw [w.1, w32_of (x := 340 * e) (by omega) (by omega), w32_of (x := 340 * e + (p : Int)) (by omega) (by omega), hw, wl, w32_of (x := (p : Int) + 1) (by omega) (by omega)]
    refine ⟨by omega, by omega, fun q => absurd q (by omega), fun _ => ⟨by omega, by omega, fun q => ?_, fun q => ⟨by omega, by omega, fun q2 => ?_, fun q2 => ?_⟩⟩⟩
    · rw [decide_eq_false q, Bool.false_and] at IH
      exact IH rfl
    · rw [decide_eq_false q2, Bool.and_false] at IH
      exact IH rfl
    · have : bgW ω e f i = true := bgn_iff.mpr ⟨p, by omega, by omega, q, q2⟩
      rw [this]
      rfl
theorem c_Model_beginsIn (R : RFR σ ω) (he : 0 ≤ e ∧ e ≤ 1) (f i : Int) : Cw 10 m_Model_beginsIn [vR 189, vI e, vI f, vI i] σ (fun z τ => z = b2i (bgW ω e f i) ∧ τ = σ) := by
  have w := R.W he
  refine Cw_of o_Model_beginsIn rfl fun l d hd => jwp_sound t_Model_beginsIn _ (b_Model_beginsIn_0 ?_)
  exact l_bi_3 hd R he (wW ω e).1.toNat 0 (by omega) rfl
/-- what the reference has in its lines -/
def ILA (σ τ : jH) : Prop := ∀ c, c ≠ 220 → τ c = σ c
theorem l_mr_21 {P : Int → jH → Prop} (hd : 13 ≤ d) (W : OKW ω) (h190 : σ 190 = ω) (he : 0 ≤ e ∧ e ≤ 1) (N : ∀ τ : jH, ILA σ τ → (∀ j, 0 ≤ j → j < ω (3 + e) → τ 220 j = 0) → Ev (l, (fun _ => 0), 0) d 0 0 m_Model_rank (RW P) 45 [some (vR 189), some (vI e), some (vI 0), none, none] [] gW τ 0 0) : ∀ (k i : Nat) (τ : jH), (i : Int) + k = ω (3 + e) → ILA σ τ → (∀ j, 0 ≤ j → j < (i : Int) → τ 220 j = 0) →
    Ev (l, (fun _ => 0), 0) d 0 0 m_Model_rank (RW P) 21 [some (vR 189), some (vI e), some (vI i), none, none] [] gW τ 0 0
  | 0, i, τ, hk, F, V => by
    refine jwp_sound t_Model_rank _ (b_Model_rank_21 ?_)
    simp only [RW, true_and, and_true, and_self, true_or, or_true, Nat.reduceLeDiff, Nat.reduceEqDiff, Nat.reduceAdd, Int.reduceLE, Int.reduceLT, Int.reduceEq, Int.reduceNeg, Int.reduceNe, Nat.reduceSub, reduceIte, implies_true, gt_189, gr_189_34, gt_220, gr_189_38, gt_223, gr_189_39, gt_224, gr_189_40, gt_225]
    refine cN_p (c_Model_linesOf _ he.1 he.2) (by omega) ?_
    rw [F 190 (by omega), h190]
    exact ⟨fun _ => N τ F (fun j a b => V j a (by omega)), fun q => absurd q (by omega)⟩
  | k + 1, i, τ, hk, F, V => by
    have l40 := ((W.L he).1).2.1
    have IH := l_mr_21 hd W h190 he N k (i + 1) (ju τ 220 i 0) (by omega) (fun c a => by rw [ju_row a, F c a]) (fun j a b => by
      by_cases q : j = i
      · rw [q, ju_self]
      · rw [ju_ne2 q]
        exact V j a (by omega))
    rw [show ((i + 1 : Nat) : Int) = (i : Int) + 1 by omega] at IH
    refine jwp_sound t_Model_rank _ (b_Model_rank_21 ?_)
    simp only [RW, true_and, and_true, and_self, true_or, or_true, Nat.reduceLeDiff, Nat.reduceEqDiff, Nat.reduceAdd, Int.reduceLE, Int.reduceLT, Int.reduceEq, Int.reduceNeg, Int.reduceNe, Nat.reduceSub, reduceIte, implies_true, gt_189, gr_189_34, gt_220, gr_189_38, gt_223, gr_189_39, gt_224, gr_189_40, gt_225]
    refine cN_p (c_Model_linesOf _ he.1 he.2) (by omega) ?_
    rw [F 190 (by omega), h190, w32_of (x := (i : Int) + 1) (by omega) (by omega)]
    exact ⟨fun q => absurd q (by omega), fun _ => ⟨by omega, by omega, IH⟩⟩
noncomputable def wtp (ω : Int → Int) (e : Int) (A : Int → Bool) (i : Int) (n : Nat) : Int := sq (fun f => if A f = true then ctb ω e f i else 0) n
theorem wtp_s (ω : Int → Int) (e : Int) (A : Int → Bool) (i : Int) (n : Nat) : wtp ω e A i (n + 1) = wtp ω e A i n + if A n = true then ctb ω e n i else 0 := rfl
theorem l_mr_70 {P : Int → jH → Prop} {f : Int} (hd : 13 ≤ d) (R : RFR σ ω) (he : 0 ≤ e ∧ e ≤ 1) (N : Ev (l, (fun _ => 0), 0) d 0 0 m_Model_rank (RW P) 108 [some (vR 189), some (vI e), some (vI f), some (vI (lnn ω e f)), some (vI 0)] [] gW σ 0 0) : ∀ (k i : Nat), (i : Int) + k = ω (3 + e) →
    Ev (l, (fun _ => 0), 0) d 0 0 m_Model_rank (RW P) 70 [some (vR 189), some (vI e), some (vI f), some (vI (sq (fun i => if bgW ω e f i = true then 1 else 0) i)), some (vI i)] [] gW σ 0 0
  | 0, i, hk => by
    have h190 : σ 190 = ω := R.2.2.2.1
    refine jwp_sound t_Model_rank _ (b_Model_rank_70 ?_)
    simp only [RW, true_and, and_true, and_self, true_or, or_true, Nat.reduceLeDiff, Nat.reduceEqDiff, Nat.reduceAdd, Int.reduceLE, Int.reduceLT, Int.reduceEq, Int.reduceNeg, Int.reduceNe, Nat.reduceSub, reduceIte, implies_true, gt_189, gr_189_34, gt_220, gr_189_38, gt_223, gr_189_39, gt_224, gr_189_40, gt_225]
    refine cN_p (c_Model_linesOf _ he.1 he.2) (by omega) ?_
    rw [h190]
    refine ⟨fun _ => ?_, fun q => absurd q (by omega)⟩
    unfold lnn at N
    rw [show (ω (3 + e)).toNat = i by omega] at N
    exact N
  | k + 1, i, hk => by
    have h190 : σ 190 = ω := R.2.2.2.1
    have l40 := ((R.1.L he).1).2.1
    have r := sq_le (g := fun i => if bgW ω e f i = true then 1 else 0) (fun k => by split <;> omega) i
    have IH := l_mr_70 (f := f) hd R he N k (i + 1) (by omega)
    rw [sq_s _ i, show ((i + 1 : Nat) : Int) = (i : Int) + 1 by omega] at IH
    refine jwp_sound t_Model_rank _ (b_Model_rank_70 ?_)
    simp only [RW, true_and, and_true, and_self, true_or, or_true, Nat.reduceLeDiff, Nat.reduceEqDiff, Nat.reduceAdd, Int.reduceLE, Int.reduceLT, Int.reduceEq, Int.reduceNeg, Int.reduceNe, Nat.reduceSub, reduceIte, implies_true, gt_189, gr_189_34, gt_220, gr_189_38, gt_223, gr_189_39, gt_224, gr_189_40, gt_225]
    refine cN_p (c_Model_linesOf _ he.1 he.2) (by omega) ?_
    rw [h190, w32_of (x := (i : Int) + 1) (by omega) (by omega), w32_of (x := _ + 0) (by omega) (by omega), w32_of (x := _ + 1) (by omega) (by omega)]
    refine ⟨fun q => absurd q (by omega), fun _ => ?_⟩
    refine cN_p (c_Model_beginsIn R he f i) (by omega) ?_
    cases hb : bgW ω e f i with
    | true =>
      have e1 : (if bgW ω e f i = true then (1 : Int) else 0) = 1 := if_pos hb
      rw [e1] at IH
      exact ⟨fun x => absurd x (by decide), fun _ => IH⟩
    | false =>
      have e1 : (if bgW ω e f i = true then (1 : Int) else 0) = 0 := if_neg (by rw [hb]; exact Bool.false_ne_true)
      rw [e1] at IH
      exact ⟨fun _ => IH, fun x => absurd rfl x⟩
theorem lnn_pos {f i : Int} (i0 : 0 ≤ i) (i1 : i < ω (3 + e)) (h : bgW ω e f i = true) : 1 ≤ lnn ω e f := by
  have m := sq_mono (g := fun i => if bgW ω e f i = true then 1 else 0) (fun k => by split <;> omega) (i.toNat + 1) ((ω (3 + e)).toNat - (i.toNat + 1))
  rw [show i.toNat + 1 + ((ω (3 + e)).toNat - (i.toNat + 1)) = (ω (3 + e)).toNat by omega, sq_s] at m
  have z := sq_0 (g := fun i => if bgW ω e f i = true then 1 else 0) (fun k => by split <;> omega) i.toNat
  have e1 : (if bgW ω e f ((i.toNat : Nat) : Int) = true then (1 : Int) else 0) = 1 := by
    rw [show ((i.toNat : Nat) : Int) = i by omega, if_pos h]
  rw [e1] at m
  unfold lnn
  omega
theorem l_mr_108 {P : Int → jH → Prop} {f : Nat} (hd : 13 ≤ d) (R : RFR σ ω) (he : 0 ≤ e ∧ e ≤ 1) {g : Int → Int} (hg : ∀ j, 0 ≤ j → j < ω (3 + e) → σ 220 j = g j ∧ 0 ≤ g j ∧ g j ≤ 1000000) (N : ∀ τ : jH, ILA σ τ → (∀ j, 0 ≤ j → j < ω (3 + e) → τ 220 j = g j + ctb ω e f j) → Ev (l, (fun _ => 0), 0) d 0 0 m_Model_rank (RW P) 45 [some (vR 189), some (vI e), some (vI ((f : Int) + 1)), none, none] [] gW τ 0 0) (hf : (f : Int) < 680) : ∀ (k i : Nat) (τ : jH), (i : Int) + k = ω (3 + e) → ILA σ τ → (∀ j, 0 ≤ j → j < ω (3 + e) → τ 220 j = if j < i then g j + ctb ω e f j else g j) →
    Ev (l, (fun _ => 0), 0) d 0 0 m_Model_rank (RW P) 108 [some (vR 189), some (vI e), some (vI f), some (vI (lnn ω e f)), some (vI i)] [] gW τ 0 0
  | 0, i, τ, hk, F, V => by
    have h190 : σ 190 = ω := R.2.2.2.1
    refine jwp_sound t_Model_rank _ (b_Model_rank_108 ?_)
    simp only [RW, true_and, and_true, and_self, true_or, or_true, Nat.reduceLeDiff, Nat.reduceEqDiff, Nat.reduceAdd, Int.reduceLE, Int.reduceLT, Int.reduceEq, Int.reduceNeg, Int.reduceNe, Nat.reduceSub, reduceIte, implies_true, gt_189, gr_189_34, gt_220, gr_189_38, gt_223, gr_189_39, gt_224, gr_189_40, gt_225]
    refine cN_p (c_Model_linesOf _ he.1 he.2) (by omega) ?_
    rw [F 190 (by omega), h190, w32_of (x := (f : Int) + 1) (by omega) (by omega)]
    exact ⟨fun _ => N τ F (fun j a b => by rw [V j a b, if_pos (by omega)]), fun q => absurd q (by omega)⟩
  | k + 1, i, τ, hk, F, V => by
    have h190 : σ 190 = ω := R.2.2.2.1
    have l40 := ((R.1.L he).1).2.1
    have ln := lnn_r ω e f
    have gi := hg i (by omega) (by omega)
    have Rτ := R.of (τ := τ) (fun c h => F c (by omega))
    have step : ∀ v, v = g i + ctb ω e f i → Ev (l, (fun _ => 0), 0) d 0 0 m_Model_rank (RW P) 108 [some (vR 189), some (vI e), some (vI f), some (vI (lnn ω e f)), some (vI ((i : Int) + 1))] [] gW (ju τ 220 i v) 0 0 := fun v hv => by
      have IH := l_mr_108 (f := f) hd R he hg N hf k (i + 1) (ju τ 220 i v) (by omega) (fun c a => by rw [ju_row a, F c a]) (fun j a b => by
        by_cases q : j = i
        · rw [q, ju_self, if_pos (by omega), hv]
        · rw [ju_ne2 q, V j a b]
          by_cases y : j < i
          · rw [if_pos y, if_pos (by omega)]
          · rw [if_neg y, if_neg (by omega)])
      rw [show ((i + 1 : Nat) : Int) = (i : Int) + 1 by omega] at IH
      exact IH
    refine jwp_sound t_Model_rank _ (b_Model_rank_108 ?_)
    simp only [RW, true_and, and_true, and_self, true_or, or_true, Nat.reduceLeDiff, Nat.reduceEqDiff, Nat.reduceAdd, Int.reduceLE, Int.reduceLT, Int.reduceEq, Int.reduceNeg, Int.reduceNe, Nat.reduceSub, reduceIte, implies_true, gt_189, gr_189_34, gt_220, gr_189_38, gt_223, gr_189_39, gt_224, gr_189_40, gt_225]
    refine cN_p (c_Model_linesOf _ he.1 he.2) (by omega) ?_
    rw [F 190 (by omega), h190, w32_of (x := (i : Int) + 1) (by omega) (by omega), V i (by omega) (by omega), if_neg (by omega)]
    refine ⟨fun q => absurd q (by omega), fun _ => ⟨by omega, by omega, ?_⟩⟩
    refine cN_p (c_Model_beginsIn Rτ he f i) (by omega) ?_
    cases hb : bgW ω e f i with
    | true =>
      have lp := lnn_pos (ω := ω) (e := e) (f := f) (i := i) (by omega) (by omega) hb
      have dv : 0 ≤ 1000 / lnn ω e f ∧ 1000 / lnn ω e f ≤ 1000 := ⟨Int.ediv_nonneg (by omega) (by omega), Int.ediv_le_self _ (by omega)⟩
      rw [Int.tdiv_eq_ediv_of_nonneg (by omega), w32_of (x := 1000 / lnn ω e f) (by omega) (by omega), w32_of (x := g i + 1000 / lnn ω e f) (by omega) (by omega)]
      refine ⟨fun x => absurd x (by decide), fun _ => ⟨by omega, by omega, by omega, step _ ?_⟩⟩
      unfold ctb
      rw [if_pos hb]
    | false =>
      rw [w32_of (x := g i + 0) (by omega) (by omega)]
      refine ⟨fun _ => ⟨by omega, by omega, step _ ?_⟩, fun x => absurd rfl x⟩
      unfold ctb
      rw [if_neg (by rw [hb]; exact Bool.false_ne_true)]
theorem l_mr_45 {P : Int → jH → Prop} {A : Int → Bool} (hd : 13 ≤ d) (R : RFR σ ω) (he : 0 ≤ e ∧ e ≤ 1) (hA : ∀ f, 0 ≤ f → f < dn ω → σ 223 f = b2i (A f)) (N : ∀ τ : jH, ILA σ τ → (∀ j, 0 ≤ j → j < ω (3 + e) → τ 220 j = wth ω e A j) → Ev (l, (fun _ => 0), 0) d 0 0 m_Model_rank (RW P) 162 [some (vR 189), some (vI e), some (vI 0), none, none] [] gW τ 0 0) : ∀ (k f : Nat) (τ : jH), (f : Int) + k = dn ω → ILA σ τ → (∀ j, 0 ≤ j → j < ω (3 + e) → τ 220 j = wtp ω e A j f) →
    Ev (l, (fun _ => 0), 0) d 0 0 m_Model_rank (RW P) 45 [some (vR 189), some (vI e), some (vI f), none, none] [] gW τ 0 0
  | 0, f, τ, hk, F, V => by
    have d10 := R.2.2.2.2.1
    refine jwp_sound t_Model_rank _ (b_Model_rank_45 ?_)
    simp only [RW, true_and, and_true, and_self, true_or, or_true, Nat.reduceLeDiff, Nat.reduceEqDiff, Nat.reduceAdd, Int.reduceLE, Int.reduceLT, Int.reduceEq, Int.reduceNeg, Int.reduceNe, Nat.reduceSub, reduceIte, implies_true, gt_189, gr_189_34, gt_220, gr_189_38, gt_223, gr_189_39, gt_224, gr_189_40, gt_225]
    rw [F 189 (by omega), d10]
    refine ⟨fun _ => N τ F (fun j a b => ?_), fun q => absurd q (by omega)⟩
    rw [V j a b]
    unfold wth wtp
    rw [show (dn ω).toNat = f by omega]
  | k + 1, f, τ, hk, F, V => by
    have d10 := R.2.2.2.2.1
    have d680 := R.2.2.1
    have L := (R.1.L he).1
    have Rτ := R.of (τ := τ) (fun c h => F c (by omega))
    have IH := fun υ F2 V2 => l_mr_45 hd R he hA N k (f + 1) υ (by omega) F2 V2
    rw [show ((f + 1 : Nat) : Int) = (f : Int) + 1 by omega] at IH
    refine jwp_sound t_Model_rank _ (b_Model_rank_45 ?_)
    simp only [RW, true_and, and_true, and_self, true_or, or_true, Nat.reduceLeDiff, Nat.reduceEqDiff, Nat.reduceAdd, Int.reduceLE, Int.reduceLT, Int.reduceEq, Int.reduceNeg, Int.reduceNe, Nat.reduceSub, reduceIte, implies_true, gt_189, gr_189_34, gt_220, gr_189_38, gt_223, gr_189_39, gt_224, gr_189_40, gt_225]
    rw [F 189 (by omega), d10, F 223 (by omega), hA f (by omega) (by omega), w32_of (x := (f : Int) + 1) (by omega) (by omega)]
    refine ⟨fun q => absurd q (by omega), fun _ => ⟨by omega, by omega, ?_⟩⟩
    cases ha : A f with
    | true =>
      refine ⟨fun _ => ?_, fun x => absurd x (by decide)⟩
      refine l_mr_70 (f := f) hd Rτ he ?_ (ω (3 + e)).toNat 0 (by have := L.1; omega)
      refine l_mr_108 (f := f) (g := fun j => wtp ω e A j f) hd Rτ he (fun j a b => ⟨V j a b, by have := wth_r ω e A j f; unfold wtp; omega⟩) (fun υ F2 V2 => ?_) (by omega) (ω (3 + e)).toNat 0 τ (by have := L.1; omega) (fun _ _ => rfl) (fun j a b => by rw [if_neg (by omega)]; exact V j a b)
      exact IH υ (fun c a => by rw [F2 c a, F c a]) (fun j a b => by rw [V2 j a b, wtp_s, if_pos ha])
    | false =>
      refine ⟨fun x => absurd rfl x, fun _ => IH τ F (fun j a b => by rw [V j a b, wtp_s, if_neg (by rw [ha]; exact Bool.false_ne_true), Int.add_zero])⟩
end RV1
