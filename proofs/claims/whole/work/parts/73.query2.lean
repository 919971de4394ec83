/-! Queries: the reference's answers -/
/-- different forms of an edition -/
noncomputable def dif (ω : Int → Int) (e : Int) : Int := sq (fun f => if 0 < cq (dw ω e) (wW ω e).1.toNat f then 1 else 0) (dn ω).toNat
noncomputable def s_edition (ω : Int → Int) (e what : Int) : Int := if 0 ≤ e ∧ e ≤ 1 then (if what = 0 then ω (3 + e) else if what = 1 then (wW ω e).1 else if what = 2 then dif ω e else -2000000000) else -2000000000
noncomputable def s_word (ω : Int → Int) (e p what : Int) : Int := if (0 ≤ e ∧ e ≤ 1) ∧ 0 ≤ p ∧ p < (wW ω e).1 then (if what = 0 then dw ω e p else if what = 1 then (wW ω e).2.2.1 p else if what = 2 then cq (wW ω e).2.2.1 p.toNat ((wW ω e).2.2.1 p) else if what = 3 then (wW ω e).2.2.2.1 p else -2000000000) else -2000000000
noncomputable def s_ordered (ω : Int → Int) (i : Int) : Int := if 0 ≤ i ∧ i < dn ω then dO ω i else -1
noncomputable def s_stands (ω : Int → Int) (e f i : Int) : Int := if (0 ≤ e ∧ e ≤ 1) ∧ 0 ≤ f ∧ f < dn ω then fnd (dw ω e) f i (wW ω e).1.toNat else -1
noncomputable def s_pack (ω : Int → Int) (e f k : Int) : Int := if (0 ≤ e ∧ e ≤ 1) ∧ (0 ≤ f ∧ f < dn ω) ∧ -1 ≤ k ∧ k ≤ 10 then (if k = -1 then pkb (dw ω e) f (wW ω e).1.toNat 10 else (pk (dw ω e) f k (wW ω e).1.toNat).1) else -2
noncomputable def s_room (ω : Int → Int) (e : Int) : Int := if 0 ≤ e ∧ e ≤ 1 then sq (fun f => pkb (dw ω e) f (wW ω e).1.toNat 10) (dn ω).toNat else -2
section R2
variable {l : Launch} {d : Nat} {ω : Int → Int} {σ : jH}
theorem c_Model_forms (R : RFR σ ω) : Cw 10 m_Model_forms [vR 189] σ (fun z τ => z = dn ω ∧ τ = σ) := by
  refine Cw_of o_Model_forms rfl fun l d hd => jwp_sound t_Model_forms _ (b_Model_forms_0 ?_)
  simp only [RW, true_and, and_true, and_self, true_or, or_true, Nat.reduceLeDiff, Nat.reduceEqDiff, Nat.reduceAdd, Int.reduceLE, Int.reduceLT, Int.reduceEq, Int.reduceNeg, Int.reduceNe, Nat.reduceSub, reduceIte, implies_true, gt_189]
  exact R.N.1
theorem c_Model_ordered (R : RFR σ ω) (i : Int) : Cw 11 m_Model_ordered [vR 189, vI i] σ (fun z τ => z = s_ordered ω i ∧ τ = σ) := by
  have N := R.N
  refine Cw_of o_Model_ordered rfl fun l d hd => jwp_sound t_Model_ordered _ (b_Model_ordered_0 ?_)
  simp only [RW, true_and, and_true, and_self, true_or, or_true, Nat.reduceLeDiff, Nat.reduceEqDiff, Nat.reduceAdd, Int.reduceLE, Int.reduceLT, Int.reduceEq, Int.reduceNeg, Int.reduceNe, Nat.reduceSub, reduceIte, implies_true, gt_189, gr_189_11, gt_199]
  rw [N.1, w32_of (by omega) (by omega)]
  refine cN_p (c_Model_in _ _ _ _) (by omega) ?_
  unfold s_ordered
  by_cases q : 0 ≤ i ∧ i < dn ω
  · rw [if_pos (by omega), if_pos q]
    exact ⟨fun q => by omega, fun _ => ⟨by omega, by omega, R.2.2.2.2.2.2.2.2 i q.1 q.2, rfl⟩⟩
  · rw [if_neg (by omega), if_neg q]
    exact ⟨fun _ => ⟨rfl, rfl⟩, fun q => absurd rfl q⟩
theorem c_Model_word (R : RFR σ ω) (e p what : Int) : Cw 13 m_Model_word [vR 189, vI e, vI p, vI what] σ (fun z τ => z = s_word ω e p what ∧ τ = σ) := by
  refine Cw_of o_Model_word rfl fun l d hd => jwp_sound t_Model_word _ (b_Model_word_0 ?_)
  simp only [RW, true_and, and_true, and_self, true_or, or_true, Nat.reduceLeDiff, Nat.reduceEqDiff, Nat.reduceAdd, Int.reduceLE, Int.reduceLT, Int.reduceEq, Int.reduceNeg, Int.reduceNe, Nat.reduceSub, reduceIte, implies_true, gt_189, gr_189_5, gt_194, gr_189_6, gt_195, gr_189_7, gt_196]
  refine cN_p (c_Model_isWord R _ _) (by omega) ?_
  unfold s_word
  by_cases q : (0 ≤ e ∧ e ≤ 1) ∧ 0 ≤ p ∧ p < (wW ω e).1
  · obtain ⟨he, hp⟩ := q
    have w := R.W he
    obtain ⟨b1, b2, _⟩ := (R.2.2.2.2.2.1 e he.1 he.2).2 p hp.1 hp.2
    have hw := R.2.2.2.2.2.2.1 e p he.1 he.2 hp.1 hp.2
    rw [if_pos ⟨he, hp⟩, if_pos ⟨he, hp⟩]
    refine ⟨fun q => by omega, fun _ => ?_⟩
    refine cN_p (c_Model_in _ _ _ _) (by omega) ?_
    rw [w32_of (x := 340 * e) (by omega) (by omega), w32_of (x := 340 * e + p) (by omega) (by omega)]
    by_cases q2 : 0 ≤ what ∧ what ≤ 3
    · rw [if_pos q2]
      refine ⟨fun _ => ⟨fun a0 => ⟨fun a1 => ⟨fun a2 => ⟨by omega, by omega, ?_, rfl⟩, fun a2 => ?_⟩, fun a1 => ⟨by omega, by omega, ?_, rfl⟩⟩, fun a0 => ⟨by omega, by omega, ?_, rfl⟩⟩, fun q => by omega⟩
      · rw [if_neg a0, if_neg a1, if_neg a2, if_pos (by omega)]
        exact b2
      · refine cN_p (c_Model_placeInLine R he hp) (by omega) ?_
        rw [if_neg a0, if_neg a1, if_pos a2]
        exact ⟨rfl, rfl⟩
      · rw [if_neg a0, if_pos a1]
        exact b1
      · rw [if_pos a0]
        exact hw
    · rw [if_neg q2, if_neg (by omega), if_neg (by omega), if_neg (by omega), if_neg (by omega)]
      exact ⟨fun q => absurd rfl q, fun _ => ⟨rfl, rfl⟩⟩
  · rw [if_neg q, if_neg q]
    exact ⟨fun _ => ⟨rfl, rfl⟩, fun q => absurd rfl q⟩
theorem l_Model_edition {e : Int} (hd : 12 ≤ d) (R : RFR σ ω) (he : 0 ≤ e ∧ e ≤ 1) : ∀ (k f : Nat), f + k = (dn ω).toNat → 0 ≤ sq (fun f => if 0 < cq (dw ω e) (wW ω e).1.toNat f then 1 else 0) f ∧ sq (fun f => if 0 < cq (dw ω e) (wW ω e).1.toNat f then 1 else 0) f ≤ f →
    Ev (l, (fun _ => 0), 0) d 0 0 m_Model_edition (RW fun z τ => z = dif ω e ∧ τ = σ) 52 [some (vR 189), some (vI e), none, some (vI (sq (fun f => if 0 < cq (dw ω e) (wW ω e).1.toNat f then 1 else 0) f)), some (vI f)] [] gW σ 0 0
  | 0, f, h, hb => by
    have N := R.N
    refine jwp_sound t_Model_edition _ (b_Model_edition_52 ?_)
    simp only [RW, true_and, and_true, and_self, true_or, or_true, Nat.reduceLeDiff, Nat.reduceEqDiff, Nat.reduceAdd, Int.reduceLE, Int.reduceLT, Int.reduceEq, Int.reduceNeg, Int.reduceNe, Nat.reduceSub, reduceIte, implies_true, gt_189, gr_189_4, gt_193]
    rw [N.1]
    refine ⟨fun _ => ?_, fun q => absurd q (by omega)⟩
    unfold dif
    rw [show (dn ω).toNat = f by omega]
  | k + 1, f, h, hb => by
    have N := R.N
    have hs : sq (fun f => if 0 < cq (dw ω e) (wW ω e).1.toNat f then 1 else 0) (f + 1) = sq (fun f => if 0 < cq (dw ω e) (wW ω e).1.toNat f then 1 else 0) f + (if 0 < cq (dw ω e) (wW ω e).1.toNat f then 1 else 0) := rfl
    have IH := l_Model_edition hd R he k (f + 1) (by omega) (by rw [hs]; split <;> omega)
    rw [hs] at IH
    refine jwp_sound t_Model_edition _ (b_Model_edition_52 ?_)
    simp only [RW, true_and, and_true, and_self, true_or, or_true, Nat.reduceLeDiff, Nat.reduceEqDiff, Nat.reduceAdd, Int.reduceLE, Int.reduceLT, Int.reduceEq, Int.reduceNeg, Int.reduceNe, Nat.reduceSub, reduceIte, implies_true, gt_189, gr_189_4, gt_193]
    rw [N.1, w32_of (x := _ + 0) (by omega) (by omega), w32_of (x := sq _ _ + 1) (by omega) (by omega), w32_of (x := (f : Int) + 1) (by omega) (by omega)]
    refine ⟨fun q => absurd q (by omega), fun _ => ?_⟩
    refine cN_p (c_Model_manyOf R he) (by omega) ?_
    refine ⟨fun q => ?_, fun q => ?_⟩
    · rw [if_neg (by omega)] at IH
      exact IH
    · rw [if_pos q] at IH
      exact IH
theorem c_Model_edition (R : RFR σ ω) (e what : Int) : Cw 12 m_Model_edition [vR 189, vI e, vI what] σ (fun z τ => z = s_edition ω e what ∧ τ = σ) := by
  have N := R.N
  refine Cw_of o_Model_edition rfl fun l d hd => jwp_sound t_Model_edition _ (b_Model_edition_0 ?_)
  simp only [RW, true_and, and_true, and_self, true_or, or_true, Nat.reduceLeDiff, Nat.reduceEqDiff, Nat.reduceAdd, Int.reduceLE, Int.reduceLT, Int.reduceEq, Int.reduceNeg, Int.reduceNe, Nat.reduceSub, reduceIte, implies_true, gt_189, gr_189_4, gt_193]
  refine cN_p (c_Model_isEdition _ _) (by omega) ?_
  unfold s_edition
  by_cases he : 0 ≤ e ∧ e ≤ 1
  · have w := R.W he
    rw [if_pos he, if_pos he]
    refine ⟨fun q => by omega, fun _ => ?_⟩
    refine cN_p (c_Model_in _ _ _ _) (by omega) ?_
    by_cases q2 : 0 ≤ what ∧ what ≤ 2
    · rw [if_pos q2]
      refine ⟨fun _ => ⟨fun a2 => ?_, fun _ => ⟨fun a0 => ⟨by omega, by omega, ?_, rfl⟩, fun a0 => ?_⟩⟩, fun q => by omega⟩
      · rw [if_neg (by omega : ¬ what = 0), if_neg (by omega : ¬ what = 1), if_pos (by omega : what = 2)]
        exact l_Model_edition hd R he (dn ω).toNat 0 (by omega) ⟨Int.le_refl _, Int.le_refl _⟩
      · rw [if_neg a0, if_pos (by omega)]
        exact w.1
      · refine cN_p (c_Model_linesOf _ he.1 he.2) (by omega) ?_
        rw [if_pos a0, R.2.2.2.1]
        exact ⟨rfl, rfl⟩
    · rw [if_neg q2, if_neg (by omega), if_neg (by omega), if_neg (by omega)]
      exact ⟨fun q => absurd rfl q, fun _ => ⟨rfl, rfl⟩⟩
  · rw [if_neg he, if_neg he]
    exact ⟨fun _ => ⟨rfl, rfl⟩, fun q => absurd rfl q⟩
theorem l_Model_stands {e f i : Int} (hd : 12 ≤ d) (R : RFR σ ω) (he : 0 ≤ e ∧ e ≤ 1) (hi : 0 ≤ i) (hi2 : i < 2147483648) : ∀ (k p : Nat), p + k = (wW ω e).1.toNat → cq (dw ω e) p f ≤ i →
    Ev (l, (fun _ => 0), 0) d 0 0 m_Model_stands (RW fun z τ => z = fnd (dw ω e) f i (wW ω e).1.toNat ∧ τ = σ) 27 [some (vR 189), some (vI e), some (vI f), none, some (vI (i - cq (dw ω e) p f)), some (vI p)] [] gW σ 0 0
  | 0, p, h, hc => by
    have w := R.W he
    refine jwp_sound t_Model_stands _ (b_Model_stands_27 ?_)
    simp only [RW, true_and, and_true, and_self, true_or, or_true, Nat.reduceLeDiff, Nat.reduceEqDiff, Nat.reduceAdd, Int.reduceLE, Int.reduceLT, Int.reduceEq, Int.reduceNeg, Int.reduceNe, Nat.reduceSub, reduceIte, implies_true, gt_189, gr_189_4, gt_193, gr_189_5, gt_194]
    rw [w.1]
    refine ⟨by omega, by omega, fun _ => ?_, fun q => absurd q (by omega)⟩
    rw [fnd_no (Or.inr (by rw [show (wW ω e).1.toNat = p by omega]; exact hc))]
  | k + 1, p, h, hc => by
    have w := R.W he
    have r := cq_r (dw ω e) f p
    have hw := R.2.2.2.2.2.2.1 e p he.1 he.2 (by omega) (by omega)
    have hs : cq (dw ω e) (p + 1) f = cq (dw ω e) p f + (if dw ω e p = f then 1 else 0) := rfl
    refine jwp_sound t_Model_stands _ (b_Model_stands_27 ?_)
    simp only [RW, true_and, and_true, and_self, true_or, or_true, Nat.reduceLeDiff, Nat.reduceEqDiff, Nat.reduceAdd, Int.reduceLE, Int.reduceLT, Int.reduceEq, Int.reduceNeg, Int.reduceNe, Nat.reduceSub, reduceIte, implies_true, gt_189, gr_189_4, gt_193, gr_189_5, gt_194]
    rw [w.1, w32_of (x := 340 * e) (by omega) (by omega), w32_of (x := 340 * e + p) (by omega) (by omega), hw, w32_of (x := i - _ + -1) (by omega) (by omega), w32_of (x := (p : Int) + 1) (by omega) (by omega)]
    refine ⟨by omega, by omega, fun q => absurd q (by omega), fun _ => ⟨by omega, by omega, fun q => ⟨fun q2 => ?_, fun q2 => ?_⟩, fun q => ?_⟩⟩
    · rw [if_pos q] at hs
      have IH := l_Model_stands (f := f) hd R he hi hi2 k (p + 1) (by omega) (by omega)
      rw [hs, show i - (cq (dw ω e) p f + 1) = i - cq (dw ω e) p f + -1 by omega] at IH
      exact IH
    · exact (fnd_eq (by omega) (by omega) q (by rw [show ((p : Int)).toNat = p by omega]; omega)).symm
    · rw [if_neg q] at hs
      have IH := l_Model_stands (f := f) hd R he hi hi2 k (p + 1) (by omega) (by omega)
      rw [hs, Int.add_zero] at IH
      exact IH
theorem c_Model_stands (R : RFR σ ω) (e f i : Int) (hi2 : i < 2147483648) : Cw 12 m_Model_stands [vR 189, vI e, vI f, vI i] σ (fun z τ => z = s_stands ω e f i ∧ τ = σ) := by
  refine Cw_of o_Model_stands rfl fun l d hd => jwp_sound t_Model_stands _ (b_Model_stands_0 ?_)
  simp only [RW, true_and, and_true, and_self, true_or, or_true, Nat.reduceLeDiff, Nat.reduceEqDiff, Nat.reduceAdd, Int.reduceLE, Int.reduceLT, Int.reduceEq, Int.reduceNeg, Int.reduceNe, Nat.reduceSub, reduceIte, implies_true, gt_189, gr_189_4, gt_193, gr_189_5, gt_194]
  refine cN_p (c_Model_isEdition _ _) (by omega) ?_
  unfold s_stands
  by_cases he : 0 ≤ e ∧ e ≤ 1
  · rw [if_pos he]
    refine ⟨fun q => by omega, fun _ => ?_⟩
    refine cN_p (c_Model_isForm R _) (by omega) ?_
    by_cases hf : 0 ≤ f ∧ f < dn ω
    · rw [if_pos hf, if_pos ⟨he, hf⟩]
      refine ⟨fun q => by omega, fun _ => ⟨fun q => ?_, fun q => ?_⟩⟩
      · have := l_Model_stands (l := l) (d := d) (f := f) hd R he q hi2 (wW ω e).1.toNat 0 (by omega) (by show (0 : Int) ≤ i; omega)
        have e0 : cq (dw ω e) 0 f = 0 := rfl
        rw [e0, Int.sub_zero] at this
        exact this
      · rw [fnd_no (Or.inl q)]
        exact ⟨rfl, rfl⟩
    · rw [if_neg hf, if_neg (fun x => hf x.2)]
      exact ⟨fun _ => ⟨rfl, rfl⟩, fun q => absurd rfl q⟩
  · rw [if_neg he, if_neg (fun x => he x.1)]
    exact ⟨fun _ => ⟨rfl, rfl⟩, fun q => absurd rfl q⟩
theorem l_Model_packed {e f k : Int} (hd : 10 ≤ d) (R : RFR σ ω) (he : 0 ≤ e ∧ e ≤ 1) (k0 : 0 ≤ k) (k1 : k ≤ 10) : ∀ (m p : Nat), p + m = (wW ω e).1.toNat →
    Ev (l, (fun _ => 0), 0) d 0 0 m_Model_packed (RW fun z τ => z = (pk (dw ω e) f k (wW ω e).1.toNat).1 ∧ τ = σ) 9 [some (vR 189), some (vI e), some (vI f), some (vI k), some (vI (pk (dw ω e) f k p).1), some (vI (pk (dw ω e) f k p).2), some (vI p)] [] gW σ 0 0
  | 0, p, h => by
    have w := R.W he
    refine jwp_sound t_Model_packed _ (b_Model_packed_9 ?_)
    simp only [RW, true_and, and_true, and_self, true_or, or_true, Nat.reduceLeDiff, Nat.reduceEqDiff, Nat.reduceAdd, Int.reduceLE, Int.reduceLT, Int.reduceEq, Int.reduceNeg, Int.reduceNe, Nat.reduceSub, reduceIte, implies_true, gt_189, gr_189_4, gt_193, gr_189_5, gt_194]
    rw [w.1]
    refine ⟨by omega, by omega, fun _ => ?_, fun q => absurd q (by omega)⟩
    rw [show (wW ω e).1.toNat = p by omega]
  | m + 1, p, h => by
    have w := R.W he
    have IH := l_Model_packed (f := f) hd R he k0 k1 m (p + 1) (by omega)
    have r := pk_r (w := dw ω e) (f := f) k0 k1 p (by omega)
    have hw := R.2.2.2.2.2.2.1 e p he.1 he.2 (by omega) (by omega)
    have hs : pk (dw ω e) f k (p + 1) = if dw ω e p = f then ((pk (dw ω e) f k p).1 + (jshr32 ((p : Int) - (pk (dw ω e) f k p).2 - 1) k + 1 + k), (p : Int)) else pk (dw ω e) f k p := rfl
    have j := jshr32_r (x := (p : Int) - (pk (dw ω e) f k p).2 - 1) (k := k) (by omega) (by omega) k0 (by omega)
    rw [hs] at IH
    refine jwp_sound t_Model_packed _ (b_Model_packed_9 ?_)
    simp only [RW, true_and, and_true, and_self, true_or, or_true, Nat.reduceLeDiff, Nat.reduceEqDiff, Nat.reduceAdd, Int.reduceLE, Int.reduceLT, Int.reduceEq, Int.reduceNeg, Int.reduceNe, Nat.reduceSub, reduceIte, implies_true, gt_189, gr_189_4, gt_193, gr_189_5, gt_194]
    rw [w.1, w32_of (x := 340 * e) (by omega) (by omega), w32_of (x := 340 * e + p) (by omega) (by omega), hw, w32_of (x := (p : Int) - _) (by omega) (by omega), w32_of (x := (p : Int) - _ - 1) (by omega) (by omega), w32_of (x := jshr32 _ _ + 1) (by omega) (by omega), w32_of (x := jshr32 _ _ + 1 + k) (by omega) (by omega), w32_of (x := _ + (jshr32 _ _ + 1 + k)) (by omega) (by omega), w32_of (x := (p : Int) + 1) (by omega) (by omega)]
    refine ⟨by omega, by omega, fun q => absurd q (by omega), fun _ => ⟨by omega, by omega, fun q => ?_, fun q => ?_⟩⟩
    · rw [if_pos q] at IH
      exact IH
    · rw [if_neg q] at IH
      exact IH
theorem c_Model_packed (R : RFR σ ω) {e f k : Int} (he : 0 ≤ e ∧ e ≤ 1) (k0 : 0 ≤ k) (k1 : k ≤ 10) : Cw 10 m_Model_packed [vR 189, vI e, vI f, vI k] σ (fun z τ => z = (pk (dw ω e) f k (wW ω e).1.toNat).1 ∧ τ = σ) := by
  refine Cw_of o_Model_packed rfl fun l d hd => jwp_sound t_Model_packed _ (b_Model_packed_0 ?_)
  exact l_Model_packed hd R he k0 k1 (wW ω e).1.toNat 0 (by omega)
theorem l_Model_bestPacked {e f : Int} (hd : 11 ≤ d) (R : RFR σ ω) (he : 0 ≤ e ∧ e ≤ 1) : ∀ (m k : Nat), k + m = 10 →
    Ev (l, (fun _ => 0), 0) d 0 0 m_Model_bestPacked (RW fun z τ => z = pkb (dw ω e) f (wW ω e).1.toNat 10 ∧ τ = σ) 11 [some (vR 189), some (vI e), some (vI f), some (vI (pkb (dw ω e) f (wW ω e).1.toNat k)), some (vI ((k : Int) + 1))] [] gW σ 0 0
  | 0, k, h => by
    refine jwp_sound t_Model_bestPacked _ (b_Model_bestPacked_11 ?_)
    simp only [RW, true_and, and_true, and_self, true_or, or_true, Nat.reduceLeDiff, Nat.reduceEqDiff, Nat.reduceAdd, Int.reduceLE, Int.reduceLT, Int.reduceEq, Int.reduceNeg, Int.reduceNe, Nat.reduceSub, reduceIte, implies_true, gt_189]
    refine ⟨fun _ => ?_, fun q => absurd q (by omega)⟩
    rw [show k = 10 by omega]
  | m + 1, k, h => by
    have IH := l_Model_bestPacked (f := f) hd R he m (k + 1) (by omega)
    refine jwp_sound t_Model_bestPacked _ (b_Model_bestPacked_11 ?_)
    simp only [RW, true_and, and_true, and_self, true_or, or_true, Nat.reduceLeDiff, Nat.reduceEqDiff, Nat.reduceAdd, Int.reduceLE, Int.reduceLT, Int.reduceEq, Int.reduceNeg, Int.reduceNe, Nat.reduceSub, reduceIte, implies_true, gt_189]
    refine ⟨fun q => absurd q (by omega), fun _ => ?_⟩
    refine cN_p (c_Model_packed R he (by omega) (by omega)) (by omega) ⟨by omega, ?_⟩
    rw [w32_of (x := (k : Int) + 1 + 1) (by omega) (by omega)]
    exact IH
theorem c_Model_bestPacked (R : RFR σ ω) {e f : Int} (he : 0 ≤ e ∧ e ≤ 1) : Cw 11 m_Model_bestPacked [vR 189, vI e, vI f] σ (fun z τ => z = pkb (dw ω e) f (wW ω e).1.toNat 10 ∧ τ = σ) := by
  refine Cw_of o_Model_bestPacked rfl fun l d hd => jwp_sound t_Model_bestPacked _ (b_Model_bestPacked_0 ?_)
  simp only [RW, true_and, and_true, and_self, true_or, or_true, Nat.reduceLeDiff, Nat.reduceEqDiff, Nat.reduceAdd, Int.reduceLE, Int.reduceLT, Int.reduceEq, Int.reduceNeg, Int.reduceNe, Nat.reduceSub, reduceIte, implies_true, gt_189]
  refine cN_p (c_Model_packed R he (by omega) (by omega)) (by omega) ?_
  exact l_Model_bestPacked hd R he 10 0 (by omega)
theorem c_Model_pack (R : RFR σ ω) (e f k : Int) : Cw 12 m_Model_pack [vR 189, vI e, vI f, vI k] σ (fun z τ => z = s_pack ω e f k ∧ τ = σ) := by
  refine Cw_of o_Model_pack rfl fun l d hd => jwp_sound t_Model_pack _ (b_Model_pack_0 ?_)
  simp only [RW, true_and, and_true, and_self, true_or, or_true, Nat.reduceLeDiff, Nat.reduceEqDiff, Nat.reduceAdd, Int.reduceLE, Int.reduceLT, Int.reduceEq, Int.reduceNeg, Int.reduceNe, Nat.reduceSub, reduceIte, implies_true, gt_189]
  refine cN_p (c_Model_isEdition _ _) (by omega) ?_
  unfold s_pack
  by_cases he : 0 ≤ e ∧ e ≤ 1
  · rw [if_pos he]
    refine ⟨fun q => by omega, fun _ => ?_⟩
    refine cN_p (c_Model_isForm R _) (by omega) ?_
    by_cases hf : 0 ≤ f ∧ f < dn ω
    · rw [if_pos hf]
      refine ⟨fun q => by omega, fun _ => ?_⟩
      refine cN_p (c_Model_in _ _ _ _) (by omega) ?_
      by_cases hk : -1 ≤ k ∧ k ≤ 10
      · rw [if_pos hk, if_pos ⟨he, hf, hk⟩]
        refine ⟨fun _ => ⟨fun q => ?_, fun q => ?_⟩, fun q => by omega⟩
        · refine cN_p (c_Model_packed R he (by omega) (by omega)) (by omega) ?_
          rw [if_neg q]
          exact ⟨rfl, rfl⟩
        · refine cN_p (c_Model_bestPacked R he) (by omega) ?_
          rw [if_pos q]
          exact ⟨rfl, rfl⟩
      · rw [if_neg hk, if_neg (fun x => hk x.2.2)]
        exact ⟨fun q => absurd rfl q, fun _ => ⟨rfl, rfl⟩⟩
    · rw [if_neg hf, if_neg (fun x => hf x.2.1)]
      exact ⟨fun _ => ⟨rfl, rfl⟩, fun q => absurd rfl q⟩
  · rw [if_neg he, if_neg (fun x => he x.1)]
    exact ⟨fun _ => ⟨rfl, rfl⟩, fun q => absurd rfl q⟩
theorem pkb_sum {w : Int → Int} {W : Nat} (hW : W ≤ 1000) : ∀ n : Nat, 0 ≤ sq (fun f => pkb w f W 10) n ∧ sq (fun f => pkb w f W 10) n ≤ (n : Int) * 1100000
  | 0 => by simp [sq]
  | n + 1 => by
    have := pkb_sum (w := w) hW n
    have := pkb_r (w := w) (f := (n : Int)) hW 10 (by omega)
    simp only [sq]
    omega
theorem l_Model_room {e : Int} (hd : 12 ≤ d) (R : RFR σ ω) (he : 0 ≤ e ∧ e ≤ 1) : ∀ (m f : Nat), f + m = (dn ω).toNat →
    Ev (l, (fun _ => 0), 0) d 0 0 m_Model_room (RW fun z τ => z = sq (fun f => pkb (dw ω e) f (wW ω e).1.toNat 10) (dn ω).toNat ∧ τ = σ) 14 [some (vR 189), some (vI e), some (vI (sq (fun f => pkb (dw ω e) f (wW ω e).1.toNat 10) f)), some (vI f)] [] gW σ 0 0
  | 0, f, h => by
    have N := R.N
    refine jwp_sound t_Model_room _ (b_Model_room_14 ?_)
    simp only [RW, true_and, and_true, and_self, true_or, or_true, Nat.reduceLeDiff, Nat.reduceEqDiff, Nat.reduceAdd, Int.reduceLE, Int.reduceLT, Int.reduceEq, Int.reduceNeg, Int.reduceNe, Nat.reduceSub, reduceIte, implies_true, gt_189]
    rw [N.1]
    refine ⟨fun _ => ?_, fun q => absurd q (by omega)⟩
    rw [show (dn ω).toNat = f by omega]
  | m + 1, f, h => by
    have N := R.N
    have w := R.W he
    have IH := l_Model_room hd R he m (f + 1) (by omega)
    have b1 := pkb_sum (w := dw ω e) (W := (wW ω e).1.toNat) (by omega) f
    have b2 := pkb_r (w := dw ω e) (f := (f : Int)) (W := (wW ω e).1.toNat) (by omega) 10 (by omega)
    refine jwp_sound t_Model_room _ (b_Model_room_14 ?_)
    simp only [RW, true_and, and_true, and_self, true_or, or_true, Nat.reduceLeDiff, Nat.reduceEqDiff, Nat.reduceAdd, Int.reduceLE, Int.reduceLT, Int.reduceEq, Int.reduceNeg, Int.reduceNe, Nat.reduceSub, reduceIte, implies_true, gt_189]
    rw [N.1]
    refine ⟨fun q => absurd q (by omega), fun _ => ?_⟩
    refine cN_p (c_Model_bestPacked R he) (by omega) ?_
    rw [w32_of (x := _ + _) (by omega) (by omega), w32_of (x := (f : Int) + 1) (by omega) (by omega)]
    exact IH
theorem c_Model_room (R : RFR σ ω) (e : Int) : Cw 12 m_Model_room [vR 189, vI e] σ (fun z τ => z = s_room ω e ∧ τ = σ) := by
  refine Cw_of o_Model_room rfl fun l d hd => jwp_sound t_Model_room _ (b_Model_room_0 ?_)
  refine cN_p (c_Model_isEdition _ _) (by omega) ?_
  unfold s_room
  by_cases he : 0 ≤ e ∧ e ≤ 1
  · rw [if_pos he, if_pos he]
    refine ⟨fun _ => ?_, fun q => by omega⟩
    exact l_Model_room hd R he (dn ω).toNat 0 (by omega)
  · rw [if_neg he, if_neg he]
    exact ⟨fun q => absurd rfl q, fun _ => ⟨rfl, rfl, rfl⟩⟩
end R2
