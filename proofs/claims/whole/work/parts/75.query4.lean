/-! Queries: the class's lists -/
section CL4
variable {l : Launch} {d : Nat} {ω : Int → Int} {σ : jH}
theorem c_oftenOf (H : CDR σ ω) (W : OKW ω) {e : Int} (he : 0 ≤ e ∧ e ≤ 1) (f : Int) : Cw 10 m_Words_oftenOf [vR (wb e), vI f] σ (fun z τ => z = cq (dw ω e) (wW ω e).1.toNat f ∧ τ = σ) := by
  have hW := wb_i he
  have N := H.n
  refine Cw_of o_Words_oftenOf rfl fun l d hd => jwp_sound t_Words_oftenOf _ (b_Words_oftenOf_0 ?_)
  simp only [RW, true_and, and_true, and_self, true_or, or_true, Nat.reduceLeDiff, Nat.reduceEqDiff, Nat.reduceAdd, Int.reduceLE, Int.reduceLT, Int.reduceEq, Int.reduceNeg, Int.reduceNe, Nat.reduceSub, reduceIte, implies_true, wd_t hW, wd_r1 hW, wd_t1 hW, wd_r2 hW, wd_t2 hW, wd_r3 hW, wd_t3 hW, wd_r4 hW, wd_t4 hW, wd_r5 hW, wd_t5 hW, wd_r6 hW, wd_t6 hW, wd_r7 hW, wd_t7 hW, wd_r8 hW, wd_t8 hW, wd_r10 hW, wd_t10 hW, wd_r11 hW, wd_t11 hW, wd_r12 hW, wd_t12 hW, wd_r13 hW, wd_t13 hW]
  refine ⟨fun q => (cq_out H W he (by omega)).symm, fun q => ⟨fun q2 => (cq_out H W he (by omega)).symm, fun q2 => ⟨by omega, by omega, (H.W he).2.2.1 f q q2⟩⟩⟩
theorem c_placeOf (H : CDR σ ω) (W : OKW ω) {e : Int} (he : 0 ≤ e ∧ e ≤ 1) (f i : Int) : Cw 10 m_Words_placeOf [vR (wb e), vI f, vI i] σ (fun z τ => z = fnd (dw ω e) f i (wW ω e).1.toNat ∧ τ = σ) := by
  have hW := wb_i he
  have N := H.n
  have w := W.n he
  obtain ⟨t1, t2, t3, t4, t5, t6⟩ := H.W he
  refine Cw_of o_Words_placeOf rfl fun l d hd => jwp_sound t_Words_placeOf _ (b_Words_placeOf_0 ?_)
  simp only [RW, true_and, and_true, and_self, true_or, or_true, Nat.reduceLeDiff, Nat.reduceEqDiff, Nat.reduceAdd, Int.reduceLE, Int.reduceLT, Int.reduceEq, Int.reduceNeg, Int.reduceNe, Nat.reduceSub, reduceIte, implies_true, wd_t hW, wd_r1 hW, wd_t1 hW, wd_r2 hW, wd_t2 hW, wd_r3 hW, wd_t3 hW, wd_r4 hW, wd_t4 hW, wd_r5 hW, wd_t5 hW, wd_r6 hW, wd_t6 hW, wd_r7 hW, wd_t7 hW, wd_r8 hW, wd_t8 hW, wd_r10 hW, wd_t10 hW, wd_r11 hW, wd_t11 hW, wd_r12 hW, wd_t12 hW, wd_r13 hW, wd_t13 hW]
  refine ⟨fun q => (fnd_no (by rw [cq_out H W he (by omega)]; omega)).symm, fun q => ⟨fun q2 => (fnd_no (by rw [cq_out H W he (by omega)]; omega)).symm, fun q2 => ⟨fun q3 => (fnd_no (Or.inl q3)).symm, fun q3 => ⟨by omega, by omega, fun q4 => ?_, fun q4 => ?_⟩⟩⟩⟩
  · rw [t3 f q q2] at q4
    have y := fnd_yes q3 q4
    rcases fnd_r (w := dw ω e) (f := f) (i := i) (wW ω e).1.toNat with r | ⟨r1, r2, r3, r4⟩
    · omega
    · have hw : ∀ p : Int, 0 ≤ p → p < (wW ω e).1.toNat → 0 ≤ dw ω e p ∧ dw ω e p < (600 : Nat) := fun p a b => by
        have := H.dw he a (by omega)
        omega
      have lp := lpl_lt hw r1 r2
      have e1 : lpl (dw ω e) (wW ω e).1.toNat (fnd (dw ω e) f i (wW ω e).1.toNat) = sq (cq (dw ω e) (wW ω e).1.toNat) f.toNat + i := by
        unfold lpl
        rw [r3, r4]
      have v := t5 _ r1 (by omega)
      rw [t4 f q q2, w32_of (by omega) (by omega), ← e1]
      exact ⟨by omega, by omega, fun x => absurd x (by omega), fun _ => ⟨fun x => absurd x (by omega), fun _ => ⟨by omega, by omega, v⟩⟩⟩
  · rw [t3 f q q2] at q4
    exact (fnd_no (Or.inr q4)).symm
/-- the list is gone through to behind its i-th place -/
def LAT (w : Int → Int) (f : Int) (W : Nat) (i : Int) (m : Nat) : Prop := m ≤ W ∧ cq w m f = i
theorem lat_s {w : Int → Int} {f i : Int} {W m : Nat} (h : LAT w f W i m) (hi : 0 ≤ i) (hc : i < cq w W f) {k : Int} (k0 : 0 ≤ k) : LAT w f W (i + 1) ((fnd w f i W).toNat + 1) ∧ 0 ≤ fnd w f i W ∧ fnd w f i W < W ∧ pk w f k ((fnd w f i W).toNat + 1) = ((pk w f k m).1 + (jshr32 (fnd w f i W - (pk w f k m).2 - 1) k + 1 + k), fnd w f i W) := by
  obtain ⟨h1, h2⟩ := h
  have y := fnd_yes hi hc
  rcases fnd_r (w := w) (f := f) (i := i) W with r | ⟨r1, r2, r3, r4⟩
  · omega
  · generalize fnd w f i W = p at *
    have hmp : (m : Int) ≤ p := by
      by_cases q : (m : Int) ≤ p
      · exact q
      · have a := cq_lt (w := w) (W := m) r1 (by omega)
        rw [r3, r4, h2] at a
        omega
    have hno : ∀ q : Int, m ≤ q → q < m + ((p.toNat - m : Nat) : Int) → w q ≠ f := by
      intro q q0 q1 e
      have a := cq_lt (w := w) (p := q) (W := p.toNat) (by omega) (by omega)
      have b := cq_le (w := w) (v := f) m (q.toNat - m)
      rw [show m + (q.toNat - m) = q.toNat by omega] at b
      rw [e, r4] at a
      omega
    have pkn := pk_no (k := k) m (p.toNat - m) hno
    rw [show m + (p.toNat - m) = p.toNat by omega] at pkn
    refine ⟨⟨by omega, ?_⟩, r1, r2, ?_⟩
    · show cq w p.toNat f + (if w ((p.toNat : Nat) : Int) = f then 1 else 0) = i + 1
      rw [show ((p.toNat : Nat) : Int) = p by omega, if_pos r3, r4]
    · show (if w ((p.toNat : Nat) : Int) = f then ((pk w f k p.toNat).1 + (jshr32 (((p.toNat : Nat) : Int) - (pk w f k p.toNat).2 - 1) k + 1 + k), ((p.toNat : Nat) : Int)) else pk w f k p.toNat) = _
      rw [show ((p.toNat : Nat) : Int) = p by omega, if_pos r3, pkn]
theorem lat_e {w : Int → Int} {f i k : Int} {W m : Nat} (h : LAT w f W i m) (hc : cq w W f ≤ i) : pk w f k W = pk w f k m := by
  obtain ⟨h1, h2⟩ := h
  have hno : ∀ q : Int, m ≤ q → q < m + ((W - m : Nat) : Int) → w q ≠ f := by
    intro q q0 q1 e
    have a := cq_lt (w := w) (p := q) (W := W) (by omega) (by omega)
    have b := cq_le (w := w) (v := f) m (q.toNat - m)
    rw [show m + (q.toNat - m) = q.toNat by omega] at b
    rw [e] at a
    omega
  have pkn := pk_no (k := k) m (W - m) hno
  rwa [show m + (W - m) = W by omega] at pkn
theorem l_bits {e f k : Int} (hd : 11 ≤ d) (H : CDR σ ω) (W : OKW ω) (he : 0 ≤ e ∧ e ≤ 1) (k0 : 0 ≤ k) (k1 : k ≤ 10) : ∀ (n m : Nat) (i : Int), cq (dw ω e) (wW ω e).1.toNat f - i ≤ n → 0 ≤ i → i ≤ 1000 → LAT (dw ω e) f (wW ω e).1.toNat i m →
    Ev (l, (fun _ => 0), 0) d 0 0 m_Words_bits (RW fun z τ => z = (pk (dw ω e) f k (wW ω e).1.toNat).1 ∧ τ = σ) 8 [some (vR (wb e)), some (vI f), some (vI k), some (vI (pk (dw ω e) f k m).1), some (vI (pk (dw ω e) f k m).2), some (vI i), none] [] gW σ 0 0 := by
  have hW := wb_i he
  have w := W.n he
  intro n
  induction n with
  | zero =>
    intro m i hn hi hi2 hL
    refine jwp_sound t_Words_bits _ (b_Words_bits_8 ?_)
    simp only [RW, true_and, and_true, and_self, true_or, or_true, Nat.reduceLeDiff, Nat.reduceEqDiff, Nat.reduceAdd, Int.reduceLE, Int.reduceLT, Int.reduceEq, Int.reduceNeg, Int.reduceNe, Nat.reduceSub, reduceIte, implies_true, wd_t hW, wd_r1 hW, wd_t1 hW, wd_r2 hW, wd_t2 hW, wd_r3 hW, wd_t3 hW, wd_r4 hW, wd_t4 hW, wd_r5 hW, wd_t5 hW, wd_r6 hW, wd_t6 hW, wd_r7 hW, wd_t7 hW, wd_r8 hW, wd_t8 hW, wd_r10 hW, wd_t10 hW, wd_r11 hW, wd_t11 hW, wd_r12 hW, wd_t12 hW, wd_r13 hW, wd_t13 hW]
    refine cN_p (c_oftenOf H W he _) (by omega) ?_
    refine ⟨fun _ => ⟨by rw [lat_e hL (by omega)], rfl⟩, fun q => absurd q (by omega)⟩
  | succ n ih =>
    intro m i hn hi hi2 hL
    refine jwp_sound t_Words_bits _ (b_Words_bits_8 ?_)
    simp only [RW, true_and, and_true, and_self, true_or, or_true, Nat.reduceLeDiff, Nat.reduceEqDiff, Nat.reduceAdd, Int.reduceLE, Int.reduceLT, Int.reduceEq, Int.reduceNeg, Int.reduceNe, Nat.reduceSub, reduceIte, implies_true, wd_t hW, wd_r1 hW, wd_t1 hW, wd_r2 hW, wd_t2 hW, wd_r3 hW, wd_t3 hW, wd_r4 hW, wd_t4 hW, wd_r5 hW, wd_t5 hW, wd_r6 hW, wd_t6 hW, wd_r7 hW, wd_t7 hW, wd_r8 hW, wd_t8 hW, wd_r10 hW, wd_t10 hW, wd_r11 hW, wd_t11 hW, wd_r12 hW, wd_t12 hW, wd_r13 hW, wd_t13 hW]
    refine cN_p (c_oftenOf H W he _) (by omega) ?_
    refine ⟨fun q => ⟨by rw [lat_e hL q], rfl⟩, fun q => ?_⟩
    refine cN_p (c_placeOf H W he _ _) (by omega) ?_
    obtain ⟨s1, s2, s3, s4⟩ := lat_s hL hi q k0
    have cr := cq_r (dw ω e) f (wW ω e).1.toNat
    have pr := pk_r (w := dw ω e) (f := f) k0 k1 m (by have := hL.1; omega)
    have pr2 := pk_r (w := dw ω e) (f := f) k0 k1 ((fnd (dw ω e) f i (wW ω e).1.toNat).toNat + 1) (by omega)
    have hle : (pk (dw ω e) f k m).2 < fnd (dw ω e) f i (wW ω e).1.toNat := by
      have e2 : (m : Int) ≤ fnd (dw ω e) f i (wW ω e).1.toNat := by
        rcases fnd_r (w := dw ω e) (f := f) (i := i) (wW ω e).1.toNat with r | ⟨r1, r2, r3, r4⟩
        · omega
        · by_cases x : (m : Int) ≤ fnd (dw ω e) f i (wW ω e).1.toNat
          · exact x
          · have a := cq_lt (w := dw ω e) (W := m) r1 (by omega)
            rw [r3, r4, hL.2] at a
            omega
      omega
    rw [s4] at pr2
    simp only at pr2
    have j := jshr32_r (x := fnd (dw ω e) f i (wW ω e).1.toNat - (pk (dw ω e) f k m).2 - 1) (k := k) (by omega) (by omega) k0 (by omega)
    rw [w32_of (x := fnd _ _ _ _ - _) (by omega) (by omega), w32_of (x := fnd _ _ _ _ - _ - 1) (by omega) (by omega), w32_of (x := jshr32 _ _ + 1) (by omega) (by omega), w32_of (x := jshr32 _ _ + 1 + k) (by omega) (by omega), w32_of (x := _ + (jshr32 _ _ + 1 + k)) (by omega) (by omega), w32_of (x := i + 1) (by omega) (by omega)]
    have := ih ((fnd (dw ω e) f i (wW ω e).1.toNat).toNat + 1) (i + 1) (by omega) (by omega) (by omega) s1
    rw [s4] at this
    exact this
theorem c_bits (H : CDR σ ω) (W : OKW ω) {e f k : Int} (he : 0 ≤ e ∧ e ≤ 1) (k0 : 0 ≤ k) (k1 : k ≤ 10) : Cw 11 m_Words_bits [vR (wb e), vI f, vI k] σ (fun z τ => z = (pk (dw ω e) f k (wW ω e).1.toNat).1 ∧ τ = σ) := by
  have cr := cq_r (dw ω e) f (wW ω e).1.toNat
  refine Cw_of o_Words_bits rfl fun l d hd => jwp_sound t_Words_bits _ (b_Words_bits_0 ?_)
  exact l_bits hd H W he k0 k1 (cq (dw ω e) (wW ω e).1.toNat f).toNat 0 0 (by omega) (by omega) (by omega) ⟨by omega, rfl⟩
theorem l_leastBits {e f : Int} (hd : 12 ≤ d) (H : CDR σ ω) (W : OKW ω) (he : 0 ≤ e ∧ e ≤ 1) : ∀ (m k : Nat), k + m = 10 →
    Ev (l, (fun _ => 0), 0) d 0 0 m_Words_leastBits (RW fun z τ => z = pkb (dw ω e) f (wW ω e).1.toNat 10 ∧ τ = σ) 9 [some (vR (wb e)), some (vI f), some (vI (pkb (dw ω e) f (wW ω e).1.toNat k)), some (vI ((k : Int) + 1))] [] gW σ 0 0
  | 0, k, h => by
    refine jwp_sound t_Words_leastBits _ (b_Words_leastBits_9 ?_)
    simp only [RW, true_and, and_true, and_self, true_or, or_true, Nat.reduceLeDiff, Nat.reduceEqDiff, Nat.reduceAdd, Int.reduceLE, Int.reduceLT, Int.reduceEq, Int.reduceNeg, Int.reduceNe, Nat.reduceSub, reduceIte, implies_true]
    refine ⟨fun _ => ?_, fun q => absurd q (by omega)⟩
    rw [show k = 10 by omega]
  | m + 1, k, h => by
    have hW := wb_i he
    have IH := l_leastBits (f := f) hd H W he m (k + 1) (by omega)
    refine jwp_sound t_Words_leastBits _ (b_Words_leastBits_9 ?_)
    simp only [RW, true_and, and_true, and_self, true_or, or_true, Nat.reduceLeDiff, Nat.reduceEqDiff, Nat.reduceAdd, Int.reduceLE, Int.reduceLT, Int.reduceEq, Int.reduceNeg, Int.reduceNe, Nat.reduceSub, reduceIte, implies_true, wd_t hW, wd_r1 hW, wd_t1 hW, wd_r2 hW, wd_t2 hW, wd_r3 hW, wd_t3 hW, wd_r4 hW, wd_t4 hW, wd_r5 hW, wd_t5 hW, wd_r6 hW, wd_t6 hW, wd_r7 hW, wd_t7 hW, wd_r8 hW, wd_t8 hW, wd_r10 hW, wd_t10 hW, wd_r11 hW, wd_t11 hW, wd_r12 hW, wd_t12 hW, wd_r13 hW, wd_t13 hW]
    refine ⟨fun q => absurd q (by omega), fun _ => ?_⟩
    refine cN_p (c_bits H W he (by omega) (by omega)) (by omega) ⟨by omega, ?_⟩
    rw [w32_of (x := (k : Int) + 1 + 1) (by omega) (by omega)]
    exact IH
theorem c_leastBits (H : CDR σ ω) (W : OKW ω) {e : Int} (f : Int) (he : 0 ≤ e ∧ e ≤ 1) : Cw 12 m_Words_leastBits [vR (wb e), vI f] σ (fun z τ => z = pkb (dw ω e) f (wW ω e).1.toNat 10 ∧ τ = σ) := by
  have hW := wb_i he
  refine Cw_of o_Words_leastBits rfl fun l d hd => jwp_sound t_Words_leastBits _ (b_Words_leastBits_0 ?_)
  simp only [RW, true_and, and_true, and_self, true_or, or_true, Nat.reduceLeDiff, Nat.reduceEqDiff, Nat.reduceAdd, Int.reduceLE, Int.reduceLT, Int.reduceEq, Int.reduceNeg, Int.reduceNe, Nat.reduceSub, reduceIte, implies_true, wd_t hW, wd_r1 hW, wd_t1 hW, wd_r2 hW, wd_t2 hW, wd_r3 hW, wd_t3 hW, wd_r4 hW, wd_t4 hW, wd_r5 hW, wd_t5 hW, wd_r6 hW, wd_t6 hW, wd_r7 hW, wd_t7 hW, wd_r8 hW, wd_t8 hW, wd_r10 hW, wd_t10 hW, wd_r11 hW, wd_t11 hW, wd_r12 hW, wd_t12 hW, wd_r13 hW, wd_t13 hW]
  refine cN_p (c_bits H W he (by omega) (by omega)) (by omega) ?_
  exact l_leastBits hd H W he 10 0 (by omega)
theorem c_isForm (C : CFR σ ω) (f : Int) : Cw 16 m_WordPlaces_isForm [vR 1, vI f] σ (fun z τ => z = (if 0 ≤ f ∧ f < dn ω then 1 else 0) ∧ FRQ σ τ ω) := by
  refine Cw_of o_WordPlaces_isForm rfl fun l d hd => jwp_sound t_WordPlaces_isForm _ (b_WordPlaces_isForm_0 ?_)
  simp only [RW, true_and, and_true, and_self, true_or, or_true, Nat.reduceLeDiff, Nat.reduceEqDiff, Nat.reduceAdd, Int.reduceLE, Int.reduceLT, Int.reduceEq, Int.reduceNeg, Int.reduceNe, Nat.reduceSub, reduceIte, implies_true, gt_1]
  refine cN_w (c_freshBook C) (by omega) (fun z τ h => ?_)
  obtain ⟨rfl, h⟩ := h
  have N := h.2.2.n
  simp only [RW, true_and, and_true, and_self, true_or, or_true, Nat.reduceLeDiff, Nat.reduceEqDiff, Nat.reduceAdd, Int.reduceLE, Int.reduceLT, Int.reduceEq, Int.reduceNeg, Int.reduceNe, Nat.reduceSub, reduceIte, implies_true, gt_97, gr_97_2, gr_97_3, gr_97_4, gr_97_5, gr_97_6]
  refine cN_p (c_Book_has N.2.2 (by omega) f) (by omega) ?_
  refine ⟨?_, rfl, h.1⟩
  split <;> simp
theorem c_stands (C : CFR σ ω) (e f i : Int) : Cw 17 m_WordPlaces_stands [vR 1, vI e, vI f, vI i] σ (fun z τ => z = s_stands ω e f i ∧ FRQ σ τ ω) := by
  refine Cw_of o_WordPlaces_stands rfl fun l d hd => jwp_sound t_WordPlaces_stands _ (b_WordPlaces_stands_0 ?_)
  simp only [RW, true_and, and_true, and_self, true_or, or_true, Nat.reduceLeDiff, Nat.reduceEqDiff, Nat.reduceAdd, Int.reduceLE, Int.reduceLT, Int.reduceEq, Int.reduceNeg, Int.reduceNe, Nat.reduceSub, reduceIte, implies_true, gt_1]
  refine cN_p (c_isEdition _ _) (by omega) ?_
  unfold s_stands
  by_cases he : 0 ≤ e ∧ e ≤ 1
  · have hW := wb_i he
    rw [if_pos he]
    refine ⟨fun q => by omega, fun _ => ?_⟩
    refine cN_w (c_isForm C _) (by omega) (fun z τ h => ?_)
    obtain ⟨rfl, h⟩ := h
    by_cases hf : 0 ≤ f ∧ f < dn ω
    · rw [if_pos hf, if_pos ⟨he, hf⟩]
      refine ⟨fun _ => ?_, fun q => by omega⟩
      refine cN_w (c_freshWords (C.of h) he) (by omega) (fun z υ h2 => ?_)
      obtain ⟨rfl, h2⟩ := h2
      simp only [RW, true_and, and_true, and_self, true_or, or_true, Nat.reduceLeDiff, Nat.reduceEqDiff, Nat.reduceAdd, Int.reduceLE, Int.reduceLT, Int.reduceEq, Int.reduceNeg, Int.reduceNe, Nat.reduceSub, reduceIte, implies_true, wd_t hW]
      refine cN_p (c_placeOf h2.2.2 C.1 he _ _) (by omega) ⟨rfl, h.tr h2.1⟩
    · rw [if_neg hf, if_neg (fun x => hf x.2)]
      exact ⟨fun q => absurd rfl q, fun _ => ⟨rfl, h⟩⟩
  · rw [if_neg he, if_neg (fun x => he x.1)]
    exact ⟨fun _ => ⟨rfl, FRQ.rf⟩, fun q => absurd rfl q⟩
theorem c_pack (C : CFR σ ω) (e f k : Int) : Cw 17 m_WordPlaces_pack [vR 1, vI e, vI f, vI k] σ (fun z τ => z = s_pack ω e f k ∧ FRQ σ τ ω) := by
  refine Cw_of o_WordPlaces_pack rfl fun l d hd => jwp_sound t_WordPlaces_pack _ (b_WordPlaces_pack_0 ?_)
  simp only [RW, true_and, and_true, and_self, true_or, or_true, Nat.reduceLeDiff, Nat.reduceEqDiff, Nat.reduceAdd, Int.reduceLE, Int.reduceLT, Int.reduceEq, Int.reduceNeg, Int.reduceNe, Nat.reduceSub, reduceIte, implies_true, gt_1]
  refine cN_p (c_isEdition _ _) (by omega) ?_
  unfold s_pack
  by_cases he : 0 ≤ e ∧ e ≤ 1
  · have hW := wb_i he
    rw [if_pos he]
    refine ⟨fun q => by omega, fun _ => ?_⟩
    refine cN_w (c_isForm C _) (by omega) (fun z τ h => ?_)
    obtain ⟨rfl, h⟩ := h
    by_cases hf : 0 ≤ f ∧ f < dn ω
    · rw [if_pos hf]
      refine ⟨fun q => by omega, fun _ => ⟨fun q => ⟨by rw [if_neg (by omega)], h⟩, fun q => ⟨fun q2 => ?_, fun q2 => ⟨by rw [if_neg (by omega)], h⟩⟩⟩⟩
      refine cN_w (c_freshWords (C.of h) he) (by omega) (fun z υ h2 => ?_)
      obtain ⟨rfl, h2⟩ := h2
      simp only [RW, true_and, and_true, and_self, true_or, or_true, Nat.reduceLeDiff, Nat.reduceEqDiff, Nat.reduceAdd, Int.reduceLE, Int.reduceLT, Int.reduceEq, Int.reduceNeg, Int.reduceNe, Nat.reduceSub, reduceIte, implies_true, wd_t hW]
      rw [if_pos ⟨he, hf, q, q2⟩]
      refine ⟨fun q3 => ?_, fun q3 => ?_⟩
      · refine cN_p (c_bits h2.2.2 C.1 he (by omega) (by omega)) (by omega) ⟨?_, h.tr h2.1⟩
        rw [if_neg q3]
      · refine cN_p (c_leastBits h2.2.2 C.1 _ he) (by omega) ⟨?_, h.tr h2.1⟩
        rw [if_pos q3]
    · rw [if_neg hf, if_neg (fun x => hf x.2.1)]
      exact ⟨fun _ => ⟨rfl, h⟩, fun q => absurd rfl q⟩
  · rw [if_neg he, if_neg (fun x => he x.1)]
    exact ⟨fun _ => ⟨rfl, FRQ.rf⟩, fun q => absurd rfl q⟩
theorem l_room {τ : jH} {e : Int} (hd : 16 ≤ d) (H : CDR τ ω) (W : OKW ω) (he : 0 ≤ e ∧ e ≤ 1) (F : FRQ σ τ ω) : ∀ (m f : Nat), f + m = (dn ω).toNat →
    Ev (l, (fun _ => 0), 0) d 0 0 m_WordPlaces_room (RW fun z τ => z = sq (fun f => pkb (dw ω e) f (wW ω e).1.toNat 10) (dn ω).toNat ∧ FRQ σ τ ω) 21 [some (vR 1), none, some (vR (wb e)), some (vI (sq (fun f => pkb (dw ω e) f (wW ω e).1.toNat 10) f)), some (vI f)] [] gW τ 0 0
  | 0, f, h => by
    have N := H.n
    refine jwp_sound t_WordPlaces_room _ (b_WordPlaces_room_21 ?_)
    simp only [RW, true_and, and_true, and_self, true_or, or_true, Nat.reduceLeDiff, Nat.reduceEqDiff, Nat.reduceAdd, Int.reduceLE, Int.reduceLT, Int.reduceEq, Int.reduceNeg, Int.reduceNe, Nat.reduceSub, reduceIte, implies_true, gt_1, gr_1_5, gt_97]
    rw [N.2.2]
    refine ⟨fun _ => ⟨?_, F⟩, fun q => absurd q (by omega)⟩
    rw [show (dn ω).toNat = f by omega]
  | m + 1, f, h => by
    have N := H.n
    have hW := wb_i he
    have w := W.n he
    have IH := l_room hd H W he F m (f + 1) (by omega)
    have b1 := pkb_sum (w := dw ω e) (W := (wW ω e).1.toNat) (by omega) f
    have b2 := pkb_r (w := dw ω e) (f := (f : Int)) (W := (wW ω e).1.toNat) (by omega) 10 (by omega)
    refine jwp_sound t_WordPlaces_room _ (b_WordPlaces_room_21 ?_)
    simp only [RW, true_and, and_true, and_self, true_or, or_true, Nat.reduceLeDiff, Nat.reduceEqDiff, Nat.reduceAdd, Int.reduceLE, Int.reduceLT, Int.reduceEq, Int.reduceNeg, Int.reduceNe, Nat.reduceSub, reduceIte, implies_true, gt_1, gr_1_5, gt_97, wd_t hW, wd_r1 hW, wd_t1 hW, wd_r2 hW, wd_t2 hW, wd_r3 hW, wd_t3 hW, wd_r4 hW, wd_t4 hW, wd_r5 hW, wd_t5 hW, wd_r6 hW, wd_t6 hW, wd_r7 hW, wd_t7 hW, wd_r8 hW, wd_t8 hW, wd_r10 hW, wd_t10 hW, wd_r11 hW, wd_t11 hW, wd_r12 hW, wd_t12 hW, wd_r13 hW, wd_t13 hW]
    rw [N.2.2]
    refine ⟨fun q => absurd q (by omega), fun _ => ?_⟩
    refine cN_p (c_leastBits H W _ he) (by omega) ?_
    rw [w32_of (x := _ + _) (by omega) (by omega), w32_of (x := (f : Int) + 1) (by omega) (by omega)]
    exact IH
theorem c_room (C : CFR σ ω) (e : Int) : Cw 16 m_WordPlaces_room [vR 1, vI e] σ (fun z τ => z = s_room ω e ∧ FRQ σ τ ω) := by
  refine Cw_of o_WordPlaces_room rfl fun l d hd => jwp_sound t_WordPlaces_room _ (b_WordPlaces_room_0 ?_)
  simp only [RW, true_and, and_true, and_self, true_or, or_true, Nat.reduceLeDiff, Nat.reduceEqDiff, Nat.reduceAdd, Int.reduceLE, Int.reduceLT, Int.reduceEq, Int.reduceNeg, Int.reduceNe, Nat.reduceSub, reduceIte, implies_true, gt_1, gr_1_5, gt_97]
  refine cN_p (c_isEdition _ _) (by omega) ?_
  unfold s_room
  by_cases he : 0 ≤ e ∧ e ≤ 1
  · rw [if_pos he, if_pos he]
    refine ⟨fun _ => ?_, fun q => by omega⟩
    refine cN_w (c_freshWords C he) (by omega) (fun z υ h2 => ?_)
    obtain ⟨rfl, h2⟩ := h2
    exact l_room hd h2.2.2 C.1 he h2.1 (dn ω).toNat 0 (by omega)
  · rw [if_neg he, if_neg he]
    exact ⟨fun q => absurd rfl q, fun _ => ⟨rfl, FRQ.rf⟩⟩
end CL4
