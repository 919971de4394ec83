/-! Ranks: the class -/
theorem CDR_w {σ τ : jH} {ω : Int → Int} (h : ∀ c, 97 ≤ c → c ≤ 134 → c ≠ 117 → c ≠ 118 → c ≠ 132 → c ≠ 133 → τ c = σ c) (C : CDR σ ω) : CDR τ ω := by
  obtain ⟨c1, c2, c3, c4, c5, c6⟩ := C
  refine ⟨c1, c2, by rw [h 97 (by omega) (by omega) (by omega) (by omega) (by omega) (by omega)]; exact c3, fun f a b => ?_, fun e a b => ?_, fun i a b => by rw [h 101 (by omega) (by omega) (by omega) (by omega) (by omega) (by omega)]; exact c6 i a b⟩
  · have := c4 f a b
    unfold KKV at this ⊢
    rw [h _ (by omega) (by omega) (by omega) (by omega) (by omega) (by omega), h _ (by omega) (by omega) (by omega) (by omega) (by omega) (by omega)]
    exact this
  · have g : ∀ j, 0 ≤ j → j ≤ 14 → j ≠ 12 → j ≠ 13 → τ (wb e + j) = σ (wb e + j) := fun j a b x y => by
      unfold wb
      exact h _ (by omega) (by omega) (by omega) (by omega) (by omega) (by omega)
    have g0 : τ (wb e) = σ (wb e) := by
      have := g 0 (by omega) (by omega) (by omega) (by omega)
      rwa [Int.add_zero] at this
    obtain ⟨d1, d2, d3, d4, d5, d6⟩ := c5 e a b
    refine ⟨CWD_eq d1 (by rw [g0]) (fun c hc => ?_), fun p x y => ?_, fun p x y => ?_, fun p x y => ?_, fun p x y => ?_, ?_⟩
    · have := g (c - wb e) (by omega) (by omega) (by omega) (by omega)
      rwa [show wb e + (c - wb e) = c by omega] at this
    · rw [g 7 (by omega) (by omega) (by omega) (by omega)]
      exact d2 p x y
    · rw [g 8 (by omega) (by omega) (by omega) (by omega)]
      exact d3 p x y
    · rw [g 10 (by omega) (by omega) (by omega) (by omega)]
      exact d4 p x y
    · rw [g 9 (by omega) (by omega) (by omega) (by omega)]
      exact d5 p x y
    · rw [g0]
      exact d6
section RN
variable {l : Launch} {d : Nat} {ω t : Int → Int} {σ : jH} {e n : Int}
theorem c_lineOfPlace (H : CDR σ ω) (W : OKW ω) (he : 0 ≤ e ∧ e ≤ 1) {p : Int} (hp : 0 ≤ p ∧ p < (wW ω e).1) : Cw 10 m_Words_lineOfPlace [vR (wb e), vI p] σ (fun z τ => z = (wW ω e).2.2.1 p ∧ τ = σ) := by
  have hW := wb_i he
  have w := W.n he
  refine Cw_of o_Words_lineOfPlace rfl fun l d hd => jwp_sound t_Words_lineOfPlace _ (b_Words_lineOfPlace_0 ?_)
  simp only [RW, true_and, and_true, and_self, true_or, or_true, Nat.reduceLeDiff, Nat.reduceEqDiff, Nat.reduceAdd, Int.reduceLE, Int.reduceLT, Int.reduceEq, Int.reduceNeg, Int.reduceNe, Nat.reduceSub, reduceIte, implies_true, wd_t hW, wd_r1 hW, wd_t1 hW, wd_r2 hW, wd_t2 hW, wd_r3 hW, wd_t3 hW, wd_r4 hW, wd_t4 hW, wd_r5 hW, wd_t5 hW, wd_r6 hW, wd_t6 hW, wd_r7 hW, wd_t7 hW, wd_r8 hW, wd_t8 hW, wd_r10 hW, wd_t10 hW, wd_r11 hW, wd_t11 hW, wd_r12 hW, wd_t12 hW, wd_r13 hW, wd_t13 hW]
  refine ⟨fun q => absurd q (by omega), fun q => ⟨fun q2 => absurd q2 (by omega), fun q2 => ⟨by omega, by omega, ((H.W he).1.2.1 p hp.1 hp.2).1⟩⟩⟩
/-- one more of a list -/
theorem lat_n {w L : Int → Int} {f i : Int} {W m : Nat} (h : LAT w f W i m) (hi : 0 ≤ i) (hc : i < cq w W f) : LAT w f W (i + 1) ((fnd w f i W).toNat + 1) ∧ 0 ≤ fnd w f i W ∧ fnd w f i W < W ∧ w (fnd w f i W) = f ∧ lwk w L f (fnd w f i W).toNat = lwk w L f m ∧ ∀ j, bgn w L f j (fnd w f i W).toNat = bgn w L f j m := by
  obtain ⟨a1, a2, a3, a4⟩ := lat_s h hi hc (k := 0) (by omega)
  obtain ⟨h1, h2⟩ := h
  rcases fnd_r (w := w) (f := f) (i := i) W with r | ⟨r1, r2, r3, r4⟩
  · omega
  · generalize fnd w f i W = p at *
    have hmp : (m : Int) ≤ p := by
      by_cases q : (m : Int) ≤ p
      · exact q
      · have a := cq_lt (w := w) (W := m) r1 (by omega)
        rw [r3, r4, h2] at a
        omega
    have hno : ∀ q : Int, m ≤ q → q < p → w q ≠ f := by
      intro q q0 q1 e
      have a := cq_lt (w := w) (p := q) (W := p.toNat) (by omega) (by omega)
      have b := cq_le (w := w) (v := f) m (q.toNat - m)
      rw [show m + (q.toNat - m) = q.toNat by omega] at b
      rw [e, r4] at a
      omega
    have key : ∀ k : Nat, (m : Int) + k ≤ p → lwk w L f (m + k) = lwk w L f m ∧ ∀ j, bgn w L f j (m + k) = bgn w L f j m := by
      intro k
      induction k with
      | zero => intro _; exact ⟨rfl, fun _ => rfl⟩
      | succ k ih =>
        intro hk
        obtain ⟨i1, i2⟩ := ih (by omega)
        have nf := hno ((m + k : Nat) : Int) (by omega) (by omega)
        refine ⟨?_, fun j => ?_⟩
        · have e : lwk w L f (m + k + 1) = lwk w L f (m + k) := if_neg nf
          rw [show m + (k + 1) = m + k + 1 by omega, e, i1]
        · show (bgn w L f j (m + k) || (decide (w ((m + k : Nat) : Int) = f) && decide (L ((m + k : Nat) : Int) = j))) = _
          rw [decide_eq_false nf, Bool.false_and, Bool.or_false, i2]
    have := key (p.toNat - m) (by omega)
    rw [show m + (p.toNat - m) = p.toNat by omega] at this
    exact ⟨a1, r1, r2, r3, this⟩
/-- no more of a list -/
theorem lat_x {w L : Int → Int} {f i : Int} {W m : Nat} (h : LAT w f W i m) (hc : cq w W f ≤ i) : lwk w L f W = lwk w L f m ∧ ∀ j, bgn w L f j W = bgn w L f j m := by
  obtain ⟨h1, h2⟩ := h
  have hno : ∀ q : Int, m ≤ q → q < W → w q ≠ f := by
    intro q q0 q1 e
    have a := cq_lt (w := w) (p := q) (W := W) (by omega) (by omega)
    have b := cq_le (w := w) (v := f) m (q.toNat - m)
    rw [show m + (q.toNat - m) = q.toNat by omega] at b
    rw [e] at a
    omega
  have key : ∀ k : Nat, m + k ≤ W → lwk w L f (m + k) = lwk w L f m ∧ ∀ j, bgn w L f j (m + k) = bgn w L f j m := by
    intro k
    induction k with
    | zero => intro _; exact ⟨rfl, fun _ => rfl⟩
    | succ k ih =>
      intro hk
      obtain ⟨i1, i2⟩ := ih (by omega)
      have nf := hno ((m + k : Nat) : Int) (by omega) (by omega)
      refine ⟨?_, fun j => ?_⟩
      · have e : lwk w L f (m + k + 1) = lwk w L f (m + k) := if_neg nf
        rw [show m + (k + 1) = m + k + 1 by omega, e, i1]
      · show (bgn w L f j (m + k) || (decide (w ((m + k : Nat) : Int) = f) && decide (L ((m + k : Nat) : Int) = j))) = _
        rw [decide_eq_false nf, Bool.false_and, Bool.or_false, i2]
  have := key (W - m) (by omega)
  rw [show m + (W - m) = W by omega] at this
  exact this
theorem lwk_s {w L : Int → Int} {f p : Int} (p0 : 0 ≤ p) (h : w p = f) : lwk w L f (p.toNat + 1) = ((lwk w L f p.toNat).1 + (if L p = (lwk w L f p.toNat).2 then 0 else 1), L p) := by
  have e : ((p.toNat : Nat) : Int) = p := by omega
  show (if w ((p.toNat : Nat) : Int) = f then ((lwk w L f p.toNat).1 + (if L ((p.toNat : Nat) : Int) = (lwk w L f p.toNat).2 then 0 else 1), L ((p.toNat : Nat) : Int)) else _) = _
  rw [e, if_pos h]
theorem bgn_s {w L : Int → Int} {f p j : Int} (p0 : 0 ≤ p) (h : w p = f) : bgn w L f j (p.toNat + 1) = true ↔ bgn w L f j p.toNat = true ∨ L p = j := by
  have e : ((p.toNat : Nat) : Int) = p := by omega
  show (bgn w L f j p.toNat || (decide (w ((p.toNat : Nat) : Int) = f) && decide (L ((p.toNat : Nat) : Int) = j))) = true ↔ _
  rw [e, decide_eq_true h, Bool.true_and, Bool.or_eq_true, decide_eq_true_eq]
theorem lwk_r (w L : Int → Int) (f : Int) : ∀ m : Nat, 0 ≤ (lwk w L f m).1 ∧ (lwk w L f m).1 ≤ m
  | 0 => ⟨Int.le_refl _, Int.le_refl _⟩
  | m + 1 => by
    have := lwk_r w L f m
    simp only [lwk]
    split
    · show 0 ≤ (lwk w L f m).1 + _ ∧ (lwk w L f m).1 + _ ≤ _
      split <;> omega
    · omega
theorem l_lw_7 {f : Int} (hd : 11 ≤ d) (H : CDR σ ω) (W : OKW ω) (he : 0 ≤ e ∧ e ≤ 1) : ∀ (k m : Nat) (i : Int), cq (dw ω e) (wW ω e).1.toNat f - i ≤ k → 0 ≤ i → i ≤ 1000 → LAT (dw ω e) f (wW ω e).1.toNat i m →
    Ev (l, (fun _ => 0), 0) d 0 0 m_Words_linesWith (RW fun z τ => z = lnn ω e f ∧ τ = σ) 7 [some (vR (wb e)), some (vI f), some (vI (lwk (dw ω e) (wW ω e).2.2.1 f m).1), some (vI (lwk (dw ω e) (wW ω e).2.2.1 f m).2), some (vI i), none] [] gW σ 0 0
  | 0, m, i, hk, i0, i1, A => by
    have hW := wb_i he
    refine jwp_sound t_Words_linesWith _ (b_Words_linesWith_7 ?_)
    simp only [RW, true_and, and_true, and_self, true_or, or_true, Nat.reduceLeDiff, Nat.reduceEqDiff, Nat.reduceAdd, Int.reduceLE, Int.reduceLT, Int.reduceEq, Int.reduceNeg, Int.reduceNe, Nat.reduceSub, reduceIte, implies_true, wd_t hW, wd_r1 hW, wd_t1 hW, wd_r2 hW, wd_t2 hW, wd_r3 hW, wd_t3 hW, wd_r4 hW, wd_t4 hW, wd_r5 hW, wd_t5 hW, wd_r6 hW, wd_t6 hW, wd_r7 hW, wd_t7 hW, wd_r8 hW, wd_t8 hW, wd_r10 hW, wd_t10 hW, wd_r11 hW, wd_t11 hW, wd_r12 hW, wd_t12 hW, wd_r13 hW, wd_t13 hW]
    refine cN_p (c_oftenOf H W he f) (by omega) ?_
    refine ⟨fun _ => ?_, fun q => absurd q (by omega)⟩
    rw [← (lat_x A (by omega)).1]
    exact ⟨lnn_lwk (W.n he).2.2, rfl⟩
  | k + 1, m, i, hk, i0, i1, A => by
    have hW := wb_i he
    have w := W.n he
    have r := cq_r (dw ω e) f (wW ω e).1.toNat
    have r2 := lwk_r (dw ω e) (wW ω e).2.2.1 f m
    have a1 := A.1
    refine jwp_sound t_Words_linesWith _ (b_Words_linesWith_7 ?_)
    simp only [RW, true_and, and_true, and_self, true_or, or_true, Nat.reduceLeDiff, Nat.reduceEqDiff, Nat.reduceAdd, Int.reduceLE, Int.reduceLT, Int.reduceEq, Int.reduceNeg, Int.reduceNe, Nat.reduceSub, reduceIte, implies_true, wd_t hW, wd_r1 hW, wd_t1 hW, wd_r2 hW, wd_t2 hW, wd_r3 hW, wd_t3 hW, wd_r4 hW, wd_t4 hW, wd_r5 hW, wd_t5 hW, wd_r6 hW, wd_t6 hW, wd_r7 hW, wd_t7 hW, wd_r8 hW, wd_t8 hW, wd_r10 hW, wd_t10 hW, wd_r11 hW, wd_t11 hW, wd_r12 hW, wd_t12 hW, wd_r13 hW, wd_t13 hW]
    refine cN_p (c_oftenOf H W he f) (by omega) ?_
    refine ⟨fun q => ?_, fun q => ?_⟩
    · rw [← (lat_x A (by omega)).1]
      exact ⟨lnn_lwk (W.n he).2.2, rfl⟩
    · obtain ⟨b1, b2, b3, b4, b5, b6⟩ := lat_n (L := (wW ω e).2.2.1) A i0 q
      refine cN_p (c_placeOf H W he f i) (by omega) ?_
      refine cN_p (c_lineOfPlace H W he ⟨b2, by omega⟩) (by omega) ?_
      have IH := l_lw_7 (f := f) hd H W he k _ (i + 1) (by omega) (by omega) (by omega) b1
      rw [lwk_s b2 b4, b5] at IH
      rw [w32_of (x := i + 1) (by omega) (by omega), w32_of (x := _ + 0) (by omega) (by omega), w32_of (x := _ + 1) (by omega) (by omega)]
      refine ⟨fun g => ?_, fun g => ?_⟩
      · rw [if_pos g] at IH
        exact IH
      · rw [if_neg g] at IH
        exact IH
theorem c_linesWith (H : CDR σ ω) (W : OKW ω) (he : 0 ≤ e ∧ e ≤ 1) (f : Int) : Cw 11 m_Words_linesWith [vR (wb e), vI f] σ (fun z τ => z = lnn ω e f ∧ τ = σ) := by
  have w := W.n he
  have r := cq_r (dw ω e) f (wW ω e).1.toNat
  refine Cw_of o_Words_linesWith rfl fun l d hd => jwp_sound t_Words_linesWith _ (b_Words_linesWith_0 ?_)
  exact l_lw_7 hd H W he 1000 0 0 (by omega) (by omega) (by omega) ⟨by omega, rfl⟩
end RN
