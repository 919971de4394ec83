/-! The reference: a line more, a line put right, a line out of a slot -/
theorem RFR.of2 {σ τ : jH} {ω : Int → Int} (R : RFR σ ω) (h : ∀ c, 190 ≤ c → c ≤ 199 → τ c = σ c) (h10 : τ 189 10 = σ 189 10) : RFR τ ω := by
  refine ⟨R.1, R.2.1, R.2.2.1, ?_⟩
  obtain ⟨r1, r2, r3, r4, r5, r6⟩ := R.2.2.2
  refine ⟨by rw [h 190 (by omega) (by omega)]; exact r1, by rw [h10]; exact r2, fun e a b => RWD_eq (r3 e a b) (h 190 (by omega) (by omega)) (h 193 (by omega) (by omega)) (h 195 (by omega) (by omega)) (h 196 (by omega) (by omega)) (h 197 (by omega) (by omega)), fun e p a b c d => by rw [h 194 (by omega) (by omega)]; exact r4 e p a b c d, fun f a b => by rw [h 198 (by omega) (by omega)]; exact r5 f a b, fun i a b => by rw [h 199 (by omega) (by omega)]; exact r6 i a b⟩
def ADR (τ : jH) (ω : Int → Int) (e i n : Int) (t : Int → Int) (v z : Int) : Prop := (s_lf ω e i n t = 0 ∧ z = v ∧ RFR τ (lay ω e i n t)) ∨ (s_lf ω e i n t ≠ 0 ∧ z = s_lf ω e i n t ∧ RFR τ ω)
def FL2 (σ τ : jH) : Prop := (∀ c, (c < 189 ∨ c = 191 ∨ c = 192 ∨ 199 < c) → c ≠ 205 → c ≠ 206 → τ c = σ c) ∧ ∀ j, j ≠ 10 → j ≠ 15 → τ 189 j = σ 189 j
section RF
variable {l : Launch} {d : Nat} {e i n : Int} {ω t : Int → Int} {σ : jH}
theorem s_lf_4 (h : ¬ lok t n) : s_lf ω e i n t = -4 := by
  unfold s_lf
  rw [if_pos h]
theorem s_lf_3 (h : lok t n) (h2 : i < 40) (h3 : 300 < (wW (lay ω e i n t) e).1) : s_lf ω e i n t = -3 := by
  unfold s_lf
  rw [if_neg (show ¬ ¬ lok t n from fun x => x h), if_neg (by omega), if_pos h3]
theorem c_Model_further (R : RFR σ ω) (hal : ALP σ) (he : 0 ≤ e ∧ e ≤ 1) (n0 : 0 ≤ n) (hl : lok t n) (ht : ∀ j, 0 ≤ j → j < n → σ 206 j = t j) : Cw 17 m_Model_further [vR 189, vI e, vI n] σ (fun z τ => ADR τ ω e (ω (3 + e)) n t (ω (3 + e)) z ∧ FLR σ τ) := by
  have e190 : σ 190 = ω := R.2.2.2.1
  have L := (R.1.L he).1
  refine Cw_of o_Model_further rfl fun l d hd => jwp_sound t_Model_further _ (b_Model_further_0 ?_)
  simp only [RW, true_and, and_true, and_self, true_or, or_true, Nat.reduceLeDiff, Nat.reduceEqDiff, Nat.reduceAdd, Int.reduceLE, Int.reduceLT, Int.reduceEq, Int.reduceNeg, Int.reduceNe, Nat.reduceSub, reduceIte, implies_true, gt_189]
  refine cN_p (c_Model_linesOf _ he.1 he.2) (by omega) ?_
  rw [e190]
  refine ⟨fun q => ?_, fun q => ?_⟩
  · have : s_lf ω e (ω (3 + e)) n t = -3 := by
      unfold s_lf
      rw [if_neg (show ¬ ¬ lok t n from fun x => x hl), if_pos (by omega)]
    exact ⟨Or.inr ⟨by omega, this.symm, R⟩, fun _ _ _ => rfl, fun _ _ => rfl⟩
  · have q4 := L.2.1
    have q5 := L.1
    have Y : LYE ω e (ω (3 + e)) n := ⟨he, L, ⟨L.1, by omega, by omega⟩, n0, hl.1⟩
    refine cN_p (c_Model_linesOf _ he.1 he.2) (by omega) ?_
    rw [e190]
    refine cN_w (c_Model_lays R hal Y ht) (by omega) (fun z τ h => ?_)
    obtain ⟨F, h⟩ := h
    rcases h with ⟨h1, rfl, h2⟩ | ⟨h1, rfl, h2⟩
    · refine ⟨fun _ => ?_, fun q => by omega⟩
      refine cN_p (c_Model_linesOf _ he.1 he.2) (by omega) ?_
      rw [h2.2.2.2.1, lay_c Y, if_pos rfl, w32_of (by omega) (by omega)]
      exact ⟨Or.inl ⟨s_lf_0.mpr ⟨hl, by omega, h1⟩, by omega, h2⟩, F⟩
    · refine ⟨fun q => absurd rfl q, fun _ => ?_⟩
      have := s_lf_3 (ω := ω) (e := e) hl (i := ω (3 + e)) (by omega) h1
      exact ⟨Or.inr ⟨by omega, this.symm, h2⟩, F⟩
theorem tln_f {τ : jH} (R : RFR σ ω) (hal : ALP σ) (F : FTL σ τ) : RFR τ ω ∧ ALP τ := by
  refine ⟨R.of2 (fun c a b => F.1 c (by omega) (by omega)) (F.2.1 10 (by omega)), fun x a b => ?_⟩
  rw [F.1 200 (by omega) (by omega)]
  exact hal x a b
theorem fl2_of {τ υ : jH} (F : FTL σ τ) (H : FLR τ υ) : FL2 σ υ ∧ υ 189 15 = 0 := by
  refine ⟨⟨fun c a b b2 => by rw [H.1 c a b, F.1 c (by omega) b2], fun j a b => by rw [H.2 j a, F.2.1 j b]⟩, by rw [H.2 15 (by omega)]; exact F.2.2⟩
theorem fl2_f {τ : jH} (F : FTL σ τ) : FL2 σ τ ∧ τ 189 15 = 0 := ⟨⟨fun c a _ b2 => F.1 c (by omega) b2, fun j _ b => F.2.1 j b⟩, F.2.2⟩
def LNR (σ τ : jH) (ω : Int → Int) (e n : Int) (t : Int → Int) (z : Int) : Prop := ((0 ≤ e ∧ e ≤ 1) ∧ ADR τ ω e (ω (3 + e)) n t (ω (3 + e)) z ∧ FL2 σ τ ∧ τ 189 15 = 0) ∨ (¬ (0 ≤ e ∧ e ≤ 1) ∧ z = -2 ∧ τ = σ)
theorem c_Model_line (R : RFR σ ω) (hal : ALP σ) (T : TPR σ n t) : Cw 18 m_Model_line [vR 189, vI e] σ (fun z τ => LNR σ τ ω e n t z) := by
  refine Cw_of o_Model_line rfl fun l d hd => jwp_sound t_Model_line _ (b_Model_line_0 ?_)
  simp only [RW, true_and, and_true, and_self, true_or, or_true, Nat.reduceLeDiff, Nat.reduceEqDiff, Nat.reduceAdd, Int.reduceLE, Int.reduceLT, Int.reduceEq, Int.reduceNeg, Int.reduceNe, Nat.reduceSub, reduceIte, implies_true, gt_189]
  refine cN_p (c_Model_isEdition _ _) (by omega) ?_
  by_cases he : 0 ≤ e ∧ e ≤ 1
  · rw [if_pos he]
    refine ⟨fun _ => ?_, fun q => by omega⟩
    have n0 := T.2.1.1
    refine cN_w (c_Model_tapeLine T) (by omega) (fun z τ h => ?_)
    obtain ⟨F, h⟩ := h
    obtain ⟨R', hal'⟩ := tln_f R hal F
    rcases h with ⟨h1, rfl, h2⟩ | ⟨h1, rfl⟩
    · refine ⟨fun _ => ?_, fun q => by omega⟩
      refine cN_w (c_Model_further R' hal' he n0 h1 h2) (by omega) (fun z υ h => ?_)
      exact Or.inl ⟨he, h.1, fl2_of F h.2⟩
    · refine ⟨fun q => absurd rfl q, fun _ => ?_⟩
      exact Or.inl ⟨he, Or.inr ⟨by rw [s_lf_4 h1]; omega, (s_lf_4 h1).symm, R'⟩, fl2_f F⟩
  · rw [if_neg he]
    exact ⟨fun q => absurd rfl q, fun _ => Or.inr ⟨he, rfl, rfl⟩⟩
def RGR (σ τ : jH) (ω : Int → Int) (e i n : Int) (t : Int → Int) (z : Int) : Prop := (((0 ≤ e ∧ e ≤ 1) ∧ 0 ≤ i ∧ i < ω (3 + e)) ∧ ADR τ ω e i n t (wW (lay ω e i n t) e).1 z ∧ FL2 σ τ ∧ τ 189 15 = 0) ∨ (¬ ((0 ≤ e ∧ e ≤ 1) ∧ 0 ≤ i ∧ i < ω (3 + e)) ∧ z = -2 ∧ τ = σ)
theorem c_Model_right (R : RFR σ ω) (hal : ALP σ) (T : TPR σ n t) : Cw 17 m_Model_right [vR 189, vI e, vI i] σ (fun z τ => RGR σ τ ω e i n t z) := by
  refine Cw_of o_Model_right rfl fun l d hd => jwp_sound t_Model_right _ (b_Model_right_0 ?_)
  simp only [RW, true_and, and_true, and_self, true_or, or_true, Nat.reduceLeDiff, Nat.reduceEqDiff, Nat.reduceAdd, Int.reduceLE, Int.reduceLT, Int.reduceEq, Int.reduceNeg, Int.reduceNe, Nat.reduceSub, reduceIte, implies_true, gt_189, gr_189_4, gt_193]
  refine cN_p (c_Model_isEdition _ _) (by omega) ?_
  by_cases he : 0 ≤ e ∧ e ≤ 1
  · rw [if_pos he]
    refine ⟨fun q => by omega, fun _ => ?_⟩
    have e190 : σ 190 = ω := R.2.2.2.1
    have L := (R.1.L he).1
    have L1 := L.1
    have L2 := L.2.1
    refine cN_p (c_Model_linesOf _ he.1 he.2) (by omega) ?_
    rw [e190, w32_of (by omega) (by omega)]
    refine cN_p (c_Model_in _ _ _ _) (by omega) ?_
    by_cases hi : 0 ≤ i ∧ i ≤ ω (3 + e) - 1
    · rw [if_pos hi]
      refine ⟨fun _ => ?_, fun q => by omega⟩
      have n0 := T.2.1.1
      refine cN_w (c_Model_tapeLine T) (by omega) (fun z τ h => ?_)
      obtain ⟨F, h⟩ := h
      obtain ⟨R', hal'⟩ := tln_f R hal F
      rcases h with ⟨h1, rfl, h2⟩ | ⟨h1, rfl⟩
      · have Y : LYE ω e i z := ⟨he, L, ⟨hi.1, by omega, by omega⟩, n0, h1.1⟩
        refine ⟨fun _ => ?_, fun q => by omega⟩
        refine cN_w (c_Model_lays R' hal' Y h2) (by omega) (fun x υ h => ?_)
        obtain ⟨H, h⟩ := h
        rcases h with ⟨h3, rfl, h4⟩ | ⟨h3, rfl, h4⟩
        · refine ⟨fun q => by omega, fun _ => ?_⟩
          repeat (refine And.intro (by omega) ?_)
          exact Or.inl ⟨⟨he, by omega, by omega⟩, Or.inl ⟨s_lf_0.mpr ⟨h1, by omega, h3⟩, (h4.W he).1, h4⟩, fl2_of F H⟩
        · refine ⟨fun _ => ?_, fun q => absurd rfl q⟩
          have := s_lf_3 (ω := ω) (e := e) h1 (i := i) (by omega) h3
          exact Or.inl ⟨⟨he, by omega, by omega⟩, Or.inr ⟨by omega, this.symm, h4⟩, fl2_of F H⟩
      · refine ⟨fun q => absurd rfl q, fun _ => ?_⟩
        exact Or.inl ⟨⟨he, by omega, by omega⟩, Or.inr ⟨by rw [s_lf_4 h1]; omega, (s_lf_4 h1).symm, R'⟩, fl2_f F⟩
    · rw [if_neg hi]
      exact ⟨fun q => absurd rfl q, fun _ => Or.inr ⟨fun x => hi (by omega), rfl, rfl⟩⟩
  · rw [if_neg he]
    exact ⟨fun _ => Or.inr ⟨fun x => he x.1, rfl, rfl⟩, fun q => absurd rfl q⟩
end RF
