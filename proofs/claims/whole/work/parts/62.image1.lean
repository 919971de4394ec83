/-! The class: lines of an image -/
theorem c_isLetter (b : Int) (σ : jH) : Cw 10 m_WordPlaces_isLetter [vI b] σ (fun z τ => z = (if isL b then 1 else 0) ∧ τ = σ) := by
  refine Cw_of o_WordPlaces_isLetter rfl fun l d hd => jwp_sound t_WordPlaces_isLetter _ (b_WordPlaces_isLetter_0 ?_)
  simp only [RW, true_and, and_true, and_self, true_or, or_true, Nat.reduceLeDiff, Nat.reduceEqDiff, Nat.reduceAdd, Int.reduceLE, Int.reduceLT, Int.reduceEq, Int.reduceNeg, Int.reduceNe, Nat.reduceSub, reduceIte, implies_true]
  grind
theorem c_isEdition (e : Int) (σ : jH) : Cw 10 m_WordPlaces_isEdition [vI e] σ (fun z τ => z = (if 0 ≤ e ∧ e ≤ 1 then 1 else 0) ∧ τ = σ) := by
  refine Cw_of o_WordPlaces_isEdition rfl fun l d hd => jwp_sound t_WordPlaces_isEdition _ (b_WordPlaces_isEdition_0 ?_)
  simp only [RW, true_and, and_true, and_self, true_or, or_true, Nat.reduceLeDiff, Nat.reduceEqDiff, Nat.reduceAdd, Int.reduceLE, Int.reduceLT, Int.reduceEq, Int.reduceNeg, Int.reduceNe, Nat.reduceSub, reduceIte, implies_true]
  grind
theorem c_Image_lineCount {o e : Int} (σ : jH) (hI : isImage o) (he : 0 ≤ e ∧ e ≤ 1) : Cw 11 m_Image_lineCount [vR o, vI e] σ (fun z τ => z = σ (o + 19) e ∧ τ = σ) := by
  skip
  refine Cw_of o_Image_lineCount rfl fun l d hd => jwp_sound t_Image_lineCount _ (b_Image_lineCount_0 ?_)
  simp only [RW, true_and, and_true, and_self, true_or, or_true, Nat.reduceLeDiff, Nat.reduceEqDiff, Nat.reduceAdd, Int.reduceLE, Int.reduceLT, Int.reduceEq, Int.reduceNeg, Int.reduceNe, Nat.reduceSub, reduceIte, implies_true, im_t hI, im_r0 hI, im_t0 hI, im_r1 hI, im_t1 hI, im_r2 hI, im_t2 hI, im_r3 hI, im_t3 hI, im_r4 hI, im_t4 hI, im_r5 hI, im_t5 hI, im_r6 hI, im_t6 hI]
  refine cN_p (c_isEdition _ _) (by omega) ?_
  rw [if_pos he]
  exact ⟨fun q => by omega, fun _ => ⟨by omega, by omega, rfl, rfl⟩⟩
theorem c_Image_lengthAt {o i : Int} (σ : jH) (hI : isImage o) (h0 : 0 ≤ i) (h1 : i < 80) : Cw 10 m_Image_lengthAt [vR o, vI i] σ (fun z τ => z = σ (o + 16) i ∧ τ = σ) := by
  refine Cw_of o_Image_lengthAt rfl fun l d hd => jwp_sound t_Image_lengthAt _ (b_Image_lengthAt_0 ?_)
  simp only [RW, true_and, and_true, and_self, true_or, or_true, Nat.reduceLeDiff, Nat.reduceEqDiff, Nat.reduceAdd, Int.reduceLE, Int.reduceLT, Int.reduceEq, Int.reduceNeg, Int.reduceNe, Nat.reduceSub, reduceIte, implies_true, im_t hI, im_r0 hI, im_t0 hI, im_r1 hI, im_t1 hI, im_r2 hI, im_t2 hI, im_r3 hI, im_t3 hI, im_r4 hI, im_t4 hI, im_r5 hI, im_t5 hI, im_r6 hI, im_t6 hI]
  exact ⟨fun q => by omega, fun _ => ⟨fun q => by omega, fun _ => ⟨by omega, by omega⟩⟩⟩
theorem c_Image_byteAt {o i : Int} (σ : jH) (hI : isImage o) (h0 : 0 ≤ i) (h1 : i < 4800) : Cw 10 m_Image_byteAt [vR o, vI i] σ (fun z τ => z = σ (o + 15) i ∧ τ = σ) := by
  refine Cw_of o_Image_byteAt rfl fun l d hd => jwp_sound t_Image_byteAt _ (b_Image_byteAt_0 ?_)
  simp only [RW, true_and, and_true, and_self, true_or, or_true, Nat.reduceLeDiff, Nat.reduceEqDiff, Nat.reduceAdd, Int.reduceLE, Int.reduceLT, Int.reduceEq, Int.reduceNeg, Int.reduceNe, Nat.reduceSub, reduceIte, implies_true, im_t hI, im_r0 hI, im_t0 hI, im_r1 hI, im_t1 hI, im_r2 hI, im_t2 hI, im_r3 hI, im_t3 hI, im_r4 hI, im_t4 hI, im_r5 hI, im_t5 hI, im_r6 hI, im_t6 hI]
  exact ⟨fun q => by omega, fun _ => ⟨fun q => by omega, fun _ => ⟨by omega, by omega⟩⟩⟩
theorem l_runsIn {l : Launch} {d : Nat} {X nX n : Int} {σ : jH} (hd : 11 ≤ d) (tX : gW.2.1 X = (2, nX)) (hn : n ≤ nX) (mX : nX < 1000000) : ∀ (k : Nat) (i : Nat), (i : Int) + k = n →
    Ev (l, (fun _ => 0), 0) d 0 0 m_Image_runsIn (RW fun z τ => z = rnc (σ X) n.toNat ∧ τ = σ) 7 [some (vR X), some (vI n), some (vI (rnc (σ X) i)), some (vI (if 0 < i ∧ isL (σ X ((i : Int) - 1)) then 1 else 0)), some (vI i), none] [] gW σ 0 0
  | 0, i, h => by
    refine jwp_sound t_Image_runsIn _ (b_Image_runsIn_7 ?_)
    simp only [RW, true_and, and_true, and_self, true_or, or_true, Nat.reduceLeDiff, Nat.reduceEqDiff, Nat.reduceAdd, Int.reduceLE, Int.reduceLT, Int.reduceEq, Int.reduceNeg, Int.reduceNe, Nat.reduceSub, reduceIte, implies_true, tX]
    refine ⟨fun _ => ?_, fun q => absurd q (by omega)⟩
    rw [show n.toNat = i by omega]
  | k + 1, i, h => by
    have IH := l_runsIn (l := l) (d := d) (σ := σ) hd tX hn mX k (i + 1) (by omega)
    have hr := rnc_0 (σ X) i
    have e1 : ((i + 1 : Nat) : Int) - 1 = i := by omega
    have e2 : ((i + 1 : Nat) : Int) = (i : Int) + 1 := by omega
    rw [e1, e2] at IH
    refine jwp_sound t_Image_runsIn _ (b_Image_runsIn_7 ?_)
    simp only [RW, true_and, and_true, and_self, true_or, or_true, Nat.reduceLeDiff, Nat.reduceEqDiff, Nat.reduceAdd, Int.reduceLE, Int.reduceLT, Int.reduceEq, Int.reduceNeg, Int.reduceNe, Nat.reduceSub, reduceIte, implies_true, tX]
    refine ⟨fun q => absurd q (by omega), fun _ => ⟨fun q => absurd q (by omega), fun _ => ⟨by omega, by omega, ?_⟩⟩⟩
    refine cN_p (c_isLetter _ _) (by omega) ?_
    rw [w32_of (x := (i : Int) + 1) (by omega) (by omega), w32_of (x := rnc (σ X) i + 0) (by omega) (by omega), w32_of (x := rnc (σ X) i + 1) (by omega) (by omega)]
    have hrn : rnc (σ X) (i + 1) = rnc (σ X) i + (if isL (σ X i) ∧ ¬ (0 < i ∧ isL (σ X ((i : Int) - 1))) then 1 else 0) := rfl
    rw [hrn] at IH
    by_cases q1 : isL (σ X i)
    · rw [if_pos q1]
      by_cases q4 : 0 < i ∧ isL (σ X ((i : Int) - 1))
      · rw [if_neg (fun x => x.2 q4), if_pos ⟨by omega, q1⟩] at IH
        rw [if_pos q4]
        exact ⟨fun q => by omega, fun _ => ⟨fun _ => IH, fun q => by omega⟩⟩
      · rw [if_pos ⟨q1, q4⟩, if_pos ⟨by omega, q1⟩] at IH
        rw [if_neg q4]
        exact ⟨fun q => by omega, fun _ => ⟨fun q => absurd rfl q, fun _ => IH⟩⟩
    · rw [if_neg (fun x => q1 x.1), if_neg (fun x => q1 x.2)] at IH
      rw [if_neg q1]
      exact ⟨fun _ => IH, fun q => absurd rfl q⟩
theorem c_runsIn {X nX n : Int} (σ : jH) (tX : gW.2.1 X = (2, nX)) (h0 : 0 ≤ n) (hn : n ≤ nX) (mX : nX < 1000000) : Cw 11 m_Image_runsIn [vR X, vI n] σ (fun z τ => z = rnc (σ X) n.toNat ∧ τ = σ) := by
  refine Cw_of o_Image_runsIn rfl fun l d hd => jwp_sound t_Image_runsIn _ (b_Image_runsIn_0 ?_)
  exact l_runsIn hd tX hn mX n.toNat 0 (by omega)
theorem c_endsInDash {X nX n : Int} (σ : jH) (tX : gW.2.1 X = (2, nX)) (hn : n ≤ nX) (mX : nX < 1000000) : Cw 11 m_Image_endsInDash [vR X, vI n] σ (fun z τ => z = b2i (dshT (σ X) n) ∧ τ = σ) := by
  refine Cw_of o_Image_endsInDash rfl fun l d hd => jwp_sound t_Image_endsInDash _ (b_Image_endsInDash_0 ?_)
  simp only [RW, true_and, and_true, and_self, true_or, or_true, Nat.reduceLeDiff, Nat.reduceEqDiff, Nat.reduceAdd, Int.reduceLE, Int.reduceLT, Int.reduceEq, Int.reduceNeg, Int.reduceNe, Nat.reduceSub, reduceIte, implies_true, tX]
  unfold dshT
  refine ⟨fun q => ?_, fun q => ⟨fun q2 => absurd q2 (by omega), fun _ => ?_⟩⟩
  · have : decide (2 ≤ n) = false := by simp; omega
    rw [this]
    simp [b2i]
  · have h2 : decide (2 ≤ n) = true := by simp; omega
    rw [h2, w32_of (x := n - 1) (by omega) (by omega), w32_of (x := n - 2) (by omega) (by omega)]
    refine ⟨by omega, by omega, fun q3 => ?_, fun q3 => ⟨by omega, by omega, ?_⟩⟩
    · simp [q3, b2i]
    · refine cN_p (c_isLetter _ _) (by omega) ?_
      by_cases q4 : isL (σ X (n - 2))
      · rw [if_pos q4]
        refine ⟨fun q => by omega, fun _ => ⟨?_, rfl⟩⟩
        simp [q3, q4, b2i]
      · rw [if_neg q4]
        refine ⟨fun _ => ⟨?_, rfl⟩, fun q => absurd rfl q⟩
        simp only [q4, decide_false, Bool.and_false]
        rfl
/-- the lines of an image are those of a row -/
def LIN (σ : jH) (o : Int) (ω : Int → Int) (e : Int) : Prop := σ (o + 19) e = ω (3 + e) ∧ ∀ i, 0 ≤ i → i < ω (3 + e) → σ (o + 16) (40 * e + i) = ω (lA e i) ∧ (∀ k, 0 ≤ k → k < ω (lA e i) → σ (o + 15) ((40 * e + i) * 60 + k) = ω (lA e i + 1 + k)) ∧ σ (o + 17) (40 * e + i) = nrun ω e i ∧ σ (o + 18) (40 * e + i) = b2i (dsh ω e i)
theorem b2i_r (b : Bool) : 0 ≤ b2i b ∧ b2i b ≤ 1 := by
  unfold b2i
  split <;> omega
theorem b2i_1 {b : Bool} : b2i b ≠ 0 ↔ b = true := by
  cases b
  · simp [b2i]
  · simp [b2i]
theorem b2i_0 {b : Bool} : b2i b = 0 ↔ b = false := by
  cases b
  · simp [b2i]
  · simp [b2i]
theorem nrun_r {ω : Int → Int} {e i : Int} (h : ω (lA e i) ≤ 60) : 0 ≤ nrun ω e i ∧ nrun ω e i ≤ 60 := by
  have := rnc_0 (bt ω e i) (ω (lA e i)).toNat
  unfold nrun
  omega
theorem c_Image_isCut {o e i : Int} {ω : Int → Int} (σ : jH) (hI : isImage o) (he : 0 ≤ e ∧ e ≤ 1) (L : LOK ω e) (H : LIN σ o ω e) (h0 : 0 ≤ i) (h1 : i < ω (3 + e)) : Cw 11 m_Image_isCut [vR o, vI e, vI i] σ (fun z τ => z = b2i (icut ω e i) ∧ τ = σ) := by
  skip
  obtain ⟨L1, L2, L3⟩ := L
  obtain ⟨H1, H2⟩ := H
  obtain ⟨a1, a2, a3, a4⟩ := H2 i h0 h1
  refine Cw_of o_Image_isCut rfl fun l d hd => jwp_sound t_Image_isCut _ (b_Image_isCut_0 ?_)
  simp only [RW, true_and, and_true, and_self, true_or, or_true, Nat.reduceLeDiff, Nat.reduceEqDiff, Nat.reduceAdd, Int.reduceLE, Int.reduceLT, Int.reduceEq, Int.reduceNeg, Int.reduceNe, Nat.reduceSub, reduceIte, implies_true, im_t hI, im_r0 hI, im_t0 hI, im_r1 hI, im_t1 hI, im_r2 hI, im_t2 hI, im_r3 hI, im_t3 hI, im_r4 hI, im_t4 hI, im_r5 hI, im_t5 hI, im_r6 hI, im_t6 hI]
  refine cN_p (c_isEdition _ _) (by omega) ?_
  rw [if_pos he, H1, w32_of (x := i + 1) (by omega) (by omega), w32_of (x := e * 40) (by omega) (by omega), w32_of (x := e * 40 + i) (by omega) (by omega), w32_of (x := e * 40 + i + 1) (by omega) (by omega), show e * 40 + i = 40 * e + i by omega, a4]
  refine ⟨fun q => by omega, fun _ => ⟨fun q => absurd q (by omega), fun _ => ⟨by omega, by omega, fun q => ?_, fun q => ⟨fun q2 => ⟨by omega, by omega, fun q3 => ?_, fun q3 => ?_⟩, fun q2 => absurd q2 (by omega)⟩⟩⟩⟩
  · refine ⟨?_, rfl⟩
    have : icut ω e i = false := by
      cases hz : icut ω e i
      · rfl
      · have := (icut_iff.mp hz).2.1
        omega
    rw [this]
    rfl
  · refine ⟨?_, rfl⟩
    have : icut ω e i = false := by
      cases hz : icut ω e i
      · rfl
      · have := (icut_iff.mp hz).1
        rw [this] at q3
        cases q3
    rw [this]
    rfl
  · obtain ⟨c1, c2, c3, c4⟩ := H2 (i + 1) (by omega) q
    rw [show 40 * e + i + 1 = 40 * e + (i + 1) by omega, c3]
    have hd : dsh ω e i = true := b2i_1.mp q3
    refine ⟨by omega, by omega, fun q4 => ⟨?_, rfl⟩, fun q4 => ⟨?_, rfl⟩⟩
    · have : icut ω e i = false := by
        cases hz : icut ω e i
        · rfl
        · have := nrun_pos.mpr (icut_iff.mp hz).2.2
          omega
      rw [this]
      rfl
    · rw [icut_iff.mpr ⟨hd, q, nrun_pos.mp q4⟩]
      rfl
theorem wsum_r {ω : Int → Int} {e : Int} (L : LOK ω e) : ∀ i : Nat, (i : Int) ≤ ω (3 + e) → -1 * i ≤ wsum ω e i ∧ wsum ω e i ≤ 60 * i
  | 0, _ => by simp [wsum]
  | i + 1, h => by
    have IH := wsum_r L i (by omega)
    have L3 := L.2.2 i (by omega) (by omega)
    have := nrun_r (ω := ω) (e := e) (i := i) L3.2
    have := b2i_r (icut ω e i)
    simp only [wsum]
    omega
theorem l_wordCount {l : Launch} {d : Nat} {o e : Int} {ω : Int → Int} {σ : jH} (hd : 12 ≤ d) (hI : isImage o) (he : 0 ≤ e ∧ e ≤ 1) (L : LOK ω e) (H : LIN σ o ω e) : ∀ (k i : Nat), i + k = (ω (3 + e)).toNat →
    Ev (l, (fun _ => 0), 0) d 0 0 m_Image_wordCount (RW fun z τ => z = (wW ω e).1 ∧ τ = σ) 4 [some (vR o), some (vI e), some (vI (wsum ω e i)), some (vI i)] [] gW σ 0 0
  | 0, i, h => by
    skip
    have L' := L
    obtain ⟨L1, L2, L3⟩ := L'
    refine jwp_sound t_Image_wordCount _ (b_Image_wordCount_4 ?_)
    simp only [RW, true_and, and_true, and_self, true_or, or_true, Nat.reduceLeDiff, Nat.reduceEqDiff, Nat.reduceAdd, Int.reduceLE, Int.reduceLT, Int.reduceEq, Int.reduceNeg, Int.reduceNe, Nat.reduceSub, reduceIte, implies_true, im_t hI, im_r0 hI, im_t0 hI, im_r1 hI, im_t1 hI, im_r2 hI, im_t2 hI, im_r3 hI, im_t3 hI, im_r4 hI, im_t4 hI, im_r5 hI, im_t5 hI, im_r6 hI, im_t6 hI]
    refine cN_p (c_Image_lineCount _ hI he) (by omega) ?_
    rw [H.1]
    refine ⟨fun _ => ⟨?_, rfl⟩, fun q => absurd q (by omega)⟩
    rw [wW_sum L, show (ω (3 + e)).toNat = i by omega]
  | k + 1, i, h => by
    skip
    have L' := L
    obtain ⟨L1, L2, L3⟩ := L'
    have IH := l_wordCount (l := l) hd hI he L H k (i + 1) (by omega)
    have hs := wsum_r L i (by omega)
    have hn := nrun_r (ω := ω) (e := e) (i := i) (L3 i (by omega) (by omega)).2
    obtain ⟨a1, a2, a3, a4⟩ := H.2 i (by omega) (by omega)
    refine jwp_sound t_Image_wordCount _ (b_Image_wordCount_4 ?_)
    simp only [RW, true_and, and_true, and_self, true_or, or_true, Nat.reduceLeDiff, Nat.reduceEqDiff, Nat.reduceAdd, Int.reduceLE, Int.reduceLT, Int.reduceEq, Int.reduceNeg, Int.reduceNe, Nat.reduceSub, reduceIte, implies_true, im_t hI, im_r0 hI, im_t0 hI, im_r1 hI, im_t1 hI, im_r2 hI, im_t2 hI, im_r3 hI, im_t3 hI, im_r4 hI, im_t4 hI, im_r5 hI, im_t5 hI, im_r6 hI, im_t6 hI]
    refine cN_p (c_Image_lineCount _ hI he) (by omega) ?_
    rw [H.1, w32_of (x := e * 40) (by omega) (by omega), w32_of (x := e * 40 + i) (by omega) (by omega), w32_of (x := (i : Int) + 1) (by omega) (by omega), show e * 40 + (i : Int) = 40 * e + i by omega, a3]
    refine ⟨fun q => absurd q (by omega), fun _ => ⟨fun q => absurd q (by omega), fun _ => ⟨by omega, by omega, ?_⟩⟩⟩
    refine cN_p (c_Image_isCut _ hI he L H (by omega) (by omega)) (by omega) ?_
    rw [w32_of (x := nrun ω e i - 0) (by omega) (by omega), w32_of (x := nrun ω e i - 1) (by omega) (by omega), w32_of (x := wsum ω e i + (nrun ω e i - 0)) (by omega) (by omega), w32_of (x := wsum ω e i + (nrun ω e i - 1)) (by omega) (by omega)]
    have e3 : wsum ω e (i + 1) = wsum ω e i + (nrun ω e i - b2i (icut ω e i)) := rfl
    rw [e3] at IH
    refine ⟨fun q => ?_, fun q => ?_⟩
    · rw [q] at IH
      exact IH
    · have q2 : b2i (icut ω e i) = 1 := by
        have := b2i_r (icut ω e i)
        omega
      rw [q2] at IH
      exact IH
theorem c_Image_wordCount {o e : Int} {ω : Int → Int} (σ : jH) (hI : isImage o) (he : 0 ≤ e ∧ e ≤ 1) (L : LOK ω e) (H : LIN σ o ω e) : Cw 12 m_Image_wordCount [vR o, vI e] σ (fun z τ => z = (wW ω e).1 ∧ τ = σ) := by
  refine Cw_of o_Image_wordCount rfl fun l d hd => jwp_sound t_Image_wordCount _ (b_Image_wordCount_0 ?_)
  exact l_wordCount hd hI he L H (ω (3 + e)).toNat 0 (by omega)
