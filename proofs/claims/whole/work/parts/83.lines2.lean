/-! The class: a line's text, the count of words with it -/
def ltx (t : Int → Int) : Nat → Bool
  | 0 => true
  | n + 1 => ltx t n && decide (isLB (t n))
theorem ltx_iff {t : Int → Int} : ∀ {n : Nat}, ltx t n = true ↔ ∀ k : Int, 0 ≤ k → k < n → isLB (t k)
  | 0 => by
    simp only [ltx, true_iff]
    intro k a b
    omega
  | n + 1 => by
    simp only [ltx, Bool.and_eq_true, decide_eq_true_eq, ltx_iff]
    constructor
    · rintro ⟨a, b⟩ k h0 h1
      by_cases q : k = n
      · rw [q]
        exact b
      · exact a k h0 (by omega)
    · intro h
      exact ⟨fun k a b => h k a (by omega), h n (by omega) (by omega)⟩
/-- the text of a line may be laid -/
abbrev lok (t : Int → Int) (n : Int) : Prop := n ≤ 60 ∧ ltx t n.toNat = true
def LTX (t : Int → Int) (n z : Int) : Prop := z ≠ 0 ↔ lok t n
theorem l_isLineText {l : Launch} {d : Nat} {X nX n : Int} {σ : jH} (hd : 11 ≤ d) (tX : gW.2.1 X = (2, nX)) (hn : n ≤ 60) (hn2 : n ≤ nX) : ∀ (k i : Nat), (i : Int) + k = n → ltx (σ X) i = true →
    Ev (l, (fun _ => 0), 0) d 0 0 m_WordPlaces_isLineText (RW fun z τ => z = b2i (ltx (σ X) n.toNat) ∧ τ = σ) 16 [some (vR X), some (vI n), some (vI i)] [] gW σ 0 0
  | 0, i, h, hi => by
    refine jwp_sound t_WordPlaces_isLineText _ (b_WordPlaces_isLineText_16 ?_)
    simp only [RW, true_and, and_true, and_self, true_or, or_true, Nat.reduceLeDiff, Nat.reduceEqDiff, Nat.reduceAdd, Int.reduceLE, Int.reduceLT, Int.reduceEq, Int.reduceNeg, Int.reduceNe, Nat.reduceSub, reduceIte, implies_true, tX]
    refine ⟨fun _ => ?_, fun q => absurd q (by omega)⟩
    rw [show n.toNat = i by omega, hi]
    simp [b2i]
  | k + 1, i, h, hi => by
    have no : ¬ isLB (σ X i) → ltx (σ X) n.toNat = false := fun q => by
      cases z : ltx (σ X) n.toNat
      · rfl
      · exact absurd (ltx_iff.mp z i (by omega) (by omega)) q
    have yes : isLB (σ X i) → Ev (l, (fun _ => 0), 0) d 0 0 m_WordPlaces_isLineText (RW fun z τ => z = b2i (ltx (σ X) n.toNat) ∧ τ = σ) 16 [some (vR X), some (vI n), some (vI ((i : Int) + 1))] [] gW σ 0 0 := fun q => by
      have := l_isLineText (l := l) (d := d) (σ := σ) hd tX hn hn2 k (i + 1) (by omega) (by simp [ltx, hi, q])
      rwa [show ((i + 1 : Nat) : Int) = (i : Int) + 1 by omega] at this
    refine jwp_sound t_WordPlaces_isLineText _ (b_WordPlaces_isLineText_16 ?_)
    simp only [RW, true_and, and_true, and_self, true_or, or_true, Nat.reduceLeDiff, Nat.reduceEqDiff, Nat.reduceAdd, Int.reduceLE, Int.reduceLT, Int.reduceEq, Int.reduceNeg, Int.reduceNe, Nat.reduceSub, reduceIte, implies_true, tX]
    refine ⟨fun q => absurd q (by omega), fun _ => ⟨by omega, by omega, ?_⟩⟩
    refine cN_p (c_isLetter _ _) (by omega) ?_
    rw [w32_of (x := (i : Int) + 1) (by omega) (by omega)]
    refine ⟨fun q => ?_, fun q => ⟨by omega, by omega, fun q2 => ?_, fun q2 => ⟨by omega, by omega, fun q3 => ?_, fun q3 => ⟨?_, rfl⟩⟩⟩⟩
    · by_cases a : isL (σ X i)
      · exact yes (Or.inl a)
      · rw [if_neg a] at q
        exact absurd rfl q
    · exact yes (Or.inr (Or.inl q2))
    · exact yes (Or.inr (Or.inr q3))
    · rw [no]
      · rfl
      · intro x
        rcases x with x | x | x
        · rw [if_pos x] at q
          omega
        · exact q2 x
        · exact q3 x
theorem c_isLineText {X nX n : Int} (σ : jH) (tX : gW.2.1 X = (2, nX)) (hX : 60 ≤ nX) (h0 : 0 ≤ n) : Cw 11 m_WordPlaces_isLineText [vR X, vI n] σ (fun z τ => LTX (σ X) n z ∧ τ = σ) := by
  refine Cw_of o_WordPlaces_isLineText rfl fun l d hd => jwp_sound t_WordPlaces_isLineText _ (b_WordPlaces_isLineText_0 ?_)
  simp only [RW, true_and, and_true, and_self, true_or, or_true, Nat.reduceLeDiff, Nat.reduceEqDiff, Nat.reduceAdd, Int.reduceLE, Int.reduceLT, Int.reduceEq, Int.reduceNeg, Int.reduceNe, Nat.reduceSub, reduceIte, implies_true, tX]
  refine ⟨fun q => ⟨fun x => absurd rfl x, fun x => absurd x.1 (by omega)⟩, fun q => ⟨fun _ => ?_, fun q2 => absurd q2 (by omega)⟩⟩
  have := l_isLineText (l := l) (d := d) (σ := σ) hd tX q (by omega) n.toNat 0 (by omega) rfl
  refine Ev_post this (fun x τ h => ?_)
  obtain ⟨rfl, rfl⟩ := h
  exact ⟨⟨fun h => ⟨q, b2i_1.mp h⟩, fun h => b2i_1.mpr h.2⟩, rfl⟩
/-- whether the line ahead ends in a dash -/
def dsa (ω : Int → Int) (e j : Int) : Bool := decide (0 < j) && dsh ω e (j - 1)
theorem wal_step {ω : Int → Int} {e : Int} (L : LOK ω e) (j : Nat) (h : (j : Int) < ω (3 + e)) : (wal ω e (j + 1)).1 = (wal ω e j).1 + (nrun ω e j - if dsa ω e j = true ∧ 0 < nrun ω e j then 1 else 0) := by
  rw [wal_count L j h]
  have e1 : (decide (0 < j) && icut ω e ((j : Int) - 1)) = true ↔ dsa ω e j = true ∧ 0 < nrun ω e j := by
    unfold dsa
    simp only [Bool.and_eq_true, decide_eq_true_eq, icut_iff, nrun_pos]
    rw [show (j : Int) - 1 + 1 = j by omega]
    constructor
    · rintro ⟨a, b, c, e⟩
      exact ⟨⟨by omega, b⟩, e⟩
    · rintro ⟨⟨a, b⟩, e⟩
      exact ⟨by omega, b, h, e⟩
  by_cases q : dsa ω e j = true ∧ 0 < nrun ω e j
  · rw [e1.mpr q, if_pos q]
    simp only [b2i, if_true]
    omega
  · have : (decide (0 < j) && icut ω e ((j : Int) - 1)) = false := by
      cases z : (decide (0 < j) && icut ω e ((j : Int) - 1))
      · rfl
      · exact absurd (e1.mp z) q
    rw [this, if_neg q]
    simp [b2i]
theorem wal_r {ω : Int → Int} {e : Int} (L : LOK ω e) : ∀ i : Nat, (i : Int) ≤ ω (3 + e) → -1 * i ≤ (wal ω e i).1 ∧ (wal ω e i).1 ≤ 60 * i
  | 0, _ => by simp [wal]
  | i + 1, h => by
    have IH := wal_r L i (by omega)
    have L3 := L.2.2 i (by omega) (by omega)
    have := nrun_r (ω := ω) (e := e) (i := i) L3.2
    rw [wal_step L i (by omega)]
    split <;> omega
section LC
variable {l : Launch} {d : Nat} {o e i n X nX : Int} {ω : Int → Int} {σ : jH}
theorem nrun_n (Y : LYE ω e i n) : nrun (lay ω e i n (σ X)) e i = rnc (σ X) n.toNat := by
  have Y4 := Y.2.2.2
  unfold nrun
  rw [lay_n Y]
  exact rnc_eq (fun k a b => by rw [bt_n Y a, if_pos (by omega)])
theorem dsh_n (Y : LYE ω e i n) : dsh (lay ω e i n (σ X)) e i = dshT (σ X) n := by
  have Y4 := Y.2.2.2
  unfold dsh dshT
  rw [lay_n Y]
  by_cases q : 2 ≤ n
  · rw [bt_n Y (by omega), bt_n Y (by omega), if_pos (by omega), if_pos (by omega)]
  · have : decide (2 ≤ n) = false := by simpa using q
    rw [this]
    rfl
theorem l_wcw (hd : 12 ≤ d) (hI : isImage o) (tX : gW.2.1 X = (2, nX)) (hX : 60 ≤ nX) (mX : nX < 1000000) (Y : LYE ω e i n) (H : LIN σ o ω e) : ∀ (k j : Nat), (j : Int) + k = lay ω e i n (σ X) (3 + e) →
    Ev (l, (fun _ => 0), 0) d 0 0 m_Image_wordCountWith (RW fun z τ => z = (wW (lay ω e i n (σ X)) e).1 ∧ τ = σ) 27 [some (vR o), some (vI e), some (vI i), some (vR X), some (vI n), some (vI (lay ω e i n (σ X) (3 + e))), some (vI (wal (lay ω e i n (σ X)) e j).1), some (vI (b2i (dsa (lay ω e i n (σ X)) e j))), some (vI j), none, none] [] gW σ 0 0
  | 0, j, h => by
    refine jwp_sound t_Image_wordCountWith _ (b_Image_wordCountWith_27 ?_)
    simp only [RW, true_and, and_true, and_self, true_or, or_true, Nat.reduceLeDiff, Nat.reduceEqDiff, Nat.reduceAdd, Int.reduceLE, Int.reduceLT, Int.reduceEq, Int.reduceNeg, Int.reduceNe, Nat.reduceSub, reduceIte, implies_true]
    refine ⟨fun _ => ?_, fun q => absurd q (by omega)⟩
    unfold wW
    rw [show (lay ω e i n (σ X) (3 + e)).toNat = j by omega]
  | k + 1, j, h => by
    skip
    have L' := lay_LOK (tx := σ X) Y
    have IH := l_wcw hd hI tX hX mX Y H k (j + 1) (by omega)
    have Y' := Y
    obtain ⟨Y1, ⟨L1, L2, L3⟩, Y3, Y4⟩ := Y'
    have hc := lay_c (tx := σ X) Y
    have hr := wal_r L' j (by omega)
    have hn := nrun_r (ω := lay ω e i n (σ X)) (e := e) (i := j) (L'.2.2 j (by omega) (by omega)).2
    rw [wal_step L' j (by omega), show ((j + 1 : Nat) : Int) = (j : Int) + 1 by omega] at IH
    have j40 : (j : Int) < 40 := by have := L'.2.1; omega
    have jn : (j : Int) ≠ i → (j : Int) < ω (3 + e) := fun q => by
      rw [hc] at h
      split at h <;> omega
    have ed : dsa (lay ω e i n (σ X)) e ((j : Int) + 1) = dsh (lay ω e i n (σ X)) e j := by
      unfold dsa
      rw [show (j : Int) + 1 - 1 = j by omega]
      have : decide (0 < (j : Int) + 1) = true := by simp only [decide_eq_true_eq]; omega
      rw [this, Bool.true_and]
    rw [ed] at IH
    have s72 : Ev (l, (fun _ => 0), 0) d 0 0 m_Image_wordCountWith (RW fun z τ => z = (wW (lay ω e i n (σ X)) e).1 ∧ τ = σ) 72 [some (vR o), some (vI e), some (vI i), some (vR X), some (vI n), some (vI (lay ω e i n (σ X) (3 + e))), some (vI (wal (lay ω e i n (σ X)) e j).1), some (vI (b2i (dsa (lay ω e i n (σ X)) e j))), some (vI j), some (vI (40 * e + j)), none] [vI (nrun (lay ω e i n (σ X)) e j)] gW σ 0 0 := by
      have s93 : ∀ x, (x = if dsa (lay ω e i n (σ X)) e j = true ∧ 0 < nrun (lay ω e i n (σ X)) e j then 1 else 0) → Ev (l, (fun _ => 0), 0) d 0 0 m_Image_wordCountWith (RW fun z τ => z = (wW (lay ω e i n (σ X)) e).1 ∧ τ = σ) 93 [some (vR o), some (vI e), some (vI i), some (vR X), some (vI n), some (vI (lay ω e i n (σ X) (3 + e))), none, none, some (vI j), some (vI (40 * e + j)), none] [vI x, vI (nrun (lay ω e i n (σ X)) e j), vI (wal (lay ω e i n (σ X)) e j).1] gW σ 0 0 := fun x hx => by
        rw [← hx] at IH
        have x01 : 0 ≤ x ∧ x ≤ 1 := by
          rw [hx]
          split <;> omega
        refine jwp_sound t_Image_wordCountWith _ (b_Image_wordCountWith_93 ?_)
        simp only [RW, true_and, and_true, and_self, true_or, or_true, Nat.reduceLeDiff, Nat.reduceEqDiff, Nat.reduceAdd, Int.reduceLE, Int.reduceLT, Int.reduceEq, Int.reduceNeg, Int.reduceNe, Nat.reduceSub, reduceIte, implies_true, im_t hI, im_r0 hI, im_t0 hI, im_r1 hI, im_t1 hI, im_r2 hI, im_t2 hI, im_r3 hI, im_t3 hI, im_r4 hI, im_t4 hI, im_r5 hI, im_t5 hI, im_r6 hI, im_t6 hI]
        rw [w32_of (x := (j : Int) + 1) (by omega) (by omega), w32_of (x := nrun _ e j - x) (by omega) (by omega), w32_of (x := (wal _ e j).1 + _) (by omega) (by omega)]
        refine ⟨fun q => ?_, fun q => ?_⟩
        · obtain ⟨a1, a2, a3, a4⟩ := H.2 j (by omega) (jn q)
          have S := SLN_l (tx := σ X) Y Y1 ⟨by omega, by omega⟩ (Or.inr q) (L3 j (by omega) (jn q)).2
          rw [S.dash] at IH
          rw [a4]
          refine ⟨by omega, by omega, fun q2 => ?_, fun q2 => ?_⟩
          · rw [q2] at IH
            exact IH
          · have q3 : b2i (dsh ω e j) = 1 := by
              have := b2i_r (dsh ω e j)
              omega
            rw [q3] at IH
            exact IH
        · refine cN_p (c_endsInDash _ tX (by omega) mX) (by omega) ?_
          have dn : dsh (lay ω e i n (σ X)) e j = dshT (σ X) n := by
            rw [q]
            exact dsh_n Y
          rw [dn] at IH
          exact IH
      refine jwp_sound t_Image_wordCountWith _ (b_Image_wordCountWith_72 ?_)
      refine ⟨fun q => s93 _ ?_, fun q => ⟨fun q2 => s93 _ ?_, fun q2 => s93 _ ?_⟩⟩
      · rw [if_neg]
        intro x
        rw [b2i_0.mp q] at x
        cases x.1
      · rw [if_neg]
        intro x
        omega
      · rw [if_pos ⟨b2i_1.mp q, q2⟩]
    refine jwp_sound t_Image_wordCountWith _ (b_Image_wordCountWith_27 ?_)
    simp only [RW, true_and, and_true, and_self, true_or, or_true, Nat.reduceLeDiff, Nat.reduceEqDiff, Nat.reduceAdd, Int.reduceLE, Int.reduceLT, Int.reduceEq, Int.reduceNeg, Int.reduceNe, Nat.reduceSub, reduceIte, implies_true, im_t hI, im_r0 hI, im_t0 hI, im_r1 hI, im_t1 hI, im_r2 hI, im_t2 hI, im_r3 hI, im_t3 hI, im_r4 hI, im_t4 hI, im_r5 hI, im_t5 hI, im_r6 hI, im_t6 hI]
    refine ⟨fun q => absurd q (by omega), fun _ => ?_⟩
    refine cN_p (c_isEdition _ _) (by omega) ?_
    rw [if_pos Y1, w32_of (x := e * 40) (by omega) (by omega), w32_of (x := e * 40 + _) (by omega) (by omega), show e * 40 + (j : Int) = 40 * e + j by omega]
    refine ⟨fun q => by omega, fun _ => ⟨fun q => ⟨by omega, by omega, ?_⟩, fun q => ?_⟩⟩
    · obtain ⟨a1, a2, a3, a4⟩ := H.2 j (by omega) (jn q)
      have S := SLN_l (tx := σ X) Y Y1 ⟨by omega, by omega⟩ (Or.inr q) (L3 j (by omega) (jn q)).2
      rw [a3, ← S.run (ω' := lay ω e i n (σ X))]
      exact s72
    · refine cN_p (c_runsIn _ tX Y4.1 (by omega) mX) (by omega) ?_
      have rn : nrun (lay ω e i n (σ X)) e j = rnc (σ X) n.toNat := by
        rw [q]
        exact nrun_n Y
      rw [← rn]
      exact s72
theorem c_wordCountWith (hI : isImage o) (tX : gW.2.1 X = (2, nX)) (hX : 60 ≤ nX) (mX : nX < 1000000) (Y : LYE ω e i n) (H : LIN σ o ω e) : Cw 12 m_Image_wordCountWith [vR o, vI e, vI i, vR X, vI n] σ (fun z τ => z = (wW (lay ω e i n (σ X)) e).1 ∧ τ = σ) := by
  skip
  have Y' := Y
  obtain ⟨Y1, ⟨L1, L2, L3⟩, Y3, Y4⟩ := Y'
  have hc := lay_c (tx := σ X) Y
  have L' := lay_LOK (tx := σ X) Y
  refine Cw_of o_Image_wordCountWith rfl fun l d hd => jwp_sound t_Image_wordCountWith _ (b_Image_wordCountWith_0 ?_)
  simp only [RW, true_and, and_true, and_self, true_or, or_true, Nat.reduceLeDiff, Nat.reduceEqDiff, Nat.reduceAdd, Int.reduceLE, Int.reduceLT, Int.reduceEq, Int.reduceNeg, Int.reduceNe, Nat.reduceSub, reduceIte, implies_true, im_t hI, im_r0 hI, im_t0 hI, im_r1 hI, im_t1 hI, im_r2 hI, im_t2 hI, im_r3 hI, im_t3 hI, im_r4 hI, im_t4 hI, im_r5 hI, im_t5 hI, im_r6 hI, im_t6 hI]
  refine cN_p (c_Image_lineCount _ hI Y1) (by omega) ?_
  rw [H.1, w32_of (x := i + 1) (by omega) (by omega)]
  refine ⟨by omega, by omega, ?_⟩
  have em : min 40 (max (ω (3 + e)) (i + 1)) = lay ω e i n (σ X) (3 + e) := by
    rw [hc]
    split <;> omega
  rw [em]
  exact l_wcw hd hI tX hX mX Y H (lay ω e i n (σ X) (3 + e)).toNat 0 (by have := L'.1; omega)
end LC
