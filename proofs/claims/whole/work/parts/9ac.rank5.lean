/-! Ranks: the class's rank, the end -/
theorem rks_0 {g : Int → Int} {i : Nat} (h : g i ≤ 0) : rks g (i + 1) = rks g i := if_pos h
theorem rks_1 {g : Int → Int} {i : Nat} (h : ¬ g i ≤ 0) : rks g (i + 1) = ((rks g i).1 + 1, ins (rks g i).2.1 (rks g i).1 (ipos (rks g i).2.2 (g i) (rks g i).1) i, ins (rks g i).2.2 (rks g i).1 (ipos (rks g i).2.2 (g i) (rks g i).1) (g i)) := if_neg h
section RT
variable {l : Launch} {d : Nat} {ω t : Int → Int} {σ : jH} {e n : Int}
/-- lines put in order so far -/
def RKS (χ υ : jH) (g : Int → Int) (i : Nat) : Prop := (∀ c, c ≠ 1 → c ≠ 181 → c ≠ 182 → υ c = χ c) ∧ (∀ j, j ≠ 15 → υ 1 j = χ 1 j) ∧ υ 1 15 = (rks g i).1 ∧ ∀ j : Int, 0 ≤ j → j < (rks g i).1 → υ 181 j = (rks g i).2.1 j ∧ υ 182 j = (rks g i).2.2 j
theorem l_rk_127 {χ : jH} {g : Int → Int} (hd : 16 ≤ d) (W : OKW ω) (L : IML χ 3 ω) (he : 0 ≤ e ∧ e ≤ 1) (hg : ∀ j, 0 ≤ j → j < 40 → χ (wb e + 12) j = g j) : ∀ (k i : Nat) (υ : jH), (i : Int) + k = ω (3 + e) → RKS χ υ g i →
    Ev (l, (fun _ => 0), 0) d 0 0 m_WordPlaces_rank (RW fun z τ => z = (rks g (ω (3 + e)).toNat).1 ∧ RKS χ τ g (ω (3 + e)).toNat) 125 [some (vR 1), some (vI e), none, some (vR (wb e)), some (vI i), none] [] gW υ 0 0
  | 0, i, υ, hk, S => by
    have Lυ : IML υ 3 ω := IML_eq (fun c a b => S.1 c (by omega) (by omega) (by omega)) L
    refine jwp_sound t_WordPlaces_rank _ (b_WordPlaces_rank_125 ?_)
    simp only [RW, true_and, and_true, and_self, true_or, or_true, Nat.reduceLeDiff, Nat.reduceEqDiff, Nat.reduceAdd, Int.reduceLE, Int.reduceLT, Int.reduceEq, Int.reduceNeg, Int.reduceNe, Nat.reduceSub, reduceIte, implies_true, gt_1, gr_1_10, gt_179, gr_1_2, gt_3, gr_1_5, gt_97, gr_97_2, gt_98]
    refine cN_p (c_Image_lineCount _ i3 he) (by omega) ?_
    rw [(Lυ.L he).1]
    refine ⟨fun _ => ?_, fun q => absurd q (by omega)⟩
    rw [show (ω (3 + e)).toNat = i by omega]
    exact ⟨S.2.2.1, S⟩
  | k + 1, i, υ, hk, S => by
    have hW := wb_i he
    have wbr : wb e = 105 ∨ wb e = 120 := by
      unfold wb
      omega
    have l40 := ((W.L he).1).2.1
    have Lυ : IML υ 3 ω := IML_eq (fun c a b => S.1 c (by omega) (by omega) (by omega)) L
    have cr := rks_r g i
    have gi : υ (wb e + 12) i = g i := by
      rw [S.1 _ (by omega) (by omega) (by omega)]
      exact hg i (by omega) (by omega)
    refine jwp_sound t_WordPlaces_rank _ (b_WordPlaces_rank_125 ?_)
    simp only [RW, true_and, and_true, and_self, true_or, or_true, Nat.reduceLeDiff, Nat.reduceEqDiff, Nat.reduceAdd, Int.reduceLE, Int.reduceLT, Int.reduceEq, Int.reduceNeg, Int.reduceNe, Nat.reduceSub, reduceIte, implies_true, gt_1, gr_1_10, gt_179, gr_1_2, gt_3, gr_1_5, gt_97, gr_97_2, gt_98]
    refine cN_p (c_Image_lineCount _ i3 he) (by omega) ?_
    simp only [RW, true_and, and_true, and_self, true_or, or_true, Nat.reduceLeDiff, Nat.reduceEqDiff, Nat.reduceAdd, Int.reduceLE, Int.reduceLT, Int.reduceEq, Int.reduceNeg, Int.reduceNe, Nat.reduceSub, reduceIte, implies_true, wd_t hW, wd_r1 hW, wd_t1 hW, wd_r2 hW, wd_t2 hW, wd_r3 hW, wd_t3 hW, wd_r4 hW, wd_t4 hW, wd_r5 hW, wd_t5 hW, wd_r6 hW, wd_t6 hW, wd_r7 hW, wd_t7 hW, wd_r8 hW, wd_t8 hW, wd_r10 hW, wd_t10 hW, wd_r11 hW, wd_t11 hW, wd_r12 hW, wd_t12 hW, wd_r13 hW, wd_t13 hW]
    rw [(Lυ.L he).1, gi, w32_of (x := (i : Int) + 1) (by omega) (by omega)]
    refine ⟨fun q => absurd q (by omega), fun _ => ⟨fun q => absurd q (by omega), fun _ => ⟨by omega, by omega, fun q => ?_, fun q => ⟨by omega, by omega, ?_⟩⟩⟩⟩
    · have IH := l_rk_127 hd W L he hg k (i + 1) υ (by omega) (by unfold RKS; rw [rks_0 q]; exact S)
      rw [show ((i + 1 : Nat) : Int) = (i : Int) + 1 by omega] at IH
      exact IH
    · refine cN_w (c_insertRanked (cnt := (rks g i).1) S.2.2.1 (by omega)) (by omega) (fun _ ξ h => ?_)
      obtain ⟨h1, h2, h3, h4, h5⟩ := h
      have pe : ipos (υ 182) (g i) (rks g i).1 = ipos (rks g i).2.2 (g i) (rks g i).1 := ipos_eq _ (fun j a b => (S.2.2.2 j a b).2)
      have pr := ipos_r (rks g i).2.2 (g i) (rks g i).1
      have IH := l_rk_127 hd W L he hg k (i + 1) ξ (by omega) (by
        unfold RKS
        rw [rks_1 (by omega)]
        refine ⟨fun c a b c2 => by rw [h4 c a b c2, S.1 c a b c2], fun j hj => by rw [h5 j hj, S.2.1 j hj], by rw [h3]; show _ = (((rks g i).1 + 1 : Nat) : Int); omega, fun j j0 j1 => ?_⟩
        have j2 : j < ((rks g i).1 : Int) + 1 := by
          have : j < (((rks g i).1 + 1 : Nat) : Int) := j1
          omega
        rw [h1, h2, pe]
        exact ⟨ins_eq (fun x a b => (S.2.2.2 x a b).1) (by omega) (by omega) j j0 j2, ins_eq (fun x a b => (S.2.2.2 x a b).2) (by omega) (by omega) j j0 j2⟩)
      rw [show ((i + 1 : Nat) : Int) = (i : Int) + 1 by omega] at IH
      exact IH
theorem c_rank (C : CFR σ ω) (T : TPC σ n t) (e : Int) : Cw 16 m_WordPlaces_rank [vR 1, vI e] σ (fun z τ => RNP σ τ ω e n t z) := by
  have T2 := T.2.1
  refine Cw_of o_WordPlaces_rank rfl fun l d hd => jwp_sound t_WordPlaces_rank _ (b_WordPlaces_rank_0 ?_)
  simp only [RW, true_and, and_true, and_self, true_or, or_true, Nat.reduceLeDiff, Nat.reduceEqDiff, Nat.reduceAdd, Int.reduceLE, Int.reduceLT, Int.reduceEq, Int.reduceNeg, Int.reduceNe, Nat.reduceSub, reduceIte, implies_true, gt_1, gr_1_10, gt_179, gr_1_2, gt_3, gr_1_5, gt_97, gr_97_2, gt_98]
  refine cN_p (c_isEdition _ _) (by omega) ?_
  by_cases he : 0 ≤ e ∧ e ≤ 1
  · have hW := wb_i he
    have wbr : wb e = 105 ∨ wb e = 120 := by
      unfold wb
      omega
    rw [if_pos he]
    refine ⟨fun _ => ?_, fun x => absurd x (by omega)⟩
    refine cN_p (c_takeTape T) (by omega) ?_
    have C1 : CFR (ju σ 1 1 0) ω := C.of1 (fun c a b => ju_row (by omega))
    refine cN_w (c_freshWords C1 he) (by omega) (fun z τ h => ?_)
    obtain ⟨rfl, h⟩ := h
    have C2 := C1.of h.1
    simp only [RW, true_and, and_true, and_self, true_or, or_true, Nat.reduceLeDiff, Nat.reduceEqDiff, Nat.reduceAdd, Int.reduceLE, Int.reduceLT, Int.reduceEq, Int.reduceNeg, Int.reduceNe, Nat.reduceSub, reduceIte, implies_true, wd_t hW, wd_r1 hW, wd_t1 hW, wd_r2 hW, wd_t2 hW, wd_r3 hW, wd_t3 hW, wd_r4 hW, wd_t4 hW, wd_r5 hW, wd_t5 hW, wd_r6 hW, wd_t6 hW, wd_r7 hW, wd_t7 hW, wd_r8 hW, wd_t8 hW, wd_r10 hW, wd_t10 hW, wd_r11 hW, wd_t11 hW, wd_r12 hW, wd_t12 hW, wd_r13 hW, wd_t13 hW]
    refine cN_w (c_clearWorths (ω := ω) he τ) (by omega) (fun _ υ hυ => ?_)
    refine l_rk_28 (t := t) (σ := τ) hd h.2.2 C.1 C2.2.1 (fun j a b => by rw [h.1.1 2 (by omega), ju_row (by omega)]; exact T.2.2 j a b) T2 he n.toNat 0 υ (fun _ => false) (by omega) (by omega) (by omega) hυ (fun ξ S => ?_)
    have r1 : ∀ c, c ≠ 1 → ju ξ 1 15 0 c = ξ c := fun c hc => ju_row hc
    have Lξ : IML (ju ξ 1 15 0) 3 ω := IML_eq (fun c a b => by rw [r1 c (by omega), S.1 c (by omega) (by omega) (by omega)]) C2.2.1
    have L0 := (C.1.L he).1.1
    have go := l_rk_127 (l := l) (χ := ju ξ 1 15 0) (g := wth ω e (askA ω t n)) hd C.1 Lξ he (fun j a b => by rw [r1 _ (by omega)]; exact S.2.1 j a b) (ω (3 + e)).toNat 0 (ju ξ 1 15 0) (by omega) ⟨fun _ _ _ _ => rfl, fun _ _ => rfl, ju_self, fun j a b => absurd b (by show ¬ j < ((0 : Nat) : Int); omega)⟩
    refine Ev_post go (fun z χ hz => ?_)
    obtain ⟨h1, h2⟩ := hz
    have cr := rks_r (wth ω e (askA ω t n)) (ω (3 + e)).toNat
    have l40 := (C.1.L he).1.2.1
    have fr : ∀ c, c ≠ 1 → c ≠ 181 → c ≠ 182 → c ≠ wb e + 12 → c ≠ wb e + 13 → c ≠ 179 → χ c = τ c := fun c a b c2 c3 c4 c5 => by rw [h2.1 c a b c2, r1 c a, S.1 c c3 c4 c5]
    refine Or.inl ⟨he, h1, ⟨by rw [h1]; exact h2.2.2.1, by omega, fun i a b => h2.2.2.2 i a (by omega)⟩, ⟨C.1, IML_eq (fun c a b => fr c (by omega) (by omega) (by omega) (by omega) (by omega) (by omega)) C2.2.1, fun _ => CDR_w (fun c a b x1 x2 x3 x4 => fr c (by omega) (by omega) (by omega) (by omega) (by omega) (by omega)) h.2.2⟩, fun c a b b2 b3 b4 => by rw [fr c b b3 b4 (by omega) (by omega) b2, h.1.1 c a, ju_row b], ?_, fun j a b => ?_⟩
    · rw [h2.2.1 1 (by omega), ju_ne2 (by omega), S.1 1 (by omega) (by omega) (by omega), h.1.1 1 (by omega), ju_self]
    · rw [h2.2.1 j b, ju_ne2 b, S.1 1 (by omega) (by omega) (by omega), h.1.1 1 (by omega), ju_ne2 a]
  · rw [if_neg he]
    exact ⟨fun x => absurd rfl x, fun _ => Or.inr ⟨he, rfl, rfl⟩⟩
def s_ranked (N : Int) (f g : Int → Int) (i what : Int) : Int := if 0 ≤ i ∧ i < N then (if what = 0 then f i else if what = 1 then g i else -2000000000) else -2000000000
theorem c_ranked {N : Int} {f g : Int → Int} (R : RKC σ N f g) (i what : Int) : Cw 10 m_WordPlaces_ranked [vR 1, vI i, vI what] σ (fun z τ => z = s_ranked N f g i what ∧ τ = σ) := by
  obtain ⟨r1, r2, r3⟩ := R
  refine Cw_of o_WordPlaces_ranked rfl fun l d hd => jwp_sound t_WordPlaces_ranked _ (b_WordPlaces_ranked_0 ?_)
  simp only [RW, true_and, and_true, and_self, true_or, or_true, Nat.reduceLeDiff, Nat.reduceEqDiff, Nat.reduceAdd, Int.reduceLE, Int.reduceLT, Int.reduceEq, Int.reduceNeg, Int.reduceNe, Nat.reduceSub, reduceIte, implies_true, gt_1, gr_1_13, gt_181, gr_1_14, gt_182]
  rw [r1]
  unfold s_ranked
  refine ⟨fun q => by rw [if_neg (by omega)], fun q => ⟨fun q2 => by rw [if_neg (by omega)], fun q2 => ⟨fun _ => ?_, fun q3 => absurd q3 (by omega)⟩⟩⟩
  obtain ⟨a, b⟩ := r3 i q q2
  rw [if_pos ⟨q, q2⟩, a, b]
  refine ⟨fun x => ⟨fun y => ?_, fun y => ?_⟩, fun x => ?_⟩
  · rw [if_neg x, if_neg y]
  · rw [if_neg x, if_pos y]
    repeat (refine And.intro (by omega) ?_)
    rfl
  · rw [if_pos x]
    repeat (refine And.intro (by omega) ?_)
    rfl
end RT
