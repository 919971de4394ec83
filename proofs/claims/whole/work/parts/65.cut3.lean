/-! The class: cutLine, cutOut -/
section CM
variable {l : Launch} {d : Nat} {o b e : Int} {ω : Int → Int} {σ : jH}
theorem l_cl_31 {i : Nat} (hd : 12 ≤ d) (hI : isImage o) (hW : isWords b) (he : 0 ≤ e ∧ e ≤ 1) (L : LOK ω e) (H : LIN σ o ω e) (hF : ∀ x, 0 ≤ x → x < 26 → σ (o + 2) x = fo ω x) (hφ : okρ (fo ω)) (hi : (i : Int) < ω (3 + e)) (hcap : (wW ω e).1 ≤ 300) :
    ∀ (n k : Nat) (τ : jH) (s : wS), k + n = (ω (lA e i)).toNat → ((s = wln ω e i k (wal ω e i) ∧ (k = 0 ∨ ¬ isL (bt ω e i ((k : Int) - 1)))) ∨ (s = wln ω e i (k + 1) (wal ω e i) ∧ ¬ isL (bt ω e i k))) → STC σ τ b ω s s.1 →
    Ev (l, (fun _ => 0), 0) d 0 0 m_Words_cutLine (RW fun x τ => x = b2i (wal ω e (i + 1)).2.1 ∧ STC σ τ b ω (wal ω e (i + 1)) (wal ω e (i + 1)).1) 30 [some (vR b), some (vR o), none, some (vI i), none, some (vI (b2i (icut ω e i))), some (vI ((40 * e + i) * 60 + k)), some (vI ((40 * e + i) * 60 + ω (lA e i))), some (vI (b2i s.2.1))] [] gW τ 0 0 := by
  have hob : o + 22 < b := by unfold isImage at hI; unfold isWords at hW; omega
  have L' := L
  obtain ⟨L1, L2, L3⟩ := L'
  obtain ⟨L4, L5⟩ := L3 i (by omega) hi
  obtain ⟨a1, a2, a3, a4⟩ := H.2 i (by omega) hi
  intro n
  induction n using Nat.strongRecOn with
  | ind n ih =>
  intro k τ s hk hs X
  have fin : (ω (lA e i)).toNat ≤ k → s = wal ω e (i + 1) := by
    intro hk2
    show s = wln ω e i 61 (wal ω e i)
    rcases hs with ⟨hs, h2⟩ | ⟨hs, h2⟩
    · rw [wln_61 (a := k) h2 (fun x x0 x1 => by omega) (by omega), hs]
    · rw [wln_61 (a := k + 1) (Or.inr (by rw [show ((k + 1 : Nat) : Int) - 1 = k by omega]; exact h2)) (fun x x0 x1 => by omega) (by omega), hs]
  by_cases hkn : n = 0
  · have := fin (by omega)
    subst this
    refine jwp_sound t_Words_cutLine _ (b_Words_cutLine_30 ?_)
    simp only [RW, true_and, and_true, and_self, true_or, or_true, Nat.reduceLeDiff, Nat.reduceEqDiff, Nat.reduceAdd, Int.reduceLE, Int.reduceLT, Int.reduceEq, Int.reduceNeg, Int.reduceNe, Nat.reduceSub, reduceIte, implies_true, im_t hI, im_r0 hI, im_t0 hI, im_r1 hI, im_t1 hI, im_r2 hI, im_t2 hI, im_r3 hI, im_t3 hI, im_r4 hI, im_t4 hI, im_r5 hI, im_t5 hI, im_r6 hI, im_t6 hI, wd_t hW, wd_r1 hW, wd_t1 hW, wd_r2 hW, wd_t2 hW, wd_r3 hW, wd_t3 hW, wd_r4 hW, wd_t4 hW, wd_r5 hW, wd_t5 hW, wd_r6 hW, wd_t6 hW, wd_r7 hW, wd_t7 hW, wd_r8 hW, wd_t8 hW, wd_r10 hW, wd_t10 hW, wd_r11 hW, wd_t11 hW, wd_r12 hW, wd_t12 hW, wd_r13 hW, wd_t13 hW]
    refine ⟨fun _ => ⟨?_, X⟩, fun q => absurd q (by omega)⟩
    have := b2i_r (wal ω e (i + 1)).2.1
    omega
  · have hbk : τ (o + 15) ((40 * e + i) * 60 + k) = bt ω e i k := by
      rw [X.eq (by omega), a2 k (by omega) (by omega)]
      unfold bt
      rw [if_pos (by omega)]
    have lh := b2i_r s.2.1
    refine jwp_sound t_Words_cutLine _ (b_Words_cutLine_30 ?_)
    simp only [RW, true_and, and_true, and_self, true_or, or_true, Nat.reduceLeDiff, Nat.reduceEqDiff, Nat.reduceAdd, Int.reduceLE, Int.reduceLT, Int.reduceEq, Int.reduceNeg, Int.reduceNe, Nat.reduceSub, reduceIte, implies_true, im_t hI, im_r0 hI, im_t0 hI, im_r1 hI, im_t1 hI, im_r2 hI, im_t2 hI, im_r3 hI, im_t3 hI, im_r4 hI, im_t4 hI, im_r5 hI, im_t5 hI, im_r6 hI, im_t6 hI, wd_t hW, wd_r1 hW, wd_t1 hW, wd_r2 hW, wd_t2 hW, wd_r3 hW, wd_t3 hW, wd_r4 hW, wd_t4 hW, wd_r5 hW, wd_t5 hW, wd_r6 hW, wd_t6 hW, wd_r7 hW, wd_t7 hW, wd_r8 hW, wd_t8 hW, wd_r10 hW, wd_t10 hW, wd_r11 hW, wd_t11 hW, wd_r12 hW, wd_t12 hW, wd_r13 hW, wd_t13 hW]
    refine ⟨fun q => absurd q (by omega), fun _ => ?_⟩
    refine cN_p (c_Image_byteAt _ hI (by omega) (by omega)) (by omega) ?_
    refine cN_p (c_isLetter _ _) (by omega) ?_
    rw [hbk, w32_of (x := (40 * e + i) * 60 + (k : Int) + 1) (by omega) (by omega)]
    by_cases hL : isL (bt ω e i k)
    · -- a run begins
      rw [if_pos hL]
      obtain ⟨hs, hks⟩ : s = wln ω e i k (wal ω e i) ∧ (k = 0 ∨ ¬ isL (bt ω e i ((k : Int) - 1))) := by
        rcases hs with hs | hs
        · exact hs
        · exact absurd hL hs.2
      have K : wok s := by rw [hs]; exact (wln_ok (wal_ok (ω := ω) (e := e) i) k).1
      have hc := wcap (ω := ω) (e := e) (i := i) (k := k) (by omega) (by omega)
      have hc1 := wcap (ω := ω) (e := e) (i := i) (k := k + 1) (by omega) (by omega)
      rw [← hs] at hc
      have hst : wln ω e i (k + 1) (wal ω e i) = wst ω e i k (wln ω e i k (wal ω e i)) := rfl
      rw [← hs] at hst
      unfold wst at hst
      rw [if_pos hL, if_neg (fun q => by rcases hks with hks | hks; · omega
                                         · exact hks q.2)] at hst
      -- where the run ends
      obtain ⟨to, hE⟩ : ∃ to, RE ω e i k to := by
        have key : ∀ (m : Nat) (x : Int), ω (lA e i) - x ≤ m → (k : Int) ≤ x → (∀ y, (k : Int) ≤ y → y < x → isL (bt ω e i y)) → ∃ to, RE ω e i k to := by
          intro m
          induction m with
          | zero =>
            intro x h1 h2 h3
            exact ⟨x, h2, by rw [bt_end (by omega)]; omega, h3⟩
          | succ m ihm =>
            intro x h1 h2 h3
            by_cases hx : isL (bt ω e i x)
            · refine ihm (x + 1) (by omega) (by omega) (fun y y0 y1 => ?_)
              by_cases hy : y = x
              · exact hy ▸ hx
              · exact h3 y y0 (by omega)
            · exact ⟨x, h2, hx, h3⟩
        exact key (ω (lA e i) - k).toNat k (by omega) (by omega) (fun y y0 y1 => by omega)
      have hlt : (k : Int) < to := by
        by_cases q : (k : Int) < to
        · exact q
        · have e1 : (k : Int) = to := by have := hE.1; omega
          exact absurd (e1 ▸ hL) hE.2.1
      have hto : to ≤ ω (lA e i) := by
        have h1 := hE.2.2 (to - 1) (by omega) (by omega)
        have := bt_nl h1
        omega
      have N : ∀ τ, STC σ τ b ω (wln ω e i (to + 1).toNat (wal ω e i)) (wln ω e i (to + 1).toNat (wal ω e i)).1 → Ev (l, (fun _ => 0), 0) d 0 0 m_Words_cutLine (RW fun x τ => x = b2i (wal ω e (i + 1)).2.1 ∧ STC σ τ b ω (wal ω e (i + 1)) (wal ω e (i + 1)).1) 30 [some (vR b), some (vR o), none, some (vI i), none, some (vI (b2i (icut ω e i))), some (vI ((40 * e + i) * 60 + to)), some (vI ((40 * e + i) * 60 + ω (lA e i))), some (vI (b2i (cutA ω e i to)))] [] gW τ 0 0 := by
        intro υ Y
        have op : (wln ω e i (to + 1).toNat (wal ω e i)).2.1 = cutA ω e i to := by
          rw [show (to + 1).toNat = to.toNat + 1 by omega]
          show (wst ω e i ((to.toNat : Nat) : Int) (wln ω e i to.toNat (wal ω e i))).2.1 = _
          rw [show ((to.toNat : Nat) : Int) = to by omega]
          unfold wst
          rw [if_neg hE.2.1, if_pos ⟨by omega, hE.2.2 (to - 1) (by omega) (by omega)⟩]
          rfl
        have := ih ((ω (lA e i)).toNat - to.toNat) (by omega) to.toNat υ _ (by omega) (Or.inr ⟨by rw [show (to + 1).toNat = to.toNat + 1 by omega], by rw [show ((to.toNat : Nat) : Int) = to by omega]; exact hE.2.1⟩) Y
        rw [op, show ((to.toNat : Nat) : Int) = to by omega] at this
        exact this
      have run := l_cl_61 (l := l) (d := d) hd hI hW he L H hF hφ hi hE hL hks N
      refine ⟨fun q => by omega, fun _ => ⟨fun q => ?_, fun q => ?_⟩⟩
      · have op : s.2.1 = true := b2i_1.mp q
        have h1 := K.2.1 op
        refine run (to - k).toNat k τ s (by omega) (by omega) (by omega) ⟨?_, X.2⟩ (Or.inl ⟨rfl, by rw [← hs, if_pos op]⟩) h1 (by omega) K
        obtain ⟨x1, x2, x3, x4, x5⟩ := X.1
        exact ⟨x1, x2, fun p p0 p1 => x3 p p0 (by omega), x4, x5⟩
      · have op : s.2.1 = false := b2i_0.mp q
        have s0 := K.1
        rw [if_neg (by rw [op]; simp)] at hst
        have hcn : s.1 + 1 ≤ 300 := by
          have : (wln ω e i (k + 1) (wal ω e i)).1 = s.1 + 1 := by
            rw [hst]
            rfl
          omega
        refine cN_w (c_beginWord hW X.1 K (by omega) (by omega) (by omega)) (by omega) (fun _ υ U => ?_)
        refine run (to - k).toNat k υ (wnew i s) (by omega) (by omega) (by omega) ⟨?_, X.2.tr U.2⟩ (Or.inl ⟨rfl, by rw [← hs, if_neg (by rw [op]; simp)]⟩) ?_ hcn (wnew_ok K)
        · have := U.1
          show CWD υ b (fo ω) (wnew i s) (s.1 + 1 - 1)
          rw [show s.1 + 1 - 1 = s.1 by omega]
          exact this
        · show 1 ≤ s.1 + 1
          omega
    · rw [if_neg hL]
      refine ⟨fun _ => ?_, fun q => absurd rfl q⟩
      have := ih (n - 1) (by omega) (k + 1) τ s (by omega) (Or.inl ⟨?_, Or.inr (by rw [show ((k + 1 : Nat) : Int) - 1 = k by omega]; exact hL)⟩) X
      · rw [show ((k + 1 : Nat) : Int) = (k : Int) + 1 by omega, ← Int.add_assoc] at this
        exact this
      · rcases hs with ⟨hs, h2⟩ | ⟨hs, h2⟩
        · show s = wst ω e i k (wln ω e i k (wal ω e i))
          rw [wst_no hL (by rcases h2 with h2 | h2; · exact Or.inl (by omega)
                            · exact Or.inr h2) (by omega)]
          exact hs
        · exact hs
theorem c_cutLine {i : Nat} (hI : isImage o) (hW : isWords b) (he : 0 ≤ e ∧ e ≤ 1) (L : LOK ω e) (H : LIN σ o ω e) (hF : ∀ x, 0 ≤ x → x < 26 → σ (o + 2) x = fo ω x) (hφ : okρ (fo ω)) (hi : (i : Int) < ω (3 + e)) (hcap : (wW ω e).1 ≤ 300) (C : CWD σ b (fo ω) (wal ω e i) (wal ω e i).1) :
    Cw 12 m_Words_cutLine [vR b, vR o, vI e, vI i, vI (b2i (wal ω e i).2.1), vI (b2i (icut ω e i))] σ (fun x τ => x = b2i (wal ω e (i + 1)).2.1 ∧ STC σ τ b ω (wal ω e (i + 1)) (wal ω e (i + 1)).1) := by
  have L' := L
  obtain ⟨L1, L2, L3⟩ := L'
  obtain ⟨L4, L5⟩ := L3 i (by omega) hi
  obtain ⟨a1, a2, a3, a4⟩ := H.2 i (by omega) hi
  refine Cw_of o_Words_cutLine rfl fun l d hd => jwp_sound t_Words_cutLine _ (b_Words_cutLine_0 ?_)
  simp only [RW, true_and, and_true, and_self, true_or, or_true, Nat.reduceLeDiff, Nat.reduceEqDiff, Nat.reduceAdd, Int.reduceLE, Int.reduceLT, Int.reduceEq, Int.reduceNeg, Int.reduceNe, Nat.reduceSub, reduceIte, implies_true, im_t hI, im_r0 hI, im_t0 hI, im_r1 hI, im_t1 hI, im_r2 hI, im_t2 hI, im_r3 hI, im_t3 hI, im_r4 hI, im_t4 hI, im_r5 hI, im_t5 hI, im_r6 hI, im_t6 hI, wd_t hW, wd_r1 hW, wd_t1 hW, wd_r2 hW, wd_t2 hW, wd_r3 hW, wd_t3 hW, wd_r4 hW, wd_t4 hW, wd_r5 hW, wd_t5 hW, wd_r6 hW, wd_t6 hW, wd_r7 hW, wd_t7 hW, wd_r8 hW, wd_t8 hW, wd_r10 hW, wd_t10 hW, wd_r11 hW, wd_t11 hW, wd_r12 hW, wd_t12 hW, wd_r13 hW, wd_t13 hW]
  rw [w32_of (x := e * 40) (by omega) (by omega), w32_of (x := e * 40 + i) (by omega) (by omega), show e * 40 + (i : Int) = 40 * e + i by omega]
  refine cN_p (c_Image_lengthAt _ hI (by omega) (by omega)) (by omega) ?_
  rw [a1, w32_of (x := (40 * e + i) * 60) (by omega) (by omega), w32_of (x := (40 * e + i) * 60 + _) (by omega) (by omega)]
  have := l_cl_31 (l := l) (d := d) hd hI hW he L H hF hφ hi hcap (ω (lA e i)).toNat 0 σ (wal ω e i) (by omega) (Or.inl ⟨rfl, Or.inl rfl⟩) ⟨C, FRW.rf⟩
  simpa using this
theorem LIN_eq {τ : jH} (h : ∀ c, o + 15 ≤ c → c ≤ o + 19 → τ c = σ c) (H : LIN σ o ω e) : LIN τ o ω e := by
  unfold LIN
  rw [h _ (by omega) (by omega), h (o + 16) (by omega) (by omega), h (o + 15) (by omega) (by omega), h (o + 17) (by omega) (by omega), h (o + 18) (by omega) (by omega)]
  exact H
theorem l_cutOut (hd : 13 ≤ d) (hI : isImage o) (hW : isWords b) (he : 0 ≤ e ∧ e ≤ 1) (L : LOK ω e) (H : LIN σ o ω e) (hF : ∀ x, 0 ≤ x → x < 26 → σ (o + 2) x = fo ω x) (hφ : okρ (fo ω)) (hcap : (wW ω e).1 ≤ 300) : ∀ (n i : Nat) (τ : jH), i + n = (ω (3 + e)).toNat → STC σ τ b ω (wal ω e i) (wal ω e i).1 →
    Ev (l, (fun _ => 0), 0) d 0 0 m_Words_cutOut (RW fun _ τ => STC σ τ b ω (wW ω e) (wW ω e).1) 18 [some (vR b), some (vR o), some (vI e), some (vI (b2i (wal ω e i).2.1)), some (vI i)] [] gW τ 0 0
  | 0, i, τ, hn, X => by
    have hob : o + 25 < b := by unfold isImage at hI; unfold isWords at hW; omega
    have L1 := L.1
    refine jwp_sound t_Words_cutOut _ (b_Words_cutOut_18 ?_)
    simp only [RW, true_and, and_true, and_self, true_or, or_true, Nat.reduceLeDiff, Nat.reduceEqDiff, Nat.reduceAdd, Int.reduceLE, Int.reduceLT, Int.reduceEq, Int.reduceNeg, Int.reduceNe, Nat.reduceSub, reduceIte, implies_true, im_t hI, im_r0 hI, im_t0 hI, im_r1 hI, im_t1 hI, im_r2 hI, im_t2 hI, im_r3 hI, im_t3 hI, im_r4 hI, im_t4 hI, im_r5 hI, im_t5 hI, im_r6 hI, im_t6 hI, wd_t hW, wd_r1 hW, wd_t1 hW, wd_r2 hW, wd_t2 hW, wd_r3 hW, wd_t3 hW, wd_r4 hW, wd_t4 hW, wd_r5 hW, wd_t5 hW, wd_r6 hW, wd_t6 hW, wd_r7 hW, wd_t7 hW, wd_r8 hW, wd_t8 hW, wd_r10 hW, wd_t10 hW, wd_r11 hW, wd_t11 hW, wd_r12 hW, wd_t12 hW, wd_r13 hW, wd_t13 hW]
    refine cN_p (c_Image_lineCount _ hI he) (by omega) ?_
    rw [X.eq (by omega), H.1]
    refine ⟨fun _ => ?_, fun q => absurd q (by omega)⟩
    unfold wW
    rw [show (ω (3 + e)).toNat = i by omega]
    exact X
  | n + 1, i, τ, hn, X => by
    have hob : o + 25 < b := by unfold isImage at hI; unfold isWords at hW; omega
    have L1 := L.1
    have L2 := L.2.1
    have H' : LIN τ o ω e := LIN_eq (fun c a b => X.eq (by omega)) H
    refine jwp_sound t_Words_cutOut _ (b_Words_cutOut_18 ?_)
    simp only [RW, true_and, and_true, and_self, true_or, or_true, Nat.reduceLeDiff, Nat.reduceEqDiff, Nat.reduceAdd, Int.reduceLE, Int.reduceLT, Int.reduceEq, Int.reduceNeg, Int.reduceNe, Nat.reduceSub, reduceIte, implies_true, im_t hI, im_r0 hI, im_t0 hI, im_r1 hI, im_t1 hI, im_r2 hI, im_t2 hI, im_r3 hI, im_t3 hI, im_r4 hI, im_t4 hI, im_r5 hI, im_t5 hI, im_r6 hI, im_t6 hI, wd_t hW, wd_r1 hW, wd_t1 hW, wd_r2 hW, wd_t2 hW, wd_r3 hW, wd_t3 hW, wd_r4 hW, wd_t4 hW, wd_r5 hW, wd_t5 hW, wd_r6 hW, wd_t6 hW, wd_r7 hW, wd_t7 hW, wd_r8 hW, wd_t8 hW, wd_r10 hW, wd_t10 hW, wd_r11 hW, wd_t11 hW, wd_r12 hW, wd_t12 hW, wd_r13 hW, wd_t13 hW]
    refine cN_p (c_Image_lineCount _ hI he) (by omega) ?_
    rw [H'.1]
    refine ⟨fun q => absurd q (by omega), fun _ => ⟨fun q => absurd q (by omega), fun _ => ?_⟩⟩
    refine cN_p (c_Image_isCut _ hI he L H' (by omega) (by omega)) (by omega) ?_
    refine cN_w (c_cutLine hI hW he L H' (fun x a b => by rw [X.eq (by omega)]; exact hF x a b) hφ (by omega) hcap X.1) (by omega) (fun z υ U => ?_)
    obtain ⟨rfl, U⟩ := U
    rw [w32_of (x := (i : Int) + 1) (by omega) (by omega)]
    exact l_cutOut hd hI hW he L H hF hφ hcap n (i + 1) υ (by omega) ⟨U.1, X.2.tr U.2⟩
theorem c_cutOut (hI : isImage o) (hW : isWords b) (he : 0 ≤ e ∧ e ≤ 1) (L : LOK ω e) (H : LIN σ o ω e) (hF : ∀ x, 0 ≤ x → x < 26 → σ (o + 2) x = fo ω x) (hφ : okρ (fo ω)) (hcap : (wW ω e).1 ≤ 300) :
    Cw 13 m_Words_cutOut [vR b, vR o, vI e] σ (fun _ τ => STC σ τ b ω (wW ω e) (wW ω e).1) := by
  have hob : o + 25 < b := by unfold isImage at hI; unfold isWords at hW; omega
  refine Cw_of o_Words_cutOut rfl fun l d hd => jwp_sound t_Words_cutOut _ (b_Words_cutOut_0 ?_)
  simp only [RW, true_and, and_true, and_self, true_or, or_true, Nat.reduceLeDiff, Nat.reduceEqDiff, Nat.reduceAdd, Int.reduceLE, Int.reduceLT, Int.reduceEq, Int.reduceNeg, Int.reduceNe, Nat.reduceSub, reduceIte, implies_true, im_t hI, im_r0 hI, im_t0 hI, im_r1 hI, im_t1 hI, im_r2 hI, im_t2 hI, im_r3 hI, im_t3 hI, im_r4 hI, im_t4 hI, im_r5 hI, im_t5 hI, im_r6 hI, im_t6 hI, wd_t hW, wd_r1 hW, wd_t1 hW, wd_r2 hW, wd_t2 hW, wd_r3 hW, wd_t3 hW, wd_r4 hW, wd_t4 hW, wd_r5 hW, wd_t5 hW, wd_r6 hW, wd_t6 hW, wd_r7 hW, wd_t7 hW, wd_r8 hW, wd_t8 hW, wd_r10 hW, wd_t10 hW, wd_r11 hW, wd_t11 hW, wd_r12 hW, wd_t12 hW, wd_r13 hW, wd_t13 hW]
  refine cN_v (c_Arrays_fill (a := b + 11) (n := 40) 0 _ (wd_t10 hW) (by omega) (by omega)) (by omega) (fun _ => ?_)
  refine l_cutOut hd hI hW he L H hF hφ hcap (ω (3 + e)).toNat 0 _ (by omega) ⟨⟨?_, fun p p0 p1 => absurd p1 (by show ¬ p < 0; omega), fun p p0 p1 => absurd p1 (by show ¬ p < 0; omega), fun i i0 i1 => ?_, fun q => absurd q (by show ¬ (1 : Int) ≤ 0; omega)⟩, fun c hc => ?_⟩
  · unfold jfill
    rw [if_neg (by omega), ju_self]
    rfl
  · unfold jfill
    rw [if_pos ⟨rfl, i0, i1⟩]
    rfl
  · funext j
    unfold jfill
    rw [if_neg (by omega), ju_row (by omega)]
end CM
