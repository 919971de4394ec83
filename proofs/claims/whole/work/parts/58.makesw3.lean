/-! The reference: makesWords -/
section MX
variable {l : Launch} {d : Nat} {e : Int} {σ : jH}
theorem b2i_f : b2i false = 0 := rfl
theorem b2i_t : b2i true = 1 := rfl
theorem l_mw_29 {i : Nat} (hd : 14 ≤ d) (he : 0 ≤ e ∧ e ≤ 1) (L : LOK (σ 190) e) (hρ : okρ (fo (σ 190))) (hcap : (wW (σ 190) e).1 ≤ 340) (hi : (i : Int) < σ 190 (3 + e))
    (H : ∀ τ, STW σ τ e (wal (σ 190) e (i + 1)) → Ev (l, (fun _ => 0), 0) d 0 0 m_Model_makesWords (RW fun _ τ => STW σ τ e (wW (σ 190) e)) 11 [some (vR 189), some (vI e), some (vI (b2i (wal (σ 190) e (i + 1)).2.1)), some (vI ((i + 1 : Nat) : Int)), none, none, none, none] [] gW τ 0 0) :
    ∀ (n : Nat) (k : Int) (τ : jH), σ 190 (lA e i) - k ≤ n → 0 ≤ k → isL (bt (σ 190) e i k) → (k = 0 ∨ ¬ isL (bt (σ 190) e i (k - 1))) → STW σ τ e (wln (σ 190) e i k.toNat (wal (σ 190) e i)) →
    Ev (l, (fun _ => 0), 0) d 0 0 m_Model_makesWords (RW fun _ τ => STW σ τ e (wW (σ 190) e)) 29 [some (vR 189), some (vI e), some (vI (b2i (wln (σ 190) e i k.toNat (wal (σ 190) e i)).2.1)), some (vI i), some (vI k), none, none, none] [] gW τ 0 0 := by
  have L' := L
  obtain ⟨L1, L2, L3⟩ := L'
  obtain ⟨L4, L5⟩ := L3 i (by omega) hi
  have none_ : ∀ (g : Int) (τ : jH), g = b2i (wal (σ 190) e (i + 1)).2.1 → STW σ τ e (wal (σ 190) e (i + 1)) → Ev (l, (fun _ => 0), 0) d 0 0 m_Model_makesWords (RW fun _ τ => STW σ τ e (wW (σ 190) e)) 29 [some (vR 189), some (vI e), some (vI g), some (vI i), some (vI (-1)), none, none, none] [] gW τ 0 0 := by
    intro g τ hg X
    refine jwp_sound t_Model_makesWords _ (b_Model_makesWords_29 ?_)
    simp only [RW, true_and, and_true, and_self, true_or, or_true, Nat.reduceLeDiff, Nat.reduceEqDiff, Nat.reduceAdd, Int.reduceLE, Int.reduceLT, Int.reduceEq, Int.reduceNeg, Int.reduceNe, Nat.reduceSub, reduceIte, implies_true, true_implies, false_implies, and_true, gt_189, gr_189_4, gt_193, gr_189_6, gt_195, gr_189_7, gt_196, gr_189_8, gt_197]
    rw [w32_of (by omega) (by omega), hg]
    exact H τ X
  intro n
  induction n with
  | zero =>
    intro k τ hn hk hL
    have := bt_nl hL
    omega
  | succ n ih =>
    intro k τ hn hk hL hks X
    have eω := X.w
    have hkl := bt_nl hL
    refine jwp_sound t_Model_makesWords _ (b_Model_makesWords_29 ?_)
    simp only [RW, true_and, and_true, and_self, true_or, or_true, Nat.reduceLeDiff, Nat.reduceEqDiff, Nat.reduceAdd, Int.reduceLE, Int.reduceLT, Int.reduceEq, Int.reduceNeg, Int.reduceNe, Nat.reduceSub, reduceIte, implies_true, gt_189, gr_189_4, gt_193, gr_189_6, gt_195, gr_189_7, gt_196, gr_189_8, gt_197]
    refine ⟨fun q => absurd q (by omega), fun _ => ?_⟩
    refine cN_w (c_Model_runEnd τ he.1 he.2 (by omega) (by omega) hk (by rw [eω]; omega)) (by omega) (fun to τ' hz => ?_)
    obtain ⟨hE, rfl⟩ := hz
    rw [eω] at hE
    have h193 := X.1.1
    have K := (wln_ok (ω := σ 190) (e := e) (i := i) (wal_ok (ω := σ 190) (e := e) i) k.toNat).1
    have hc := wcap (ω := σ 190) (e := e) (i := i) (k := k.toNat) (by omega) (by omega)
    have hc1 := wcap (ω := σ 190) (e := e) (i := i) (k := k.toNat + 1) (by omega) (by omega)
    have hst : wln (σ 190) e i (k.toNat + 1) (wal (σ 190) e i) = wst (σ 190) e i ((k.toNat : Nat) : Int) (wln (σ 190) e i k.toNat (wal (σ 190) e i)) := rfl
    rw [show ((k.toNat : Nat) : Int) = k by omega] at hst
    unfold wst at hst
    rw [if_pos hL, if_neg (fun q => by rcases hks with hks | hks; · omega
                                       · exact hks q.2)] at hst
    have hlt : k < to := by
      by_cases q : k < to
      · exact q
      · have e1 : k = to := by have := hE.1; omega
        exact absurd (e1 ▸ hL) hE.2.1
    have hto : to ≤ σ 190 (lA e i) := by
      have h1 := hE.2.2 (to - 1) (by omega) (by omega)
      have := bt_nl h1
      omega
    have hno : ¬ isL (bt (σ 190) e i (((to + 1).toNat : Int) - 1)) := by
      rw [show (((to + 1).toNat : Nat) : Int) - 1 = to by omega]
      exact hE.2.1
    have open_ : ∀ c : Bool, cutA (σ 190) e i to = c → (wln (σ 190) e i (to + 1).toNat (wal (σ 190) e i)).2.1 = c := by
      intro c hc
      rw [show (to + 1).toNat = to.toNat + 1 by omega]
      show (wst (σ 190) e i ((to.toNat : Nat) : Int) (wln (σ 190) e i to.toNat (wal (σ 190) e i))).2.1 = c
      rw [show ((to.toNat : Nat) : Int) = to by omega]
      unfold wst
      rw [if_neg hE.2.1, if_pos ⟨by omega, hE.2.2 (to - 1) (by omega) (by omega)⟩]
      exact hc
    have H1 : ∀ τ, STW σ τ e (wln (σ 190) e i (to + 1).toNat (wal (σ 190) e i)) → cutA (σ 190) e i to = true → Ev (l, (fun _ => 0), 0) d 0 0 m_Model_makesWords (RW fun _ τ => STW σ τ e (wW (σ 190) e)) 29 [some (vR 189), some (vI e), some (vI 1), some (vI i), some (vI (-1)), none, none, none] [] gW τ 0 0 := by
      intro υ Y hcut
      have hlast : to = σ 190 (lA e i) - 1 := by
        unfold cutA at hcut
        simp only [Bool.and_eq_true, decide_eq_true_eq] at hcut
        exact hcut.1.1.2
      have e61 := wln_61 (ω := σ 190) (e := e) (i := i) (s := wal (σ 190) e i) (a := (to + 1).toNat) (Or.inr hno) (fun k q1 q2 => by omega) (by omega)
      refine none_ 1 υ ?_ ?_
      · show 1 = b2i (wln (σ 190) e i 61 (wal (σ 190) e i)).2.1
        rw [e61, open_ true hcut]
        rfl
      · show STW σ υ e (wln (σ 190) e i 61 (wal (σ 190) e i))
        rw [e61]
        exact Y
    have H0 : ∀ τ x, STW σ τ e (wln (σ 190) e i (to + 1).toNat (wal (σ 190) e i)) → cutA (σ 190) e i to = false → RF (σ 190) e i to x → Ev (l, (fun _ => 0), 0) d 0 0 m_Model_makesWords (RW fun _ τ => STW σ τ e (wW (σ 190) e)) 29 [some (vR 189), some (vI e), some (vI 0), some (vI i), some (vI x), none, none, none] [] gW τ 0 0 := by
      intro υ x Y hcut hx
      rcases hx with ⟨rfl, hx⟩ | ⟨x1, x2, x3, x4⟩
      · have e61 := wln_61 (ω := σ 190) (e := e) (i := i) (s := wal (σ 190) e i) (a := (to + 1).toNat) (Or.inr hno) (fun k q1 q2 => hx k (by omega) q2) (by omega)
        refine none_ 0 υ ?_ ?_
        · show 0 = b2i (wln (σ 190) e i 61 (wal (σ 190) e i)).2.1
          rw [e61, open_ false hcut]
          rfl
        · show STW σ υ e (wln (σ 190) e i 61 (wal (σ 190) e i))
          rw [e61]
          exact Y
      · have hxt : x ≠ to := fun q => hE.2.1 (q ▸ x3)
        have ex := wln_no (ω := σ 190) (e := e) (i := i) (s := wal (σ 190) e i) (a := (to + 1).toNat) (Or.inr hno) (x.toNat - (to + 1).toNat) (fun k q1 q2 => x4 k (by omega) (by omega))
        rw [show (to + 1).toNat + (x.toNat - (to + 1).toNat) = x.toNat by omega] at ex
        have := ih x υ (by omega) (by omega) x3 (Or.inr (x4 (x - 1) (by omega) (by omega))) (by rw [ex]; exact Y)
        rw [ex, open_ false hcut] at this
        exact this
    have run := fun w : Int => l_mw_114 (l := l) (i := i) (k := k) (to := to) (w := w) hd he L hρ hcap hi hk hE hL hks H1 H0
    have base : w32 (w32 (340 * e) + τ' 193 e) = 340 * e + τ' 193 e := by
      have := K.1
      rw [w32_of (x := 340 * e) (by omega) (by omega), w32_of (by omega) (by omega)]
    rw [base]
    refine ⟨by omega, by omega, fun q => ?_, fun q => ?_⟩
    · -- a new word
      have op : (wln (σ 190) e i k.toNat (wal (σ 190) e i)).2.1 = false := by
        cases hh : (wln (σ 190) e i k.toNat (wal (σ 190) e i)).2.1
        · rfl
        · rw [hh] at q
          cases q
      rw [op] at hst ⊢
      rw [if_neg (by simp)] at hst
      refine jwp_sound t_Model_makesWords _ (b_Model_makesWords_66 ?_)
      simp only [RW, true_and, and_true, and_self, true_or, or_true, Nat.reduceLeDiff, Nat.reduceEqDiff, Nat.reduceAdd, Int.reduceLE, Int.reduceLT, Int.reduceEq, Int.reduceNeg, Int.reduceNe, Nat.reduceSub, reduceIte, implies_true, true_implies, false_implies, and_true, gt_189, gr_189_4, gt_193, gr_189_6, gt_195, gr_189_7, gt_196, gr_189_8, gt_197, b2i_f]
      have hw0 := K.1
      have hcn : (wln (σ 190) e i k.toNat (wal (σ 190) e i)).1 + 1 ≤ 340 := by
        have : (wln (σ 190) e i (k.toNat + 1) (wal (σ 190) e i)).1 = (wln (σ 190) e i k.toNat (wal (σ 190) e i)).1 + 1 := by
          rw [hst]
          rfl
        omega
      rw [h193, w32_of (x := 340 * e + _ - 0) (by omega) (by omega), w32_of (x := _ + 1) (by omega) (by omega)]
      have ew : 340 * e + (wln (σ 190) e i k.toNat (wal (σ 190) e i)).1 - 0 = 340 * e + (wln (σ 190) e i k.toNat (wal (σ 190) e i)).1 := by omega
      rw [ew, w32_of (x := 21 * _) (by omega) (by omega)]
      have U := rw_new (i := i) (w := 340 * e + (wln (σ 190) e i k.toNat (wal (σ 190) e i)).1) he X.1 hw0 rfl (by omega)
      repeat (refine And.intro (by omega) ?_)
      refine run _ (to - k).toNat k _ (wnew i (wln (σ 190) e i k.toNat (wal (σ 190) e i))) (by omega) (Int.le_refl _) (by omega) ⟨U.1, X.2.tr U.2⟩ (Or.inl ⟨rfl, by rw [op]; rfl⟩) ?_ ?_ ?_ (wnew_ok K)
      · show _ = 340 * e + ((wln (σ 190) e i k.toNat (wal (σ 190) e i)).1 + 1 - 1)
        omega
      · show 1 ≤ (wln (σ 190) e i k.toNat (wal (σ 190) e i)).1 + 1
        omega
      · exact hcn
    · have op : (wln (σ 190) e i k.toNat (wal (σ 190) e i)).2.1 = true := by
        cases hh : (wln (σ 190) e i k.toNat (wal (σ 190) e i)).2.1
        · rw [hh] at q
          exact absurd rfl q
        · rfl
      have h1 := K.2.1 op
      rw [op]
      refine jwp_sound t_Model_makesWords _ (b_Model_makesWords_66 ?_)
      simp only [RW, true_and, and_true, and_self, true_or, or_true, Nat.reduceLeDiff, Nat.reduceEqDiff, Nat.reduceAdd, Int.reduceLE, Int.reduceLT, Int.reduceEq, Int.reduceNeg, Int.reduceNe, Nat.reduceSub, reduceIte, implies_true, true_implies, false_implies, and_true, gt_189, gr_189_4, gt_193, gr_189_6, gt_195, gr_189_7, gt_196, gr_189_8, gt_197, b2i_t]
      rw [h193, w32_of (x := 340 * e + _ - 1) (by omega) (by omega)]
      refine run _ (to - k).toNat k _ (wln (σ 190) e i k.toNat (wal (σ 190) e i)) (by omega) (Int.le_refl _) (by omega) X (Or.inl ⟨rfl, by rw [op]; rfl⟩) (by omega) h1 (by omega) K
theorem l_mw_11 (hd : 14 ≤ d) (he : 0 ≤ e ∧ e ≤ 1) (L : LOK (σ 190) e) (hρ : okρ (fo (σ 190))) (hcap : (wW (σ 190) e).1 ≤ 340) : ∀ (n i : Nat) (τ : jH), i + n = (σ 190 (3 + e)).toNat → STW σ τ e (wal (σ 190) e i) →
    Ev (l, (fun _ => 0), 0) d 0 0 m_Model_makesWords (RW fun _ τ => STW σ τ e (wW (σ 190) e)) 11 [some (vR 189), some (vI e), some (vI (b2i (wal (σ 190) e i).2.1)), some (vI i), none, none, none, none] [] gW τ 0 0
  | 0, i, τ, hn, X => by
    refine jwp_sound t_Model_makesWords _ (b_Model_makesWords_11 ?_)
    simp only [RW, true_and, and_true, and_self, true_or, or_true, Nat.reduceLeDiff, Nat.reduceEqDiff, Nat.reduceAdd, Int.reduceLE, Int.reduceLT, Int.reduceEq, Int.reduceNeg, Int.reduceNe, Nat.reduceSub, reduceIte, implies_true, gt_189, gr_189_4, gt_193, gr_189_6, gt_195, gr_189_7, gt_196, gr_189_8, gt_197]
    refine cN_p (c_Model_linesOf τ he.1 he.2) (by omega) ?_
    rw [X.w]
    refine ⟨fun _ => ?_, fun q => absurd q (by omega)⟩
    unfold wW
    rw [show (σ 190 (3 + e)).toNat = i by omega]
    exact X
  | n + 1, i, τ, hn, X => by
    have L' := L
    obtain ⟨L1, L2, L3⟩ := L'
    obtain ⟨L4, L5⟩ := L3 i (by omega) (by omega)
    refine jwp_sound t_Model_makesWords _ (b_Model_makesWords_11 ?_)
    simp only [RW, true_and, and_true, and_self, true_or, or_true, Nat.reduceLeDiff, Nat.reduceEqDiff, Nat.reduceAdd, Int.reduceLE, Int.reduceLT, Int.reduceEq, Int.reduceNeg, Int.reduceNe, Nat.reduceSub, reduceIte, implies_true, gt_189, gr_189_4, gt_193, gr_189_6, gt_195, gr_189_7, gt_196, gr_189_8, gt_197]
    refine cN_p (c_Model_linesOf τ he.1 he.2) (by omega) ?_
    have eω := X.w
    rw [eω]
    refine ⟨fun q => absurd q (by omega), fun _ => ?_⟩
    refine cN_w (c_Model_runFrom τ he.1 he.2 (by omega) (by omega) (by omega) (by rw [eω]; omega)) (by omega) (fun x τ' hz => ?_)
    obtain ⟨hx, rfl⟩ := hz
    rw [eω] at hx
    have H : ∀ τ, STW σ τ e (wal (σ 190) e (i + 1)) → Ev (l, (fun _ => 0), 0) d 0 0 m_Model_makesWords (RW fun _ τ => STW σ τ e (wW (σ 190) e)) 11 [some (vR 189), some (vI e), some (vI (b2i (wal (σ 190) e (i + 1)).2.1)), some (vI ((i + 1 : Nat) : Int)), none, none, none, none] [] gW τ 0 0 := fun υ Y => l_mw_11 hd he L hρ hcap n (i + 1) υ (by omega) Y
    rcases hx with ⟨rfl, hx⟩ | ⟨x1, x2, x3, x4⟩
    · have e61 := wln_61 (ω := σ 190) (e := e) (i := i) (s := wal (σ 190) e i) (a := 0) (Or.inl rfl) (fun k q1 q2 => hx k (by omega) q2) (by omega)
      have e62 : wal (σ 190) e (i + 1) = wal (σ 190) e i := e61
      refine jwp_sound t_Model_makesWords _ (b_Model_makesWords_29 ?_)
      simp only [RW, true_and, and_true, and_self, true_or, or_true, Nat.reduceLeDiff, Nat.reduceEqDiff, Nat.reduceAdd, Int.reduceLE, Int.reduceLT, Int.reduceEq, Int.reduceNeg, Int.reduceNe, Nat.reduceSub, reduceIte, implies_true, true_implies, false_implies, and_true, gt_189, gr_189_4, gt_193, gr_189_6, gt_195, gr_189_7, gt_196, gr_189_8, gt_197]
      rw [w32_of (by omega) (by omega)]
      have := H τ' (by rw [e62]; exact X)
      rw [e62] at this
      exact this
    · have ex := wln_no (ω := σ 190) (e := e) (i := i) (s := wal (σ 190) e i) (a := 0) (Or.inl rfl) x.toNat (fun k q1 q2 => x4 k (by omega) (by omega))
      rw [show 0 + x.toNat = x.toNat by omega] at ex
      have ex2 : wln (σ 190) e i x.toNat (wal (σ 190) e i) = wal (σ 190) e i := ex
      have := l_mw_29 hd he L hρ hcap (by omega) H (σ 190 (lA e i) - x).toNat x τ' (by omega) x1 x3 (by
        by_cases q : x = 0
        · exact Or.inl q
        · exact Or.inr (x4 (x - 1) (by omega) (by omega))) (by rw [ex2]; exact X)
      rw [ex2] at this
      exact this
end MX
theorem c_Model_makesWords {e : Int} (σ : jH) (he : 0 ≤ e ∧ e ≤ 1) (L : LOK (σ 190) e) (hρ : okρ (fo (σ 190))) (hcap : (wW (σ 190) e).1 ≤ 340) :
    Cw 14 m_Model_makesWords [vR 189, vI e] σ (fun _ τ => STW σ τ e (wW (σ 190) e)) := by
  refine Cw_of o_Model_makesWords rfl fun l d hd => jwp_sound t_Model_makesWords _ (b_Model_makesWords_0 ?_)
  simp only [RW, true_and, and_true, and_self, true_or, or_true, Nat.reduceLeDiff, Nat.reduceEqDiff, Nat.reduceAdd, Int.reduceLE, Int.reduceLT, Int.reduceEq, Int.reduceNeg, Int.reduceNe, Nat.reduceSub, reduceIte, implies_true, gt_189, gr_189_4, gt_193, gr_189_6, gt_195, gr_189_7, gt_196, gr_189_8, gt_197]
  refine ⟨by omega, by omega, ?_⟩
  have e190 : ju σ 193 e 0 190 = σ 190 := ju_row (by omega)
  have X : STW σ (ju σ 193 e 0) e (wal (σ 190) e 0) := ⟨⟨ju_self, fun p p0 p1 => absurd p1 (by show ¬ p < 0; omega)⟩, ⟨fun c c1 _ _ _ => ju_row c1, fun j hj => ju_ne2 hj, fun j _ => ⟨by rw [ju_row (by omega)], by rw [ju_row (by omega)]⟩, fun j _ => by rw [ju_row (by omega)]⟩⟩
  exact l_mw_11 hd he L hρ hcap (σ 190 (3 + e)).toNat 0 _ (by omega) X
