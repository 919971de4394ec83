/-! The reference: makesWords, its loops -/
def STW (σ τ : jH) (e : Int) (s : wS) : Prop := RWD τ e s ∧ FMW σ τ e
theorem STW.w {σ τ : jH} {e : Int} {s : wS} (h : STW σ τ e s) : τ 190 = σ 190 := h.2.1 190 (by omega) (by omega) (by omega) (by omega)
section MW
variable {l : Launch} {d : Nat} {e : Int} {σ : jH}
-- one line, from the place where a run begins
theorem l_mw_114 {i : Nat} {k to w : Int} (hd : 14 ≤ d) (he : 0 ≤ e ∧ e ≤ 1) (L : LOK (σ 190) e) (hρ : okρ (fo (σ 190))) (hcap : (wW (σ 190) e).1 ≤ 340) (hi : (i : Int) < σ 190 (3 + e)) (k0 : 0 ≤ k) (hE : RE (σ 190) e i k to) (hk : isL (bt (σ 190) e i k)) (hks : k = 0 ∨ ¬ isL (bt (σ 190) e i (k - 1)))
    (H1 : ∀ τ, STW σ τ e (wln (σ 190) e i (to + 1).toNat (wal (σ 190) e i)) → cutA (σ 190) e i to = true → Ev (l, (fun _ => 0), 0) d 0 0 m_Model_makesWords (RW fun _ τ => STW σ τ e (wW (σ 190) e)) 29 [some (vR 189), some (vI e), some (vI 1), some (vI i), some (vI (-1)), none, none, none] [] gW τ 0 0)
    (H0 : ∀ τ x, STW σ τ e (wln (σ 190) e i (to + 1).toNat (wal (σ 190) e i)) → cutA (σ 190) e i to = false → RF (σ 190) e i to x → Ev (l, (fun _ => 0), 0) d 0 0 m_Model_makesWords (RW fun _ τ => STW σ τ e (wW (σ 190) e)) 29 [some (vR 189), some (vI e), some (vI 0), some (vI i), some (vI x), none, none, none] [] gW τ 0 0) :
    ∀ (n : Nat) (x : Int) (τ : jH) (S : wS), to - x ≤ n → k ≤ x → x ≤ to → STW σ τ e S → ((x = k ∧ S = (if (wln (σ 190) e i k.toNat (wal (σ 190) e i)).2.1 = true then wln (σ 190) e i k.toNat (wal (σ 190) e i) else wnew i (wln (σ 190) e i k.toNat (wal (σ 190) e i)))) ∨ (k < x ∧ S = wln (σ 190) e i x.toNat (wal (σ 190) e i))) → w = 340 * e + (S.1 - 1) → 1 ≤ S.1 → S.1 ≤ 340 → wok S →
    Ev (l, (fun _ => 0), 0) d 0 0 m_Model_makesWords (RW fun _ τ => STW σ τ e (wW (σ 190) e)) 114 [some (vR 189), some (vI e), none, some (vI i), none, some (vI to), some (vI w), some (vI x)] [] gW τ 0 0 := by
  obtain ⟨L1, L2, L3⟩ := L
  obtain ⟨L4, L5⟩ := L3 i (by omega) hi
  have hto : to ≤ σ 190 (lA e i) := by
    by_cases q : to ≤ σ 190 (lA e i)
    · exact q
    · have h1 := hE.2.2 (to - 1) (by have := bt_nl hk; omega) (by omega)
      have := bt_nl h1
      omega
  have hkt : k < to := by
    by_cases q : k < to
    · exact q
    · have e1 : k = to := by have := hE.1; omega
      exact absurd (e1 ▸ hk) hE.2.1
  intro n
  induction n with
  | zero =>
    intro x τ S hn hx1 hx2 X hS hw h1 h2 K
    have ex : x = to := by omega
    subst ex
    have hS : S = wln (σ 190) e i x.toNat (wal (σ 190) e i) := by
      rcases hS with hS | hS
      · omega
      · exact hS.2
    have eω := X.w
    refine jwp_sound t_Model_makesWords _ (b_Model_makesWords_114 ?_)
    simp only [RW, true_and, and_true, and_self, true_or, or_true, Nat.reduceLeDiff, Nat.reduceEqDiff, Nat.reduceAdd, Int.reduceLE, Int.reduceLT, Int.reduceEq, Int.reduceNeg, Int.reduceNe, Nat.reduceSub, reduceIte, implies_true, gt_189, gr_189_4, gt_193, gr_189_6, gt_195, gr_189_7, gt_196, gr_189_8, gt_197]
    refine ⟨fun _ => ?_, fun q => absurd q (by omega)⟩
    refine cN_p (c_Model_isCut τ he.1 he.2 (by omega) (by omega) (by omega) (by rw [eω]; omega) (by rw [eω]; omega) (fun q => by rw [eω] at q ⊢; have := L3 (i + 1) (by omega) q; omega)) (by omega) ?_
    rw [eω]
    -- the state behind the run
    have hst : wln (σ 190) e i (x + 1).toNat (wal (σ 190) e i) = wend (cutA (σ 190) e i x) S := by
      rw [show (x + 1).toNat = x.toNat + 1 by omega]
      show wst (σ 190) e i ((x.toNat : Nat) : Int) (wln (σ 190) e i x.toNat (wal (σ 190) e i)) = _
      rw [← hS, show ((x.toNat : Nat) : Int) = x by omega]
      unfold wst
      rw [if_neg hE.2.1, if_pos ⟨by omega, hE.2.2 (x - 1) (by omega) (by omega)⟩]
    by_cases q : cutA (σ 190) e i x = true
    · rw [if_pos q]
      refine ⟨fun q2 => by omega, fun _ => ?_⟩
      refine jwp_sound t_Model_makesWords _ (b_Model_makesWords_174 ?_)
      simp only [RW, true_and, and_true, and_self, true_or, or_true, Nat.reduceLeDiff, Nat.reduceEqDiff, Nat.reduceAdd, Int.reduceLE, Int.reduceLT, Int.reduceEq, Int.reduceNeg, Int.reduceNe, Nat.reduceSub, reduceIte, implies_true, true_implies, false_implies, and_true, gt_189, gr_189_4, gt_193, gr_189_6, gt_195, gr_189_7, gt_196, gr_189_8, gt_197]
      have U := rw_end (c := cutA (σ 190) e i x) (v := 1) he X.1 h1 hw h2 (by rw [if_pos q])
      refine ⟨by omega, by omega, H1 _ ⟨by rw [hst]; exact U.1, X.2.tr U.2⟩ q⟩
    · rw [if_neg q]
      refine ⟨fun _ => ?_, fun q2 => absurd rfl q2⟩
      refine ⟨by omega, by omega, ?_⟩
      refine jwp_sound t_Model_makesWords _ (b_Model_makesWords_174 ?_)
      simp only [RW, true_and, and_true, and_self, true_or, or_true, Nat.reduceLeDiff, Nat.reduceEqDiff, Nat.reduceAdd, Int.reduceLE, Int.reduceLT, Int.reduceEq, Int.reduceNeg, Int.reduceNe, Nat.reduceSub, reduceIte, implies_true, true_implies, false_implies, and_true, gt_189, gr_189_4, gt_193, gr_189_6, gt_195, gr_189_7, gt_196, gr_189_8, gt_197]
      have U := rw_end (c := cutA (σ 190) e i x) (v := τ 196 w) he X.1 h1 hw h2 (by rw [if_neg q])
      have e190 : ju τ 196 w (τ 196 w) 190 = σ 190 := by rw [ju_row (by omega), eω]
      refine ⟨by omega, by omega, ?_⟩
      refine cN_w (c_Model_runFrom _ he.1 he.2 (by omega) (by omega) (by omega) (by rw [e190]; omega)) (by omega) (fun z τ' hz => ?_)
      obtain ⟨hz, rfl⟩ := hz
      rw [e190] at hz
      exact H0 _ z ⟨by rw [hst]; exact U.1, X.2.tr U.2⟩ (by simpa using q) hz
  | succ n ih =>
    intro x τ S hn hx1 hx2 X hS hw h1 h2 K
    by_cases hxt : x = to
    · exact ih x τ S (by omega) hx1 hx2 X hS hw h1 h2 K
    · have eω := X.w
      have hb := hE.2.2 x hx1 (by omega)
      refine jwp_sound t_Model_makesWords _ (b_Model_makesWords_114 ?_)
      simp only [RW, true_and, and_true, and_self, true_or, or_true, Nat.reduceLeDiff, Nat.reduceEqDiff, Nat.reduceAdd, Int.reduceLE, Int.reduceLT, Int.reduceEq, Int.reduceNeg, Int.reduceNe, Nat.reduceSub, reduceIte, implies_true, gt_189, gr_189_4, gt_193, gr_189_6, gt_195, gr_189_7, gt_196, gr_189_8, gt_197]
      refine ⟨fun q => absurd q (by omega), fun _ => ?_⟩
      refine cN_p (c_Model_byteOf τ he.1 he.2 (by omega) (by omega) (by omega) (by rw [eω]; omega)) (by omega) ?_
      rw [w32_of (x := 21 * w) (by omega) (by omega), w32_of (x := x + 1) (by omega) (by omega)]
      obtain ⟨a1, a2, a3, a4, a5⟩ := X.1.2 (S.1 - 1) (by omega) (by omega)
      rw [← hw] at a3
      refine cN_v (c_Model_adds τ (by omega) (by omega) a3.1 a3.2.1 (by rw [eω]; exact hb)) (by omega) (fun _ => ?_)
      have U := rw_add (b := bt (τ 190) e i x) he X.1 K (by rw [eω]; exact hρ) h1 hw h2 (by rw [eω]; exact hb)
      refine ih (x + 1) _ (wadd (bt (τ 190) e i x - 97) S) (by omega) (by omega) (by omega) ⟨U.1, X.2.tr U.2⟩ (Or.inr ⟨by omega, ?_⟩) hw h1 h2 (wadd_ok K h1 (by rw [eω]; omega) (by rw [eω]; omega))
      rw [eω, show (x + 1).toNat = x.toNat + 1 by omega]
      show _ = wst (σ 190) e i ((x.toNat : Nat) : Int) (wln (σ 190) e i x.toNat (wal (σ 190) e i))
      rw [show ((x.toNat : Nat) : Int) = x by omega]
      unfold wst
      rw [if_pos hb]
      rcases hS with ⟨rfl, hS⟩ | ⟨hkx, hS⟩
      · rw [if_neg (fun q => by rcases hks with hks | hks; · omega
                                · exact hks q.2), hS]
        split
        · rfl
        · rfl
      · rw [if_pos ⟨by omega, hE.2.2 (x - 1) (by omega) (by omega)⟩, hS]
end MW
