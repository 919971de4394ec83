/-! The reference: count -/
theorem fcnt_r (ω : Int → Int) : ∀ n : Nat, 0 ≤ fcnt ω n ∧ fcnt ω n ≤ n
  | 0 => by simp [fcnt]
  | n + 1 => by
    have := fcnt_r ω n
    simp only [fcnt]
    split <;> omega
section RC2
variable {l : Launch} {d : Nat} {n : Int} {ω t : Int → Int} {σ : jH} {m w x : Int → Int}
theorem l_mc_106 (hd : 16 ≤ d) (e : σ 190 = ω) (S : SPO ω) : ∀ (k h : Nat), h + k = 4 →
    Ev (l, (fun _ => 0), 0) d 0 0 m_Model_count (RW fun z τ => z = scnt ω 1200 ∧ τ = σ) 106 [some (vR 189), none, some (vI (scnt ω (300 * h))), some (vI h)] [] gW σ 0 0
  | 0, h, q => by
    have h4 : h = 4 := by omega
    subst h4
    refine jwp_sound t_Model_count _ (b_Model_count_106 ?_)
    exact ⟨fun _ => ⟨rfl, rfl, rfl⟩, fun x => absurd x (by omega)⟩
  | k + 1, h, q => by
    have IH := l_mc_106 hd e S k (h + 1) (by omega)
    have r := scnt_r ω (300 * h)
    have r2 := scnt_r ω (300 * (h + 1))
    rw [show ((h + 1 : Nat) : Int) = (h : Int) + 1 by omega] at IH
    refine jwp_sound t_Model_count _ (b_Model_count_106 ?_)
    simp only [RW, true_and, and_true, and_self, true_or, or_true, Nat.reduceLeDiff, Nat.reduceEqDiff, Nat.reduceAdd, Int.reduceLE, Int.reduceLT, Int.reduceEq, Int.reduceNeg, Int.reduceNe, Nat.reduceSub, reduceIte, implies_true, gt_189, gr_189_1, gt_190, gr_189_4, gt_193, gr_189_47, gt_229]
    refine ⟨fun x => absurd x (by omega), fun _ => ?_⟩
    refine cN_p (c_hand0 e S (by omega)) (by omega) ?_
    rw [w32_of (x := (h : Int) + 1) (by omega) (by omega), w32_of (x := _ + _) (by omega) (by omega), show scnt ω (300 * h) + (scnt ω (300 * (h + 1)) - scnt ω (300 * h)) = scnt ω (300 * (h + 1)) by omega]
    exact IH
theorem l_mc_130 (hd : 16 ≤ d) (C : SLR σ m w x) : ∀ (k s : Nat), s + k = 4 →
    Ev (l, (fun _ => 0), 0) d 0 0 m_Model_count (RW fun z τ => z = mcnt m 4 ∧ τ = σ) 130 [some (vR 189), none, some (vI (mcnt m s)), some (vI s)] [] gW σ 0 0
  | 0, s, q => by
    have s4 : s = 4 := by omega
    subst s4
    refine jwp_sound t_Model_count _ (b_Model_count_130 ?_)
    exact ⟨fun _ => ⟨rfl, rfl, rfl⟩, fun x => absurd x (by omega)⟩
  | k + 1, s, q => by
    have IH := l_mc_130 hd C k (s + 1) (by omega)
    have r := mcnt_r m s
    obtain ⟨a, b, c⟩ := C s (by omega) (by omega)
    rw [show ((s + 1 : Nat) : Int) = (s : Int) + 1 by omega] at IH
    simp only [mcnt] at IH
    refine jwp_sound t_Model_count _ (b_Model_count_130 ?_)
    simp only [RW, true_and, and_true, and_self, true_or, or_true, Nat.reduceLeDiff, Nat.reduceEqDiff, Nat.reduceAdd, Int.reduceLE, Int.reduceLT, Int.reduceEq, Int.reduceNeg, Int.reduceNe, Nat.reduceSub, reduceIte, implies_true, gt_189, gr_189_1, gt_190, gr_189_4, gt_193, gr_189_47, gt_229]
    rw [a, w32_of (x := (s : Int) + 1) (by omega) (by omega), w32_of (x := mcnt _ _ + 0) (by omega) (by omega), w32_of (x := mcnt _ _ + 1) (by omega) (by omega)]
    refine ⟨fun x => absurd x (by omega), fun _ => ?_⟩
    repeat (refine And.intro (by omega) ?_)
    by_cases q2 : m s ≠ -1
    · rw [if_pos q2] at IH
      exact ⟨fun _ => IH, fun x => absurd x q2⟩
    · rw [if_neg q2] at IH
      exact ⟨fun x => absurd x q2, fun _ => IH⟩
theorem l_mc_163 (hd : 16 ≤ d) (e : σ 190 = ω) : ∀ (k a : Nat), a + k = 26 →
    Ev (l, (fun _ => 0), 0) d 0 0 m_Model_count (RW fun z τ => z = fcnt ω 26 ∧ τ = σ) 163 [some (vR 189), none, some (vI (fcnt ω a)), some (vI a)] [] gW σ 0 0
  | 0, a, q => by
    have a4 : a = 26 := by omega
    subst a4
    refine jwp_sound t_Model_count _ (b_Model_count_163 ?_)
    exact ⟨fun _ => ⟨rfl, rfl, rfl⟩, fun x => absurd x (by omega)⟩
  | k + 1, a, q => by
    have IH := l_mc_163 hd e k (a + 1) (by omega)
    have r := fcnt_r ω a
    rw [show ((a + 1 : Nat) : Int) = (a : Int) + 1 by omega] at IH
    simp only [fcnt] at IH
    refine jwp_sound t_Model_count _ (b_Model_count_163 ?_)
    simp only [RW, true_and, and_true, and_self, true_or, or_true, Nat.reduceLeDiff, Nat.reduceEqDiff, Nat.reduceAdd, Int.reduceLE, Int.reduceLT, Int.reduceEq, Int.reduceNeg, Int.reduceNe, Nat.reduceSub, reduceIte, implies_true, gt_189, gr_189_1, gt_190, gr_189_4, gt_193, gr_189_47, gt_229]
    rw [e, w32_of (x := (a : Int) + 1) (by omega) (by omega), w32_of (x := 5 + (a : Int)) (by omega) (by omega), w32_of (x := fcnt _ _ + 0) (by omega) (by omega), w32_of (x := fcnt _ _ + 1) (by omega) (by omega)]
    refine ⟨fun x => absurd x (by omega), fun _ => ?_⟩
    repeat (refine And.intro (by omega) ?_)
    by_cases q2 : ω (5 + a) = -1
    · rw [if_pos q2] at IH
      exact ⟨fun x => absurd q2 x, fun _ => IH⟩
    · rw [if_neg q2] at IH
      exact ⟨fun _ => IH, fun x => absurd x q2⟩
theorem c_Model_count (R : RFR σ ω) (S : SPO ω) (T : TPR σ n t) (M : SLR σ m w x) (what : Int) : Cw 16 m_Model_count [vR 189, vI what] σ (fun z τ => z = s_count ω n m what ∧ τ = σ) := by
  have e : σ 190 = ω := R.2.2.2.1
  have L0 := R.1.1
  have L1 := R.1.2.1
  have w0 := R.W (e := 0) (by omega)
  have w1 := R.W (e := 1) (by omega)
  have a1 := L0.1
  have a2 := L0.2.1
  have b1 := L1.1
  have b2 := L1.2.1
  rw [show (3 : Int) + 0 = 3 by omega] at a1 a2
  rw [show (3 : Int) + 1 = 4 by omega] at b1 b2
  refine Cw_of o_Model_count rfl fun l d hd => jwp_sound t_Model_count _ (b_Model_count_0 ?_)
  simp only [RW, true_and, and_true, and_self, true_or, or_true, Nat.reduceLeDiff, Nat.reduceEqDiff, Nat.reduceAdd, Int.reduceLE, Int.reduceLT, Int.reduceEq, Int.reduceNeg, Int.reduceNe, Nat.reduceSub, reduceIte, implies_true, gt_189, gr_189_1, gt_190, gr_189_4, gt_193, gr_189_47, gt_229]
  unfold s_count
  refine ⟨fun q => ?_, fun q => ?_, fun q => ?_, fun q => ?_, fun q => ?_, fun q => ?_, fun q => ?_, fun q => ?_, fun q => ?_, fun q => ?_⟩
  · rw [if_neg (by omega), if_neg (by omega), if_neg (by omega), if_neg (by omega), if_neg (by omega), if_neg (by omega), if_neg (by omega), if_neg (by omega), if_neg (by omega)]
  · subst q
    refine cN_p (c_Model_linesOf _ (by omega) (by omega)) (by omega) ?_
    refine cN_p (c_Model_linesOf _ (by omega) (by omega)) (by omega) ?_
    rw [e, show (3 : Int) + 0 = 3 by omega, show (3 : Int) + 1 = 4 by omega, w32_of (by omega) (by omega)]
    exact ⟨rfl, rfl⟩
  · subst q
    rw [w0.1, w1.1, w32_of (by omega) (by omega)]
    rfl
  · subst q
    rw [e]
    rfl
  · subst q
    rw [e]
    rfl
  · subst q
    rw [e]
    rfl
  · subst q
    exact T.1
  · subst q
    exact l_mc_106 hd e S 4 0 rfl
  · subst q
    exact l_mc_130 hd M 4 0 rfl
  · subst q
    exact l_mc_163 hd e 26 0 rfl
end RC2
