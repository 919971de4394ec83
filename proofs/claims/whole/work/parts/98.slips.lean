/-! Slips: which are right, which are alike; the class -/
def sAd (h p : Int) : Int := 7477 + 21 * (300 * h + p)
def skey (ω : Int → Int) (h p : Int) : Int := km (fo ω) (rk ω (sAd h p))
abbrev hasS (ω : Int → Int) (h p : Int) : Prop := ω (sAd h p) ≠ 0
abbrev rgtS (ω : Int → Int) (h p : Int) : Prop := p < (wW ω 0).1 ∧ skey ω h p = KEY ω 0 p
theorem skey_hl {ω : Int → Int} {h p : Int} (W : OKW ω) : skey ω h p / 1125899906842624 = hm (fo ω) 10 (rk ω (sAd h p) / 1125899906842624) ∧ skey ω h p % 1125899906842624 = hm (fo ω) 10 (rk ω (sAd h p) % 1125899906842624) := km_div W.2.2.1 _
def ind (P : Prop) [Decidable P] : Int := if P then 1 else 0
def handI (ω : Int → Int) (h what p : Int) : Int := if what = 0 then (if hasS ω h p then 1 else 0) else if what = 1 then (if hasS ω h p ∧ ¬ rgtS ω h p then 1 else 0) else (if p < (wW ω 0).1 ∧ ¬ hasS ω h p then 1 else 0)
def s_hand (ω : Int → Int) (h what : Int) : Int := if (0 ≤ h ∧ h ≤ 3) ∧ 0 ≤ what ∧ what ≤ 2 then sq (handI ω h what) 300 else -2000000000
def copI (ω : Int → Int) (a b p : Int) : Int := if (hasS ω a p ∧ ¬ rgtS ω a p) ∧ skey ω a p = skey ω b p then 1 else 0
def s_copied (ω : Int → Int) (a b : Int) : Int := if ((0 ≤ a ∧ a ≤ 3) ∧ 0 ≤ b ∧ b ≤ 3) ∧ a ≠ b then sq (copI ω a b) 300 else -2
theorem sq_le {g : Int → Int} (h : ∀ k, 0 ≤ g k ∧ g k ≤ 1) : ∀ n : Nat, 0 ≤ sq g n ∧ sq g n ≤ n
  | 0 => by simp [sq]
  | n + 1 => by
    have := sq_le h n
    have h2 := h n
    simp only [sq]
    omega
theorem sq_s (g : Int → Int) (n : Nat) : sq g (n + 1) = sq g n + g n := rfl
theorem handI_r (ω : Int → Int) (h what k : Int) : 0 ≤ handI ω h what k ∧ handI ω h what k ≤ 1 := by
  unfold handI
  repeat' split
  all_goals omega
theorem copI_r (ω : Int → Int) (a b k : Int) : 0 ≤ copI ω a b k ∧ copI ω a b k ≤ 1 := by
  unfold copI
  split <;> omega
def baI (ω : Int → Int) (h p : Int) : Int := if p < (wW ω 0).1 ∧ hasS ω h p then 1 else 0
theorem baI_r (ω : Int → Int) (h k : Int) : 0 ≤ baI ω h k ∧ baI ω h k ≤ 1 := by
  unfold baI
  split <;> omega
theorem bare_sum (ω : Int → Int) (h : Int) : ∀ n : Nat, sq (handI ω h 2) n + sq (baI ω h) n = min (n : Int) (wW ω 0).1
  | 0 => by
    have := wW_0 ω 0
    simp only [sq]
    omega
  | n + 1 => by
    have IH := bare_sum ω h n
    rw [sq_s, sq_s]
    have e : handI ω h 2 n + baI ω h n = if (n : Int) < (wW ω 0).1 then 1 else 0 := by
      unfold handI baI
      rw [if_neg (by omega), if_neg (by omega)]
      by_cases q1 : (n : Int) < (wW ω 0).1
      · by_cases q2 : hasS ω h n
        · rw [if_neg (fun x => x.2 q2), if_pos ⟨q1, q2⟩, if_pos q1]
          rfl
        · rw [if_pos ⟨q1, q2⟩, if_neg (fun x => q2 x.2), if_pos q1]
          rfl
      · rw [if_neg (fun x => q1 x.1), if_neg (fun x => q1 x.1), if_neg q1]
        rfl
    split at e <;> omega
section SL
variable {l : Launch} {d : Nat} {h p : Int} {ω : Int → Int} {σ : jH}
theorem c_slipAt (σ : jH) (hh : 0 ≤ h ∧ h ≤ 3) (hp : 0 ≤ p ∧ p < 300) : Cw 10 m_Image_slipAt [vI h, vI p] σ (fun z τ => z = 300 * h + p ∧ τ = σ) := by
  refine Cw_of o_Image_slipAt rfl fun l d hd => jwp_sound t_Image_slipAt _ (b_Image_slipAt_0 ?_)
  simp only [RW, true_and, and_true, and_self, true_or, or_true, Nat.reduceLeDiff, Nat.reduceEqDiff, Nat.reduceAdd, Int.reduceLE, Int.reduceLT, Int.reduceEq, Int.reduceNeg, Int.reduceNe, Nat.reduceSub, reduceIte, implies_true]
  rw [w32_of (x := h * 300) (by omega) (by omega), w32_of (x := h * 300 + p) (by omega) (by omega)]
  omega
theorem c_hasS (S : SPO ω) (C : SPC σ 3 ω) (hh : 0 ≤ h ∧ h ≤ 3) (hp : 0 ≤ p ∧ p < 300) : Cw 11 m_Image_hasSlip [vR 3, vI h, vI p] σ (fun z τ => z = (if hasS ω h p then 1 else 0) ∧ τ = σ) := c_hasSlip i3 S C ⟨hh.1, by omega⟩ hp
theorem c_isHand (h : Int) (σ : jH) : Cw 10 m_WordPlaces_isHand [vI h] σ (fun z τ => z = (if 0 ≤ h ∧ h ≤ 3 then 1 else 0) ∧ τ = σ) := by
  refine Cw_of o_WordPlaces_isHand rfl fun l d hd => jwp_sound t_WordPlaces_isHand _ (b_WordPlaces_isHand_0 ?_)
  simp only [RW, true_and, and_true, and_self, true_or, or_true, Nat.reduceLeDiff, Nat.reduceEqDiff, Nat.reduceAdd, Int.reduceLE, Int.reduceLT, Int.reduceEq, Int.reduceNeg, Int.reduceNe, Nat.reduceSub, reduceIte, implies_true]
  grind
theorem slip_b (W : OKW ω) (S : SPO ω) (C : SPC σ 3 ω) {q : Int} (q0 : 0 ≤ q) (q1 : q < 1200) : (σ 24 q = rk ω (7477 + 21 * q) / 1125899906842624 ∧ σ 25 q = rk ω (7477 + 21 * q) % 1125899906842624) ∧ 0 ≤ rk ω (7477 + 21 * q) ∧ rk ω (7477 + 21 * q) < 1267650600228229401496703205376 := ⟨C q q0 q1, rk_r (S q q0 q1)⟩
theorem c_slipHigh (W : OKW ω) (L : IML σ 3 ω) (S : SPO ω) (C : SPC σ 3 ω) (hh : 0 ≤ h ∧ h ≤ 3) (hp : 0 ≤ p ∧ p < 300) : Cw 11 m_Image_slipHigh [vR 3, vI (300 * h + p)] σ (fun z τ => z = skey ω h p / 1125899906842624 ∧ τ = σ) := by
  obtain ⟨⟨b1, b2⟩, b3, b4⟩ := slip_b W S C (q := 300 * h + p) (by omega) (by omega)
  have f5 : ∀ x, 0 ≤ x → x < 26 → σ 5 x = fo ω x := L.2.2.1
  have t5 : gW.2.1 5 = (2, 26) := gt_5
  refine Cw_of o_Image_slipHigh rfl fun l d hd => jwp_sound t_Image_slipHigh _ (b_Image_slipHigh_0 ?_)
  simp only [RW, true_and, and_true, and_self, true_or, or_true, Nat.reduceLeDiff, Nat.reduceEqDiff, Nat.reduceAdd, Int.reduceLE, Int.reduceLT, Int.reduceEq, Int.reduceNeg, Int.reduceNe, Nat.reduceSub, reduceIte, implies_true, gt_3, gr_3_0, gr_3_1, gr_3_2, gr_3_3, gr_3_4, gr_3_5, gr_3_6, gt_4, gr_4_1, gr_4_2, gr_4_4, gr_4_6, gr_4_8, gr_4_9, gr_4_10, gt_23, gr_23_0, gr_23_1, gt_24, gt_25, t5]
  refine ⟨fun q => absurd q (by omega), fun _ => ⟨fun q => absurd q (by omega), fun _ => ?_⟩⟩
  repeat (refine And.intro (by omega) ?_)
  rw [b1]
  refine cN_p (c_Key_mapped _ t5 (fun x a b => by rw [f5 x a b]; exact W.2.2.1 x a b) (by omega) (by omega)) (by omega) ?_
  rw [hm_eq f5]
  exact ⟨(skey_hl W).1.symm, rfl⟩
theorem c_slipLow (W : OKW ω) (L : IML σ 3 ω) (S : SPO ω) (C : SPC σ 3 ω) (hh : 0 ≤ h ∧ h ≤ 3) (hp : 0 ≤ p ∧ p < 300) : Cw 11 m_Image_slipLow [vR 3, vI (300 * h + p)] σ (fun z τ => z = skey ω h p % 1125899906842624 ∧ τ = σ) := by
  obtain ⟨⟨b1, b2⟩, b3, b4⟩ := slip_b W S C (q := 300 * h + p) (by omega) (by omega)
  have f5 : ∀ x, 0 ≤ x → x < 26 → σ 5 x = fo ω x := L.2.2.1
  have t5 : gW.2.1 5 = (2, 26) := gt_5
  refine Cw_of o_Image_slipLow rfl fun l d hd => jwp_sound t_Image_slipLow _ (b_Image_slipLow_0 ?_)
  simp only [RW, true_and, and_true, and_self, true_or, or_true, Nat.reduceLeDiff, Nat.reduceEqDiff, Nat.reduceAdd, Int.reduceLE, Int.reduceLT, Int.reduceEq, Int.reduceNeg, Int.reduceNe, Nat.reduceSub, reduceIte, implies_true, gt_3, gr_3_0, gr_3_1, gr_3_2, gr_3_3, gr_3_4, gr_3_5, gr_3_6, gt_4, gr_4_1, gr_4_2, gr_4_4, gr_4_6, gr_4_8, gr_4_9, gr_4_10, gt_23, gr_23_0, gr_23_1, gt_24, gt_25, t5]
  refine ⟨fun q => absurd q (by omega), fun _ => ⟨fun q => absurd q (by omega), fun _ => ?_⟩⟩
  repeat (refine And.intro (by omega) ?_)
  rw [b2]
  refine cN_p (c_Key_mapped _ t5 (fun x a b => by rw [f5 x a b]; exact W.2.2.1 x a b) (by omega) (by omega)) (by omega) ?_
  rw [hm_eq f5]
  exact ⟨(skey_hl W).2.symm, rfl⟩
theorem c_areAlike {a b : Int} (W : OKW ω) (L : IML σ 3 ω) (S : SPO ω) (C : SPC σ 3 ω) (ha : 0 ≤ a ∧ a ≤ 3) (hb : 0 ≤ b ∧ b ≤ 3) (hp : 0 ≤ p ∧ p < 300) : Cw 12 m_WordPlaces_areAlike [vR 1, vI (300 * a + p), vI (300 * b + p)] σ (fun z τ => z = (if skey ω a p = skey ω b p then 1 else 0) ∧ τ = σ) := by
  refine Cw_of o_WordPlaces_areAlike rfl fun l d hd => jwp_sound t_WordPlaces_areAlike _ (b_WordPlaces_areAlike_0 ?_)
  simp only [RW, true_and, and_true, and_self, true_or, or_true, Nat.reduceLeDiff, Nat.reduceEqDiff, Nat.reduceAdd, Int.reduceLE, Int.reduceLT, Int.reduceEq, Int.reduceNeg, Int.reduceNe, Nat.reduceSub, reduceIte, implies_true, gt_1, gr_1_2, gt_3]
  refine cN_p (c_slipHigh W L S C ha hp) (by omega) ?_
  refine cN_p (c_slipHigh W L S C hb hp) (by omega) ?_
  simp only [jcmp_0, jcmp_n0]
  refine ⟨fun q => ⟨by rw [if_neg (by omega)], trivial⟩, fun q => ?_⟩
  refine cN_p (c_slipLow W L S C ha hp) (by omega) ?_
  refine cN_p (c_slipLow W L S C hb hp) (by omega) ?_
  simp only [jcmp_0, jcmp_n0]
  exact ⟨fun q2 => ⟨by rw [if_neg (by omega)], trivial⟩, fun q2 => ⟨by rw [if_pos (by omega)], trivial⟩⟩
theorem c_isWrong (W : OKW ω) (D : CDR σ ω) (L : IML σ 3 ω) (S : SPO ω) (C : SPC σ 3 ω) (hh : 0 ≤ h ∧ h ≤ 3) (hp : 0 ≤ p ∧ p < 300) : Cw 12 m_WordPlaces_isWrong [vR 1, vR 105, vI h, vI p] σ (fun z τ => z = (if rgtS ω h p then 0 else 1) ∧ τ = σ) := by
  have T : CWD σ 105 (fo ω) (wW ω 0) (wW ω 0).1 := (D.W (e := 0) (by omega)).1
  have hW : isWords 105 := by
    unfold isWords
    omega
  refine Cw_of o_WordPlaces_isWrong rfl fun l d hd => jwp_sound t_WordPlaces_isWrong _ (b_WordPlaces_isWrong_0 ?_)
  simp only [RW, true_and, and_true, and_self, true_or, or_true, Nat.reduceLeDiff, Nat.reduceEqDiff, Nat.reduceAdd, Int.reduceLE, Int.reduceLT, Int.reduceEq, Int.reduceNeg, Int.reduceNe, Nat.reduceSub, reduceIte, implies_true, gt_1, gr_1_2, gt_3]
  refine cN_p (c_slipAt _ hh hp) (by omega) ?_
  simp only [RW, true_and, and_true, and_self, true_or, or_true, Nat.reduceLeDiff, Nat.reduceEqDiff, Nat.reduceAdd, Int.reduceLE, Int.reduceLT, Int.reduceEq, Int.reduceNeg, Int.reduceNe, Nat.reduceSub, reduceIte, implies_true, wd_t hW, wd_r1 hW, wd_t1 hW, wd_r2 hW, wd_t2 hW, wd_r3 hW, wd_t3 hW, wd_r4 hW, wd_t4 hW, wd_r5 hW, wd_t5 hW, wd_r6 hW, wd_t6 hW, wd_r7 hW, wd_t7 hW, wd_r8 hW, wd_t8 hW, wd_r10 hW, wd_t10 hW, wd_r11 hW, wd_t11 hW, wd_r12 hW, wd_t12 hW, wd_r13 hW, wd_t13 hW]
  rw [T.1]
  refine ⟨fun q => by rw [if_neg (fun x => absurd x.1 (by omega))], fun q => ?_⟩
  refine cN_p (c_slipHigh W L S C hh hp) (by omega) ?_
  refine cN_p (c_slipLow W L S C hh hp) (by omega) ?_
  refine cN_p (c_KeyRow_holds (n := 300) (kr_Words_1 hW) _ _ _ _) (by omega) ?_
  have k := kkv_iff (v := skey ω h p) (T.2.2.1 p hp.1 q)
  by_cases g : skey ω h p = KEY ω 0 p
  · rw [if_pos ⟨hp.1, hp.2, k.mpr g.symm⟩, if_pos ⟨q, g⟩]
    exact ⟨fun _ => ⟨rfl, rfl⟩, fun x => absurd x (by omega)⟩
  · rw [if_neg (fun x => g (k.mp x.2.2).symm), if_neg (fun x => g x.2)]
    exact ⟨fun x => absurd rfl x, fun _ => ⟨rfl, rfl⟩⟩
theorem l_hand_40 {what : Int} (hd : 16 ≤ d) (W : OKW ω) (D : CDR σ ω) (L : IML σ 3 ω) (S : SPO ω) (C : SPC σ 3 ω) (hh : 0 ≤ h ∧ h ≤ 3) (hw : 0 ≤ what ∧ what ≤ 2) : ∀ (k p : Nat), p + k = 300 →
    Ev (l, (fun _ => 0), 0) d 0 0 m_WordPlaces_hand (RW fun z τ => z = sq (handI ω h what) 300 ∧ τ = σ) 40 [some (vR 1), some (vI h), some (vI what), some (vR 105), some (vI (sq (handI ω h 0) p)), some (vI (sq (handI ω h 1) p)), some (vI ((wW ω 0).1 - sq (baI ω h) p)), some (vI p)] [] gW σ 0 0
  | 0, p, q => by
    have p3 : p = 300 := by omega
    subst p3
    have bs := bare_sum ω h 300
    have w := W.n (e := 0) (by omega)
    refine jwp_sound t_WordPlaces_hand _ (b_WordPlaces_hand_40 ?_)
    simp only [RW, true_and, and_true, and_self, true_or, or_true, Nat.reduceLeDiff, Nat.reduceEqDiff, Nat.reduceAdd, Int.reduceLE, Int.reduceLT, Int.reduceEq, Int.reduceNeg, Int.reduceNe, Nat.reduceSub, reduceIte, implies_true]
    refine ⟨fun _ => ⟨fun a => ⟨fun b => ?_, fun b => ?_⟩, fun a => ?_⟩, fun x => absurd x (by omega)⟩
    · rw [show what = 2 by omega]
      omega
    · rw [b]
    · rw [a]
  | k + 1, p, q => by
    have IH := l_hand_40 hd W D L S C hh hw k (p + 1) (by omega)
    have T : CWD σ 105 (fo ω) (wW ω 0) (wW ω 0).1 := (D.W (e := 0) (by omega)).1
    have r0 := sq_le (handI_r ω h 0) p
    have r1 := sq_le (handI_r ω h 1) p
    have r2 := sq_le (baI_r ω h) p
    have w := W.n (e := 0) (by omega)
    have e0 : handI ω h 0 p = if hasS ω h p then 1 else 0 := if_pos rfl
    have e1 : handI ω h 1 p = if hasS ω h p ∧ ¬ rgtS ω h p then 1 else 0 := by
      unfold handI
      rw [if_neg (by omega), if_pos rfl]
    rw [sq_s _ p, sq_s _ p, sq_s _ p, e0, e1, show ((p + 1 : Nat) : Int) = (p : Int) + 1 by omega] at IH
    unfold baI at IH
    refine jwp_sound t_WordPlaces_hand _ (b_WordPlaces_hand_40 ?_)
    simp only [RW, true_and, and_true, and_self, true_or, or_true, Nat.reduceLeDiff, Nat.reduceEqDiff, Nat.reduceAdd, Int.reduceLE, Int.reduceLT, Int.reduceEq, Int.reduceNeg, Int.reduceNe, Nat.reduceSub, reduceIte, implies_true, gt_1, gr_1_2, gt_3]
    rw [w32_of (x := (p : Int) + 1) (by omega) (by omega), w32_of (x := sq (handI ω h 0) p + 1) (by omega) (by omega)]
    refine ⟨fun x => absurd x (by omega), fun _ => ?_⟩
    refine cN_p (c_hasS S C hh ⟨by omega, by omega⟩) (by omega) ?_
    by_cases g : hasS ω h p
    · rw [if_pos g] at IH
      rw [if_pos g]
      refine ⟨fun x => absurd x (by omega), fun _ => ?_⟩
      refine cN_p (c_isWrong W D L S C hh ⟨by omega, by omega⟩) (by omega) ?_
      have hW : isWords 105 := by
        unfold isWords
        omega
      have next : ∀ v : Int, 0 ≤ v → v ≤ 1 → (v = if hasS ω h p ∧ ¬ rgtS ω h p then 1 else 0) → Ev (l, (fun _ => 0), 0) d 0 0 m_WordPlaces_hand (RW fun z τ => z = sq (handI ω h what) 300 ∧ τ = σ) 82 [some (vR 1), some (vI h), some (vI what), some (vR 105), some (vI (sq (handI ω h 0) p + 1)), none, some (vI ((wW ω 0).1 - sq (fun p => if p < (wW ω 0).1 ∧ hasS ω h p then 1 else 0) p)), some (vI p)] [vI v, vI (sq (handI ω h 1) p)] gW σ 0 0 := fun v v0 v1 hv => by
        rw [← hv] at IH
        have r2' : 0 ≤ sq (fun p => if p < (wW ω 0).1 ∧ hasS ω h p then 1 else 0) p ∧ sq (fun p => if p < (wW ω 0).1 ∧ hasS ω h p then 1 else 0) p ≤ p := r2
        refine jwp_sound t_WordPlaces_hand _ (b_WordPlaces_hand_82 ?_)
        simp only [RW, true_and, and_true, and_self, true_or, or_true, Nat.reduceLeDiff, Nat.reduceEqDiff, Nat.reduceAdd, Int.reduceLE, Int.reduceLT, Int.reduceEq, Int.reduceNeg, Int.reduceNe, Nat.reduceSub, reduceIte, implies_true, wd_t hW, wd_r1 hW, wd_t1 hW, wd_r2 hW, wd_t2 hW, wd_r3 hW, wd_t3 hW, wd_r4 hW, wd_t4 hW, wd_r5 hW, wd_t5 hW, wd_r6 hW, wd_t6 hW, wd_r7 hW, wd_t7 hW, wd_r8 hW, wd_t8 hW, wd_r10 hW, wd_t10 hW, wd_r11 hW, wd_t11 hW, wd_r12 hW, wd_t12 hW, wd_r13 hW, wd_t13 hW]
        rw [T.1, w32_of (x := (p : Int) + 1) (by omega) (by omega), w32_of (x := sq (handI ω h 1) p + v) (by omega) (by omega), w32_of (x := _ - 0) (by omega) (by omega), w32_of (x := _ - 1) (by omega) (by omega)]
        refine ⟨fun q2 => ?_, fun q2 => ?_⟩
        · rw [if_neg (fun x => absurd x.1 (by omega)), Int.add_zero] at IH
          rw [Int.sub_zero]
          exact IH
        · rw [if_pos ⟨q2, g⟩, ← Int.sub_sub] at IH
          exact IH
      by_cases g2 : rgtS ω h p
      · rw [if_pos g2]
        exact ⟨fun _ => next 0 (by omega) (by omega) (by rw [if_neg (fun x => x.2 g2)]), fun x => absurd rfl x⟩
      · rw [if_neg g2]
        exact ⟨fun x => absurd x (by omega), fun _ => next 1 (by omega) (by omega) (by rw [if_pos ⟨g, g2⟩])⟩
    · rw [if_neg g, if_neg (fun x => g x.1), if_neg (fun x => g x.2), Int.add_zero, Int.add_zero, Int.add_zero] at IH
      rw [if_neg g]
      exact ⟨fun _ => IH, fun x => absurd rfl x⟩
theorem c_hand (C : CFR σ ω) (S : SPO ω) (P : SPC σ 3 ω) (h what : Int) : Cw 16 m_WordPlaces_hand [vR 1, vI h, vI what] σ (fun z τ => z = s_hand ω h what ∧ FRQ σ τ ω) := by
  have hW : isWords 105 := by
    unfold isWords
    omega
  unfold s_hand
  refine Cw_of o_WordPlaces_hand rfl fun l d hd => jwp_sound t_WordPlaces_hand _ (b_WordPlaces_hand_0 ?_)
  simp only [RW, true_and, and_true, and_self, true_or, or_true, Nat.reduceLeDiff, Nat.reduceEqDiff, Nat.reduceAdd, Int.reduceLE, Int.reduceLT, Int.reduceEq, Int.reduceNeg, Int.reduceNe, Nat.reduceSub, reduceIte, implies_true, gt_1, gr_1_2, gt_3]
  refine cN_p (c_isHand _ _) (by omega) ?_
  by_cases hh : 0 ≤ h ∧ h ≤ 3
  · rw [if_pos hh]
    refine ⟨fun x => absurd x (by omega), fun _ => ⟨fun q => ⟨by rw [if_neg (by omega)], FRQ.rf⟩, fun q => ⟨fun q2 => ?_, fun q2 => ⟨by rw [if_neg (by omega)], FRQ.rf⟩⟩⟩⟩
    refine cN_w (c_freshWords C (e := 0) (by omega)) (by omega) (fun z τ hτ => ?_)
    obtain ⟨rfl, hτ⟩ := hτ
    have T : CWD τ 105 (fo ω) (wW ω 0) (wW ω 0).1 := (hτ.2.2.W (e := 0) (by omega)).1
    have C' := C.of hτ.1
    have P' : SPC τ 3 ω := fun q a b => by
      have := P q a b
      unfold KKV at this ⊢
      rw [hτ.1.1 _ (by omega), hτ.1.1 _ (by omega)]
      exact this
    rw [show wb 0 = 105 from rfl]
    simp only [RW, true_and, and_true, and_self, true_or, or_true, Nat.reduceLeDiff, Nat.reduceEqDiff, Nat.reduceAdd, Int.reduceLE, Int.reduceLT, Int.reduceEq, Int.reduceNeg, Int.reduceNe, Nat.reduceSub, reduceIte, implies_true, wd_t hW, wd_r1 hW, wd_t1 hW, wd_r2 hW, wd_t2 hW, wd_r3 hW, wd_t3 hW, wd_r4 hW, wd_t4 hW, wd_r5 hW, wd_t5 hW, wd_r6 hW, wd_t6 hW, wd_r7 hW, wd_t7 hW, wd_r8 hW, wd_t8 hW, wd_r10 hW, wd_t10 hW, wd_r11 hW, wd_t11 hW, wd_r12 hW, wd_t12 hW, wd_r13 hW, wd_t13 hW]
    rw [T.1, if_pos ⟨hh, q, q2⟩]
    have go := l_hand_40 (l := l) hd C.1 hτ.2.2 C'.2.1 S P' hh ⟨q, q2⟩ 300 0 rfl
    rw [show (wW ω 0).1 - sq (baI ω h) 0 = (wW ω 0).1 from Int.sub_zero _] at go
    refine Ev_post go (fun z υ hυ => ?_)
    obtain ⟨h1, h2⟩ := hυ
    rw [h2]
    exact ⟨h1, hτ.1⟩
  · rw [if_neg hh, if_neg (fun x => hh x.1)]
    exact ⟨fun _ => ⟨rfl, FRQ.rf⟩, fun x => absurd rfl x⟩
theorem l_copied_34 {a b : Int} (hd : 16 ≤ d) (W : OKW ω) (D : CDR σ ω) (L : IML σ 3 ω) (S : SPO ω) (C : SPC σ 3 ω) (ha : 0 ≤ a ∧ a ≤ 3) (hb : 0 ≤ b ∧ b ≤ 3) : ∀ (k p : Nat), p + k = 300 →
    Ev (l, (fun _ => 0), 0) d 0 0 m_WordPlaces_copied (RW fun z τ => z = sq (copI ω a b) 300 ∧ τ = σ) 34 [some (vR 1), some (vI a), some (vI b), some (vR 105), some (vI (sq (copI ω a b) p)), some (vI p)] [] gW σ 0 0
  | 0, p, q => by
    have p3 : p = 300 := by omega
    subst p3
    refine jwp_sound t_WordPlaces_copied _ (b_WordPlaces_copied_34 ?_)
    exact ⟨fun _ => ⟨rfl, rfl, rfl⟩, fun x => absurd x (by omega)⟩
  | k + 1, p, q => by
    have IH := l_copied_34 hd W D L S C ha hb k (p + 1) (by omega)
    have r0 := sq_le (copI_r ω a b) p
    rw [sq_s _ p, show ((p + 1 : Nat) : Int) = (p : Int) + 1 by omega] at IH
    have pp : 0 ≤ (p : Int) ∧ (p : Int) < 300 := ⟨by omega, by omega⟩
    have e0 : copI ω a b p = if (hasS ω a p ∧ ¬ rgtS ω a p) ∧ skey ω a p = skey ω b p then 1 else 0 := rfl
    refine jwp_sound t_WordPlaces_copied _ (b_WordPlaces_copied_34 ?_)
    simp only [RW, true_and, and_true, and_self, true_or, or_true, Nat.reduceLeDiff, Nat.reduceEqDiff, Nat.reduceAdd, Int.reduceLE, Int.reduceLT, Int.reduceEq, Int.reduceNeg, Int.reduceNe, Nat.reduceSub, reduceIte, implies_true, gt_1, gr_1_2, gt_3]
    rw [w32_of (x := (p : Int) + 1) (by omega) (by omega), w32_of (x := sq (copI ω a b) p + 1) (by omega) (by omega)]
    refine ⟨fun x => absurd x (by omega), fun _ => ?_⟩
    refine cN_p (c_hasS S C ha pp) (by omega) ?_
    by_cases g : hasS ω a p
    · rw [if_pos g]
      refine ⟨fun x => absurd x (by omega), fun _ => ?_⟩
      refine cN_p (c_isWrong W D L S C ha pp) (by omega) ?_
      by_cases g2 : rgtS ω a p
      · rw [if_pos g2]
        rw [e0, if_neg (fun x => x.1.2 g2), Int.add_zero] at IH
        exact ⟨fun _ => IH, fun x => absurd rfl x⟩
      · rw [if_neg g2]
        refine ⟨fun x => absurd x (by omega), fun _ => ?_⟩
        refine cN_p (c_slipAt _ ha pp) (by omega) ?_
        refine cN_p (c_slipAt _ hb pp) (by omega) ?_
        refine cN_p (c_areAlike W L S C ha hb pp) (by omega) ?_
        by_cases g3 : skey ω a p = skey ω b p
        · rw [if_pos g3]
          rw [e0, if_pos ⟨⟨g, g2⟩, g3⟩] at IH
          exact ⟨fun x => absurd x (by omega), fun _ => IH⟩
        · rw [if_neg g3]
          rw [e0, if_neg (fun x => g3 x.2), Int.add_zero] at IH
          exact ⟨fun _ => IH, fun x => absurd rfl x⟩
    · rw [if_neg g]
      rw [e0, if_neg (fun x => g x.1.1), Int.add_zero] at IH
      exact ⟨fun _ => IH, fun x => absurd rfl x⟩
theorem c_copied (C : CFR σ ω) (S : SPO ω) (P : SPC σ 3 ω) (a b : Int) : Cw 16 m_WordPlaces_copied [vR 1, vI a, vI b] σ (fun z τ => z = s_copied ω a b ∧ FRQ σ τ ω) := by
  unfold s_copied
  refine Cw_of o_WordPlaces_copied rfl fun l d hd => jwp_sound t_WordPlaces_copied _ (b_WordPlaces_copied_0 ?_)
  simp only [RW, true_and, and_true, and_self, true_or, or_true, Nat.reduceLeDiff, Nat.reduceEqDiff, Nat.reduceAdd, Int.reduceLE, Int.reduceLT, Int.reduceEq, Int.reduceNeg, Int.reduceNe, Nat.reduceSub, reduceIte, implies_true, gt_1, gr_1_2, gt_3]
  refine cN_p (c_isHand _ _) (by omega) ?_
  by_cases ha : 0 ≤ a ∧ a ≤ 3
  · rw [if_pos ha]
    refine ⟨fun x => absurd x (by omega), fun _ => ?_⟩
    refine cN_p (c_isHand _ _) (by omega) ?_
    by_cases hb : 0 ≤ b ∧ b ≤ 3
    · rw [if_pos hb]
      refine ⟨fun x => absurd x (by omega), fun _ => ⟨fun q => ?_, fun q => ⟨by rw [if_neg (fun x => x.2 q)], FRQ.rf⟩⟩⟩
      refine cN_w (c_freshWords C (e := 0) (by omega)) (by omega) (fun z τ hτ => ?_)
      obtain ⟨rfl, hτ⟩ := hτ
      have C' := C.of hτ.1
      have P' : SPC τ 3 ω := fun q a b => by
        have := P q a b
        unfold KKV at this ⊢
        rw [hτ.1.1 _ (by omega), hτ.1.1 _ (by omega)]
        exact this
      rw [show wb 0 = 105 from rfl, if_pos ⟨⟨ha, hb⟩, q⟩]
      have go := l_copied_34 (l := l) hd C.1 hτ.2.2 C'.2.1 S P' ha hb 300 0 rfl
      refine Ev_post go (fun z υ hυ => ?_)
      obtain ⟨h1, h2⟩ := hυ
      rw [h2]
      exact ⟨h1, hτ.1⟩
    · rw [if_neg hb, if_neg (fun x => hb x.1.2)]
      exact ⟨fun _ => ⟨rfl, FRQ.rf⟩, fun x => absurd rfl x⟩
  · rw [if_neg ha, if_neg (fun x => ha x.1.1)]
    exact ⟨fun _ => ⟨rfl, FRQ.rf⟩, fun x => absurd rfl x⟩
end SL
