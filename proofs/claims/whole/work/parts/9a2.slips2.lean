/-! Slips: the reference's right, hand, copied -/
theorem mpd_r {φ f : Int → Int} {a j : Int} (h : okρ φ) (V : RV f a) (h0 : 0 ≤ j) : 0 ≤ mp φ (dgr f a j) ∧ mp φ (dgr f a j) < 32 := by
  by_cases q : j < f a
  · rw [mg_in V h0 q]
    have v := V.2.2 j h0 q
    have := h _ v.1 v.2
    omega
  · rw [mg_out (by omega)]
    omega
theorem km_iff {φ f g : Int → Int} {a b : Int} (h : okρ φ) (V : RV f a) (V' : RV g b) : km φ (rk f a) = km φ (rk g b) ↔ f a = g b ∧ ∀ j, 0 ≤ j → j < f a → φ (f (a + 1 + j)) = φ (g (b + 1 + j)) := by
  rw [km_rk V, km_rk V']
  have v1 := V.1
  have v2 := V.2.1
  have w1 := V'.1
  have w2 := V'.2.1
  constructor
  · intro e
    have I := rh_inj (m := 20) (fun j a _ => mpd_r h V a) (fun j a _ => mpd_r h V' a) e
    have le : f a = g b := by
      by_cases q1 : f a < g b
      · have := I (f a) v1 (by omega)
        rw [mg_out (Int.le_refl _), mg_in V' v1 q1] at this
        have v := V'.2.2 (f a) v1 q1
        have := h _ v.1 v.2
        omega
      · by_cases q2 : g b < f a
        · have := I (g b) w1 (by omega)
          rw [mg_out (Int.le_refl _), mg_in V w1 q2] at this
          have v := V.2.2 (g b) w1 q2
          have := h _ v.1 v.2
          omega
        · omega
    refine ⟨le, fun j j0 j1 => ?_⟩
    have := I j j0 (by omega)
    rw [mg_in V j0 j1, mg_in V' j0 (by omega)] at this
    omega
  · rintro ⟨e, he⟩
    apply rh_eq
    intro j j0 j1
    by_cases q : j < f a
    · rw [mg_in V j0 q, mg_in V' j0 (by omega), he j j0 q]
    · rw [mg_out (by omega), mg_out (by omega)]
section SM
variable {l : Launch} {d : Nat} {h p : Int} {ω : Int → Int} {σ : jH}
theorem c_Model_slipAt (σ : jH) (hh : 0 ≤ h ∧ h ≤ 3) (hp : 0 ≤ p ∧ p < 300) : Cw 10 m_Model_slipAt [vI h, vI p] σ (fun z τ => z = sAd h p ∧ τ = σ) := by
  refine Cw_of o_Model_slipAt rfl fun l d hd => jwp_sound t_Model_slipAt _ (b_Model_slipAt_0 ?_)
  simp only [RW, true_and, and_true, and_self, true_or, or_true, Nat.reduceLeDiff, Nat.reduceEqDiff, Nat.reduceAdd, Int.reduceLE, Int.reduceLT, Int.reduceEq, Int.reduceNeg, Int.reduceNe, Nat.reduceSub, reduceIte, implies_true]
  rw [w32_of (x := 300 * h) (by omega) (by omega), w32_of (x := 300 * h + p) (by omega) (by omega), w32_of (x := 21 * _) (by omega) (by omega), w32_of (by omega) (by omega)]
  rfl
theorem c_Model_hasS (e : σ 190 = ω) (S : SPO ω) (hh : 0 ≤ h ∧ h ≤ 3) (hp : 0 ≤ p ∧ p < 300) : Cw 11 m_Model_hasSlip [vR 189, vI h, vI p] σ (fun z τ => z = (if hasS ω h p then 1 else 0) ∧ τ = σ) := c_Model_hasSlip e S ⟨hh.1, by omega⟩ hp
theorem c_Model_isRight (R : RFR σ ω) (hal : ALP σ) (S : SPO ω) (hh : 0 ≤ h ∧ h ≤ 3) (hp : 0 ≤ p ∧ p < 300) : Cw 14 m_Model_isRight [vR 189, vI h, vI p] σ (fun z τ => z = (if rgtS ω h p then 1 else 0) ∧ FR1 σ τ 201) := by
  have w := R.W (e := 0) (by omega)
  have V : RV ω (sAd h p) := S (300 * h + p) (by omega) (by omega)
  have sa : 7477 ≤ sAd h p ∧ sAd h p + 20 < 32677 := by
    unfold sAd
    omega
  refine Cw_of o_Model_isRight rfl fun l d hd => jwp_sound t_Model_isRight _ (b_Model_isRight_0 ?_)
  simp only [RW, true_and, and_true, and_self, true_or, or_true, Nat.reduceLeDiff, Nat.reduceEqDiff, Nat.reduceAdd, Int.reduceLE, Int.reduceLT, Int.reduceEq, Int.reduceNeg, Int.reduceNe, Nat.reduceSub, reduceIte, implies_true, gt_189, gr_189_4, gt_193, gr_189_5, gt_194]
  rw [w.1]
  repeat (refine And.intro (by omega) ?_)
  refine ⟨fun q => ⟨by rw [if_neg (fun x => absurd x.1 (by omega))], fun _ _ => rfl⟩, fun q => ?_⟩
  have s0 : Cw 13 m_Model_slipForm [vR 189, vI h, vI p] σ (fun z τ => IXF ω (skey ω h p) z ∧ FR1 σ τ 201) := by
    refine Cw_of o_Model_slipForm rfl fun l d hd => jwp_sound t_Model_slipForm _ (b_Model_slipForm_0 ?_)
    simp only [RW, true_and, and_true, and_self, true_or, or_true, Nat.reduceLeDiff, Nat.reduceEqDiff, Nat.reduceAdd, Int.reduceLE, Int.reduceLT, Int.reduceEq, Int.reduceNeg, Int.reduceNe, Nat.reduceSub, reduceIte, implies_true, gt_189]
    refine cN_p (c_Model_slipAt _ hh hp) (by omega) ?_
    exact cN_w (c_ruledForm R hal V (by omega) sa.2) (by omega) (fun z τ h => h)
  refine cN_w s0 (by omega) (fun z τ hz => ?_)
  obtain ⟨hz, F⟩ := hz
  have dw0 := R.2.1.2.2.2.1 0 p (by omega) (by omega) hp.1 q
  have ix := ixf_f R hz dw0.1 dw0.2.1
  have e194 : τ 194 p = dw ω 0 p := by
    rw [F 194 (by omega)]
    have := R.2.2.2.2.2.2.1 0 p (by omega) (by omega) hp.1 q
    rwa [show 340 * 0 + p = p by omega] at this
  have dk : dF ω (dw ω 0 p) = KEY ω 0 p := dw0.2.2
  rw [e194]
  repeat (refine And.intro (by omega) ?_)
  by_cases g : skey ω h p = KEY ω 0 p
  · rw [if_pos ⟨q, g⟩]
    exact ⟨fun x => absurd (ix.mpr (g.trans dk.symm)) x, fun _ => ⟨rfl, F⟩⟩
  · rw [if_neg (fun x => g x.2)]
    exact ⟨fun _ => ⟨rfl, F⟩, fun x => absurd ((ix.mp x).trans dk) g⟩
theorem l_mh_33 {what : Int} (hd : 15 ≤ d) (R : RFR σ ω) (hal : ALP σ) (S : SPO ω) (hh : 0 ≤ h ∧ h ≤ 3) (hw : 0 ≤ what ∧ what ≤ 2) : ∀ (k p : Nat) (τ : jH), p + k = 300 → FR1 σ τ 201 →
    Ev (l, (fun _ => 0), 0) d 0 0 m_Model_hand (RW fun z τ => z = sq (handI ω h what) 300 ∧ FR1 σ τ 201) 33 [some (vR 189), some (vI h), some (vI what), some (vI (sq (handI ω h what) p)), some (vI p)] [] gW τ 0 0
  | 0, p, τ, q, F => by
    have p3 : p = 300 := by omega
    subst p3
    refine jwp_sound t_Model_hand _ (b_Model_hand_33 ?_)
    exact ⟨fun _ => ⟨rfl, rfl, F⟩, fun x => absurd x (by omega)⟩
  | k + 1, p, τ, q, F => by
    have IH := fun υ F2 => l_mh_33 hd R hal S hh hw k (p + 1) υ (by omega) F2
    have r := sq_le (handI_r ω h what) p
    rw [sq_s _ p, show ((p + 1 : Nat) : Int) = (p : Int) + 1 by omega] at IH
    have pp : 0 ≤ (p : Int) ∧ (p : Int) < 300 := ⟨by omega, by omega⟩
    have R' := R.of (τ := τ) (fun c h => F c (by omega))
    have hal' : ALP τ := fun x a b => by rw [F 200 (by omega)]; exact hal x a b
    have e190 := R'.2.2.2.1
    have w := R'.W (e := 0) (by omega)
    refine jwp_sound t_Model_hand _ (b_Model_hand_33 ?_)
    simp only [RW, true_and, and_true, and_self, true_or, or_true, Nat.reduceLeDiff, Nat.reduceEqDiff, Nat.reduceAdd, Int.reduceLE, Int.reduceLT, Int.reduceEq, Int.reduceNeg, Int.reduceNe, Nat.reduceSub, reduceIte, implies_true, gt_189, gr_189_4, gt_193]
    rw [w32_of (x := (p : Int) + 1) (by omega) (by omega), w32_of (x := sq (handI ω h what) p + 0) (by omega) (by omega), w32_of (x := sq (handI ω h what) p + 1) (by omega) (by omega)]
    refine ⟨fun x => absurd x (by omega), fun _ => ⟨fun w2 => ?_, fun w2 => ?_⟩⟩
    · refine cN_p (c_Model_hasS e190 S hh pp) (by omega) ?_
      by_cases g : hasS ω h p
      · rw [if_pos g]
        refine ⟨fun x => absurd x (by omega), fun _ => ⟨fun w0 => ?_, fun w0 => ?_⟩⟩
        · have e : handI ω h what p = 1 := by
            unfold handI
            rw [if_pos w0, if_pos g]
          rw [e] at IH
          exact IH τ F
        · refine cN_w (c_Model_isRight R' hal' S hh pp) (by omega) (fun z υ hz => ?_)
          obtain ⟨rfl, F2⟩ := hz
          have e : handI ω h what p = if hasS ω h p ∧ ¬ rgtS ω h p then 1 else 0 := by
            unfold handI
            rw [if_neg w0, if_pos (by omega)]
          rw [e] at IH
          by_cases g2 : rgtS ω h p
          · rw [if_neg (fun x => x.2 g2)] at IH
            rw [if_pos g2]
            exact ⟨fun _ => IH υ (F.tr F2), fun x => absurd x (by omega)⟩
          · rw [if_pos ⟨g, g2⟩] at IH
            rw [if_neg g2]
            exact ⟨fun x => absurd rfl x, fun _ => IH υ (F.tr F2)⟩
      · have e : handI ω h what p = 0 := by
          unfold handI
          by_cases w0 : what = 0
          · rw [if_pos w0, if_neg g]
          · rw [if_neg w0, if_pos (by omega), if_neg (fun x => g x.1)]
        rw [e] at IH
        rw [if_neg g]
        exact ⟨fun _ => IH τ F, fun x => absurd rfl x⟩
    · have e : handI ω h what p = if (p : Int) < (wW ω 0).1 ∧ ¬ hasS ω h p then 1 else 0 := by
        unfold handI
        rw [if_neg (by omega), if_neg (by omega)]
      rw [e] at IH
      rw [w.1]
      repeat (refine And.intro (by omega) ?_)
      refine ⟨fun q2 => ?_, fun q2 => ?_⟩
      · rw [if_neg (fun x => absurd x.1 (by omega))] at IH
        exact IH τ F
      · refine cN_p (c_Model_hasS e190 S hh pp) (by omega) ?_
        by_cases g : hasS ω h p
        · rw [if_neg (fun x => x.2 g)] at IH
          rw [if_pos g]
          exact ⟨fun _ => IH τ F, fun x => absurd x (by omega)⟩
        · rw [if_pos ⟨q2, g⟩] at IH
          rw [if_neg g]
          exact ⟨fun x => absurd rfl x, fun _ => IH τ F⟩
theorem c_Model_hand (R : RFR σ ω) (hal : ALP σ) (S : SPO ω) (h what : Int) : Cw 15 m_Model_hand [vR 189, vI h, vI what] σ (fun z τ => z = s_hand ω h what ∧ FR1 σ τ 201) := by
  unfold s_hand
  refine Cw_of o_Model_hand rfl fun l d hd => jwp_sound t_Model_hand _ (b_Model_hand_0 ?_)
  refine cN_p (c_Model_in _ _ _ _) (by omega) ?_
  by_cases hh : 0 ≤ h ∧ h ≤ 3
  · rw [if_pos hh]
    refine ⟨fun x => absurd x (by omega), fun _ => ?_⟩
    refine cN_p (c_Model_in _ _ _ _) (by omega) ?_
    by_cases hw : 0 ≤ what ∧ what ≤ 2
    · rw [if_pos hw, if_pos ⟨hh, hw⟩]
      exact ⟨fun _ => l_mh_33 hd R hal S hh hw 300 0 σ rfl (fun _ _ => rfl), fun x => absurd x (by omega)⟩
    · rw [if_neg hw, if_neg (fun x => hw x.2)]
      exact ⟨fun x => absurd rfl x, fun _ => ⟨rfl, rfl, fun _ _ => rfl⟩⟩
  · rw [if_neg hh, if_neg (fun x => hh x.1)]
    exact ⟨fun _ => ⟨rfl, rfl, fun _ _ => rfl⟩, fun x => absurd rfl x⟩
end SM
