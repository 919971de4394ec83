/-! Slips: the reference's copied -/
section SN
variable {l : Launch} {d : Nat} {a b p : Int} {ω : Int → Int} {σ : jH}
theorem l_al_41 {A B : Int} (hd : 11 ≤ d) (e : σ 190 = ω) (V : RV ω A) (V' : RV ω B) (hA : 0 ≤ A ∧ A + 20 < 32677) (hB : 0 ≤ B ∧ B + 20 < 32677) : ∀ (k : Nat) (i v : Int), i + k = ω A + 1 → 1 ≤ i → ((v = 1 ∧ ω A = ω B ∧ ∀ j, 0 ≤ j → j < i - 1 → fo ω (ω (A + 1 + j)) = fo ω (ω (B + 1 + j))) ∨ (v = 0 ∧ ¬ (ω A = ω B ∧ ∀ j, 0 ≤ j → j < ω A → fo ω (ω (A + 1 + j)) = fo ω (ω (B + 1 + j))))) →
    Ev (l, (fun _ => 0), 0) d 0 0 m_Model_areAlike (RW fun z τ => ((z = 1 ∧ (ω A = ω B ∧ ∀ j, 0 ≤ j → j < ω A → fo ω (ω (A + 1 + j)) = fo ω (ω (B + 1 + j)))) ∨ (z = 0 ∧ ¬ (ω A = ω B ∧ ∀ j, 0 ≤ j → j < ω A → fo ω (ω (A + 1 + j)) = fo ω (ω (B + 1 + j))))) ∧ τ = σ) 41 [some (vR 189), none, none, none, some (vI A), some (vI B), some (vI v), some (vI i)] [] gW σ 0 0
  | 0, i, v, hk, i1, hv => by
    have v1 := V.1
    have v2 := V.2.1
    refine jwp_sound t_Model_areAlike _ (b_Model_areAlike_41 ?_)
    simp only [RW, true_and, and_true, and_self, true_or, or_true, Nat.reduceLeDiff, Nat.reduceEqDiff, Nat.reduceAdd, Int.reduceLE, Int.reduceLT, Int.reduceEq, Int.reduceNeg, Int.reduceNe, Nat.reduceSub, reduceIte, implies_true, gt_189, gr_189_1, gt_190]
    rw [e]
    refine ⟨by omega, by omega, fun _ => ⟨by omega, ?_⟩, fun x => absurd x (by omega)⟩
    rcases hv with ⟨h1, h2, h3⟩ | ⟨h1, h2⟩
    · exact Or.inl ⟨h1, h2, fun j j0 j1 => h3 j j0 (by omega)⟩
    · exact Or.inr ⟨h1, h2⟩
  | k + 1, i, v, hk, i1, hv => by
    have v1 := V.1
    have v2 := V.2.1
    have IH := fun v => l_al_41 hd e V V' hA hB k (i + 1) v (by omega) (by omega)
    refine jwp_sound t_Model_areAlike _ (b_Model_areAlike_41 ?_)
    simp only [RW, true_and, and_true, and_self, true_or, or_true, Nat.reduceLeDiff, Nat.reduceEqDiff, Nat.reduceAdd, Int.reduceLE, Int.reduceLT, Int.reduceEq, Int.reduceNeg, Int.reduceNe, Nat.reduceSub, reduceIte, implies_true, gt_189, gr_189_1, gt_190]
    rw [e]
    rcases hv with ⟨h1, h2, h3⟩ | ⟨h1, h2⟩
    · have va := V.2.2 (i - 1) (by omega) (by omega)
      have vb := V'.2.2 (i - 1) (by omega) (by omega)
      rw [show A + 1 + (i - 1) = A + i by omega] at va
      rw [show B + 1 + (i - 1) = B + i by omega] at vb
      rw [w32_of (x := A + i) (by omega) (by omega), w32_of (x := B + i) (by omega) (by omega), w32_of (x := i + 1) (by omega) (by omega)]
      refine ⟨by omega, by omega, fun x => absurd x (by omega), fun _ => ⟨fun x => absurd x (by omega), fun _ => ⟨by omega, by omega, ?_⟩⟩⟩
      refine cN_p (c_Model_folded σ va.1 va.2) (by omega) ?_
      rw [e]
      refine ⟨by omega, by omega, ?_⟩
      refine cN_p (c_Model_folded σ vb.1 vb.2) (by omega) ?_
      rw [e]
      refine ⟨fun q => IH 0 (Or.inr ⟨rfl, fun x => ?_⟩), fun q => IH 1 (Or.inl ⟨rfl, h2, fun j j0 j1 => ?_⟩)⟩
      · have := x.2 (i - 1) (by omega) (by omega)
        rw [show A + 1 + (i - 1) = A + i by omega, show B + 1 + (i - 1) = B + i by omega] at this
        exact q this
      · by_cases x : j = i - 1
        · rw [x, show A + 1 + (i - 1) = A + i by omega, show B + 1 + (i - 1) = B + i by omega]
          exact q
        · exact h3 j j0 (by omega)
    · refine ⟨by omega, by omega, fun x => absurd x (by omega), fun _ => ⟨fun _ => ⟨by omega, Or.inr ⟨h1, h2⟩⟩, fun x => absurd h1 x⟩⟩
theorem c_Model_areAlike (R : RFR σ ω) (S : SPO ω) (ha : 0 ≤ a ∧ a ≤ 3) (hb : 0 ≤ b ∧ b ≤ 3) (hp : 0 ≤ p ∧ p < 300) : Cw 11 m_Model_areAlike [vR 189, vI a, vI b, vI p] σ (fun z τ => z = (if skey ω a p = skey ω b p then 1 else 0) ∧ τ = σ) := by
  have e := R.2.2.2.1
  have V : RV ω (sAd a p) := S (300 * a + p) (by omega) (by omega)
  have V' : RV ω (sAd b p) := S (300 * b + p) (by omega) (by omega)
  have sa : 7477 ≤ sAd a p ∧ sAd a p + 20 < 32677 := by
    unfold sAd
    omega
  have sb : 7477 ≤ sAd b p ∧ sAd b p + 20 < 32677 := by
    unfold sAd
    omega
  have ki : skey ω a p = skey ω b p ↔ _ := km_iff R.1.2.2.1 V V'
  have v1 := V.1
  refine Cw_of o_Model_areAlike rfl fun l d hd => jwp_sound t_Model_areAlike _ (b_Model_areAlike_0 ?_)
  simp only [RW, true_and, and_true, and_self, true_or, or_true, Nat.reduceLeDiff, Nat.reduceEqDiff, Nat.reduceAdd, Int.reduceLE, Int.reduceLT, Int.reduceEq, Int.reduceNeg, Int.reduceNe, Nat.reduceSub, reduceIte, implies_true, gt_189, gr_189_1, gt_190]
  refine cN_p (c_Model_slipAt _ ha hp) (by omega) ?_
  refine cN_p (c_Model_slipAt _ hb hp) (by omega) ?_
  rw [e]
  have go := fun v hv => Ev_post (l_al_41 (l := l) hd e V V' ⟨by omega, sa.2⟩ ⟨by omega, sb.2⟩ (ω (sAd a p)).toNat 1 v (by omega) (by omega) hv) (Q := fun z τ => z = (if skey ω a p = skey ω b p then 1 else 0) ∧ τ = σ) (fun z τ h => by
    obtain ⟨h, h2⟩ := h
    refine ⟨?_, h2⟩
    rcases h with ⟨x, y⟩ | ⟨x, y⟩
    · rw [x, if_pos (ki.mpr y)]
    · rw [x, if_neg (fun q => y (ki.mp q))])
  refine ⟨by omega, by omega, by omega, by omega, fun q => go 0 (Or.inr ⟨rfl, fun x => q x.1⟩), fun q => go 1 (Or.inl ⟨rfl, q, fun j a b => by omega⟩)⟩
theorem has_of {ω : Int → Int} (W : OKW ω) (S : SPO ω) (ha : 0 ≤ a ∧ a ≤ 3) (hb : 0 ≤ b ∧ b ≤ 3) (hp : 0 ≤ p ∧ p < 300) (h : skey ω a p = skey ω b p) : hasS ω a p ↔ hasS ω b p := by
  have V : RV ω (sAd a p) := S (300 * a + p) (by omega) (by omega)
  have V' : RV ω (sAd b p) := S (300 * b + p) (by omega) (by omega)
  have := ((km_iff W.2.2.1 V V').mp h).1
  unfold hasS
  rw [this]
theorem l_mc_37 (hd : 15 ≤ d) (R : RFR σ ω) (hal : ALP σ) (S : SPO ω) (ha : 0 ≤ a ∧ a ≤ 3) (hb : 0 ≤ b ∧ b ≤ 3) : ∀ (k p : Nat) (τ : jH), p + k = 300 → FR1 σ τ 201 →
    Ev (l, (fun _ => 0), 0) d 0 0 m_Model_copied (RW fun z τ => z = sq (copI ω a b) 300 ∧ FR1 σ τ 201) 37 [some (vR 189), some (vI a), some (vI b), some (vI (sq (copI ω a b) p)), some (vI p)] [] gW τ 0 0
  | 0, p, τ, q, F => by
    have p3 : p = 300 := by omega
    subst p3
    refine jwp_sound t_Model_copied _ (b_Model_copied_37 ?_)
    exact ⟨fun _ => ⟨rfl, rfl, F⟩, fun x => absurd x (by omega)⟩
  | k + 1, p, τ, q, F => by
    have IH := fun υ F2 => l_mc_37 hd R hal S ha hb k (p + 1) υ (by omega) F2
    have r0 := sq_le (copI_r ω a b) p
    rw [sq_s _ p, show ((p + 1 : Nat) : Int) = (p : Int) + 1 by omega] at IH
    have pp : 0 ≤ (p : Int) ∧ (p : Int) < 300 := ⟨by omega, by omega⟩
    have e0 : copI ω a b p = if (hasS ω a p ∧ ¬ rgtS ω a p) ∧ skey ω a p = skey ω b p then 1 else 0 := rfl
    have ho := has_of R.1 S ha hb pp
    have R' := R.of (τ := τ) (fun c h => F c (by omega))
    have hal' : ALP τ := fun x a b => by rw [F 200 (by omega)]; exact hal x a b
    rw [e0] at IH
    refine jwp_sound t_Model_copied _ (b_Model_copied_37 ?_)
    simp only [RW, true_and, and_true, and_self, true_or, or_true, Nat.reduceLeDiff, Nat.reduceEqDiff, Nat.reduceAdd, Int.reduceLE, Int.reduceLT, Int.reduceEq, Int.reduceNeg, Int.reduceNe, Nat.reduceSub, reduceIte, implies_true, gt_189]
    rw [w32_of (x := (p : Int) + 1) (by omega) (by omega), w32_of (x := sq (copI ω a b) p + 0) (by omega) (by omega), w32_of (x := sq (copI ω a b) p + 1) (by omega) (by omega)]
    refine ⟨fun x => absurd x (by omega), fun _ => ?_⟩
    refine cN_p (c_Model_hasS R'.2.2.2.1 S ha pp) (by omega) ?_
    by_cases g : hasS ω a p
    · rw [if_pos g]
      refine ⟨fun x => absurd x (by omega), fun _ => ?_⟩
      refine cN_p (c_Model_hasS R'.2.2.2.1 S hb pp) (by omega) ?_
      by_cases g1 : hasS ω b p
      · rw [if_pos g1]
        refine ⟨fun x => absurd x (by omega), fun _ => ?_⟩
        refine cN_w (c_Model_isRight R' hal' S ha pp) (by omega) (fun z υ hz => ?_)
        obtain ⟨rfl, F2⟩ := hz
        have F3 := F.tr F2
        have R2 := R.of (τ := υ) (fun c h => F3 c (by omega))
        have hal2 : ALP υ := fun x a b => by rw [F3 200 (by omega)]; exact hal x a b
        by_cases g2 : rgtS ω a p
        · rw [if_neg (fun x => x.1.2 g2)] at IH
          rw [if_pos g2]
          exact ⟨fun _ => IH υ F3, fun x => absurd x (by omega)⟩
        · rw [if_neg g2]
          refine ⟨fun x => absurd rfl x, fun _ => ?_⟩
          refine cN_w (c_Model_isRight R2 hal2 S hb pp) (by omega) (fun z ξ hz => ?_)
          obtain ⟨rfl, F4⟩ := hz
          have F5 := F3.tr F4
          have R3 := R.of (τ := ξ) (fun c h => F5 c (by omega))
          by_cases g3 : rgtS ω b p
          · rw [if_neg (fun x => g2 ⟨g3.1, x.2.trans g3.2⟩)] at IH
            rw [if_pos g3]
            exact ⟨fun _ => IH ξ F5, fun x => absurd x (by omega)⟩
          · rw [if_neg g3]
            refine ⟨fun x => absurd rfl x, fun _ => ?_⟩
            refine cN_p (c_Model_areAlike R3 S ha hb pp) (by omega) ?_
            by_cases g4 : skey ω a p = skey ω b p
            · rw [if_pos ⟨⟨g, g2⟩, g4⟩] at IH
              rw [if_pos g4]
              exact ⟨fun x => absurd x (by omega), fun _ => IH ξ F5⟩
            · rw [if_neg (fun x => g4 x.2)] at IH
              rw [if_neg g4]
              exact ⟨fun _ => IH ξ F5, fun x => absurd rfl x⟩
      · rw [if_neg (fun x => g1 ((ho x.2).mp g))] at IH
        rw [if_neg g1]
        exact ⟨fun _ => IH τ F, fun x => absurd rfl x⟩
    · rw [if_neg (fun x => g x.1.1)] at IH
      rw [if_neg g]
      exact ⟨fun _ => IH τ F, fun x => absurd rfl x⟩
theorem c_Model_copied (R : RFR σ ω) (hal : ALP σ) (S : SPO ω) (a b : Int) : Cw 15 m_Model_copied [vR 189, vI a, vI b] σ (fun z τ => z = s_copied ω a b ∧ FR1 σ τ 201) := by
  unfold s_copied
  refine Cw_of o_Model_copied rfl fun l d hd => jwp_sound t_Model_copied _ (b_Model_copied_0 ?_)
  refine cN_p (c_Model_in _ _ _ _) (by omega) ?_
  by_cases ha : 0 ≤ a ∧ a ≤ 3
  · rw [if_pos ha]
    refine ⟨fun x => absurd x (by omega), fun _ => ?_⟩
    refine cN_p (c_Model_in _ _ _ _) (by omega) ?_
    by_cases hb : 0 ≤ b ∧ b ≤ 3
    · rw [if_pos hb]
      refine ⟨fun x => absurd x (by omega), fun _ => ⟨fun q => ?_, fun q => ?_⟩⟩
      · rw [if_pos ⟨⟨ha, hb⟩, q⟩]
        exact l_mc_37 hd R hal S ha hb 300 0 σ rfl (fun _ _ => rfl)
      · rw [if_neg (fun x => x.2 q)]
        exact ⟨rfl, rfl, fun _ _ => rfl⟩
    · rw [if_neg hb, if_neg (fun x => hb x.1.2)]
      exact ⟨fun _ => ⟨rfl, rfl, fun _ _ => rfl⟩, fun x => absurd rfl x⟩
  · rw [if_neg ha, if_neg (fun x => ha x.1.1)]
    exact ⟨fun _ => ⟨rfl, rfl, fun _ _ => rfl⟩, fun x => absurd rfl x⟩
end SN
