/-! ASKS: the class reads asks within asks -/
section BA
variable {l : Launch} {d : Nat} {ω t : Int → Int} {σ : jH} {e n p c : Int}
theorem gr_lvl {L : Nat} (h : L ≤ 6) : gW.2.2 159 (2 * (L : Int)) = 160 + 2 * (L : Int) ∧ gW.2.2 159 (2 * (L : Int) + 1) = 161 + 2 * (L : Int) := by
  have : L = 0 ∨ L = 1 ∨ L = 2 ∨ L = 3 ∨ L = 4 ∨ L = 5 ∨ L = 6 := by omega
  rcases this with rfl | rfl | rfl | rfl | rfl | rfl | rfl
  · exact ⟨gr_159_0, gr_159_1⟩
  · exact ⟨gr_159_2, gr_159_3⟩
  · exact ⟨gr_159_4, gr_159_5⟩
  · exact ⟨gr_159_6, gr_159_7⟩
  · exact ⟨gr_159_8, gr_159_9⟩
  · exact ⟨gr_159_10, gr_159_11⟩
  · exact ⟨gr_159_12, gr_159_13⟩
theorem pa_of (W : OKW ω) (he : 0 ≤ e ∧ e ≤ 1) (k : Nat) (H : ∀ j, j ≤ k → PU ω t e n j) : PA ω t e n k := by
  intro L p σ u hL A K hp hu h30 hk
  have hcl := lvl_c (c := 160 + 2 * (L : Int)) hL (Or.inl rfl)
  obtain ⟨g1, g2⟩ := gr_lvl hL
  have iu := aX_u (ω := ω) (t := t) (e := e) (n := n) k false L p u (fun _ => false) h30.2
  rw [if_neg Bool.false_ne_true] at iu
  have dL : 25 ≤ dpU L := by
    unfold dpU
    omega
  refine Cw_of o_Asker_readAsk rfl fun l d hd => jwp_sound t_Asker_readAsk _ (b_Asker_readAsk_0 ?_)
  simp only [RW, true_and, and_true, and_self, true_or, or_true, Nat.reduceLeDiff, Nat.reduceEqDiff, Nat.reduceAdd, Int.reduceLE, Int.reduceLT, Int.reduceEq, Int.reduceNeg, Int.reduceNe, Nat.reduceSub, reduceIte, implies_true, gt_157, gr_157_0, gt_140, gr_157_6, gt_159]
  rw [w32_of (x := 2 * (L : Int)) (by omega) (by omega), w32_of (x := 2 * (L : Int) + 1) (by omega) (by omega), g1, g2]
  refine ⟨fun x => absurd x (by omega), fun _ => ⟨fun _ => ⟨by omega, by omega, by omega, by omega, ?_⟩, fun x => absurd x (by omega)⟩⟩
  refine cN_w (H k (Nat.le_refl _) L (160 + 2 * (L : Int)) p σ u hL (Or.inl rfl) A K hp hu h30 hk) (by omega) (fun z τ h => ?_)
  unfold aA
  generalize aX ω t e n k false L p u (fun _ => false) = R at *
  obtain ⟨F, h⟩ := h
  rcases h with ⟨r1, rfl, r3, r4, r5, r6, r7, r8⟩ | ⟨r1, rfl, r3, r4⟩
  · rw [if_neg (fun x => x r1)]
    have i1 := iu r1
    refine ⟨fun _ => ?_, fun x => absurd x (by omega)⟩
    exact l_ra_53 hL hd W he A k H 0 R.2.2.1 R.2.2.2.1 τ R.2.2.2.2 (by omega) i1.2 (by omega) r3 F r4 ⟨r5, r7, r8⟩ r6
  · rw [if_pos r1]
    exact ⟨fun x => absurd rfl x, fun _ => ⟨F, Or.inr ⟨r1, rfl, r3, r4⟩⟩⟩
/-- a ( and what it holds -/
def aN (ω t : Int → Int) (e n : Int) (k : Nat) (L p u : Int) : AS := if (aA ω t e n k L p u).1 ≠ 0 then aA ω t e n k L p u else if tK t n (aA ω t e n k L p u).2.2.1 = 41 then aOK (tN t n (aA ω t e n k L p u).2.2.1) (aA ω t e n k L p u).2.2.2.1 (aA ω t e n k L p u).2.2.2.2 else aBD 1 (tS t n (aA ω t e n k L p u).2.2.1)
theorem c_readNested {k L : Nat} {u : Int} (H : PA ω t e n k) (hL : L ≤ 5) (hc : c = 160 + 2 * (L : Int) ∨ c = 161 + 2 * (L : Int)) (W : OKW ω) (he : 0 ≤ e ∧ e ≤ 1) (A : AEN σ ω e t n) (K : TKC σ t n p) (hp : 0 ≤ p ∧ p ≤ n) (hu : σ 157 5 = u) (h30 : 0 ≤ u ∧ u ≤ 30) (hk : 31 ≤ (k : Int) + u) : Cw (dpU L - 1) m_Asker_readNested [vR 157, vI L, vR c] σ (fun z τ => CAS c σ τ t n (wW ω e).1 (aN ω t e n k (L + 1) (tN t n p) u) z) := by
  have hcs := lvl_c (by omega) hc
  have hcc := hcs
  unfold isSet at hcc
  have w := W.n he
  have p1 := tN_in (t := t) hp
  obtain ⟨g1, g2⟩ := gr_lvl (L := L + 1) (by omega)
  rw [show 2 * ((L + 1 : Nat) : Int) = 2 * (L : Int) + 2 by omega] at g1
  have gs := gt_set hcs
  have gn := gt_set (c := 160 + (2 * (L : Int) + 2)) (by unfold isSet; omega)
  have dL : dpU (L + 1) + 4 = dpU L ∧ 25 ≤ dpU (L + 1) := by
    unfold dpU
    omega
  refine Cw_of o_Asker_readNested rfl fun l d hd => jwp_sound t_Asker_readNested _ (b_Asker_readNested_0 ?_)
  simp only [RW, true_and, and_true, and_self, true_or, or_true, Nat.reduceLeDiff, Nat.reduceEqDiff, Nat.reduceAdd, Int.reduceLE, Int.reduceLT, Int.reduceEq, Int.reduceNeg, Int.reduceNe, Nat.reduceSub, reduceIte, implies_true, gt_157, gr_157_0, gt_140, gr_157_6, gt_159]
  rw [w32_of (x := (L : Int) + 1) (by omega) (by omega)]
  refine cN_w (c_advance A.1 K hp) (by omega) (fun _ τ h => ?_)
  obtain ⟨F1, K1⟩ := h
  have FF : ASF c σ τ := ⟨fun c' a b f g => F1.1 c' a, fun j _ => by rw [F1.1 157 (by omega)]⟩
  have go := H (L + 1) (tN t n p) τ u (by omega) (A.of hcs FF) K1 p1 (by rw [F1.1 157 (by omega)]; exact hu) h30 hk
  rw [show ((L + 1 : Nat) : Int) = (L : Int) + 1 by omega] at go
  refine cN_w go (by omega) (fun z ξ h => ?_)
  unfold aN
  generalize aA ω t e n k ((L : Int) + 1) (tN t n p) u = R at *
  obtain ⟨F2, h⟩ := h
  have F2' : ASF c τ ξ := F2.up (by omega)
  have t6 : τ 140 6 = σ 140 6 := F1.2 6 (by omega) (by omega) (by omega) (by omega)
  have t7 : τ 140 7 = σ 140 7 := F1.2 7 (by omega) (by omega) (by omega) (by omega)
  rcases h with ⟨r1, rfl, r3, r4, r5, r6, r7, r8⟩ | ⟨r1, rfl, r3, r4⟩
  · rw [if_neg (fun x => x r1), r4.1.2.2.2]
    refine ⟨fun _ => ⟨fun q => ?_, fun q => ?_⟩, fun x => absurd x (by omega)⟩
    · rw [if_pos q]
      have Aξ := A.of hcs (FF.tr F2')
      refine cN_w (c_advance Aξ.1 r4 r3) (by omega) (fun _ υ h => ?_)
      obtain ⟨F3, K3⟩ := h
      rw [w32_of (x := 2 * (L : Int)) (by omega) (by omega), w32_of (x := 2 * (L : Int) + 2) (by omega) (by omega), g1, gs, gn]
      refine ⟨fun x => absurd x (by omega), fun _ => ⟨fun x => absurd x (by omega), fun _ => ?_⟩⟩
      refine ⟨by omega, by omega, ⟨(by show (1 : Nat) ≤ 2; omega), (by show (2 : Nat) ≤ 7; omega)⟩, by omega, by omega, rfl, rfl, (by show (0 : Int) ≤ min 300 300; omega), (by show (0 : Int) + min 300 300 ≤ 300; omega), (by show (0 : Int) + min 300 300 ≤ 300; omega), ?_⟩
      rw [show min (300 : Int) ((2, (300 : Int)) : Nat × Int).2 = 300 by decide]
      have rr : ∀ c', c' ≠ c → jcpy υ (160 + (2 * (L : Int) + 2)) 0 c 0 300 c' = υ c' := fun c' h => jcpy_row h
      refine ⟨FF.tr (F2'.tr ⟨fun c' a b f g => by rw [rr c' (by omega), F3.1 c' a], fun j _ => by rw [rr 157 (by omega), F3.1 157 (by omega)]⟩), Or.inl ⟨rfl, rfl, tN_in r3, K3.eq (rr 140 (by omega)), ?_, fun q' a b => ?_, ?_, ?_⟩⟩
      · rw [rr 157 (by omega), F3.1 157 (by omega)]
        exact r5
      · rw [jcpy_0i a (by omega), F3.1 _ (by omega)]
        have := r6 q' a b
        rw [show 160 + 2 * ((L : Int) + 1) = 160 + (2 * (L : Int) + 2) by omega] at this
        exact this
      · rw [rr 140 (by omega), F3.2 6 (by omega) (by omega) (by omega) (by omega), r7, t6]
      · rw [rr 140 (by omega), F3.2 7 (by omega) (by omega) (by omega) (by omega), r8, t7]
    · rw [if_neg q]
      refine cN_p (c_fail 1 r4) (by omega) ?_
      exact ⟨Or.inl rfl, CAS.pre (FF.tr F2') (r7.trans t6) (r8.trans t7) (cas_fail r4 1 (by omega) hcs)⟩
  · rw [if_pos r1]
    exact ⟨fun x => absurd rfl x, fun _ => ⟨FF.tr F2', Or.inr ⟨r1, rfl, r3, r4⟩⟩⟩
theorem aX_nest {k : Nat} {L p u : Int} {S : Int → Bool} (g1 : tK t n p = 40) (g2 : ¬ (u = 30 ∨ (tK t n p = 40 ∧ L = 6))) : aX ω t e n (k + 1) false L p u S = aN ω t e n k (L + 1) (tN t n p) (u + 1) := by
  simp only [aX]
  rw [if_neg (fun x => x.1 g1), if_neg g2, if_pos g1]
  unfold aN aA
  generalize aX ω t e n k false (L + 1) (tN t n p) (u + 1) (fun _ => false) = R
  by_cases a : R.1 ≠ 0
  · rw [if_pos a, if_pos a, if_pos a]
  · rw [if_neg a, if_neg a]
    generalize aX ω t e n k true (L + 1) R.2.2.1 R.2.2.2.1 R.2.2.2.2 = M
    unfold aF
    by_cases b : M.1 ≠ 0
    · rw [if_pos b, if_pos b, if_pos b]
    · rw [if_neg b, if_neg b]
      by_cases f : tK t n M.2.2.1 = 0 ∨ tK t n M.2.2.1 = 41
      · rw [if_pos f, if_neg b]
      · rw [if_neg f, if_pos (show (aBD 1 (tS t n M.2.2.1)).1 ≠ 0 from by show (1 : Int) ≠ 0; omega), if_neg (fun x => f (Or.inr x))]
end BA
