/-! ASKS: the class reads units, and what follows them -/
theorem opW_r (t : Int → Int) (n p : Int) : 0 ≤ opW t n p ∧ opW t n p ≤ 6 := by
  unfold opW
  repeat' split
  all_goals omega
theorem opW_1 {t : Int → Int} {n p : Int} (h : opW t n p ≠ 0) : tK t n p = 1 := by
  unfold opW at h
  by_cases a : tI t n p (jtb 6) = true
  · exact tI_1 a
  rw [if_neg a] at h
  by_cases a : tI t n p (jtb 7) = true
  · exact tI_1 a
  rw [if_neg a] at h
  by_cases a : tI t n p (jtb 8) = true
  · exact tI_1 a
  rw [if_neg a] at h
  by_cases a : tI t n p (jtb 9) = true
  · exact tI_1 a
  rw [if_neg a] at h
  by_cases a : tI t n p (jtb 10) = true
  · exact tI_1 a
  rw [if_neg a] at h
  by_cases a : tI t n p (jtb 11) = true
  · exact tI_1 a
  rw [if_neg a] at h
  exact absurd rfl h
theorem root_op {t : Int → Int} {n p : Int} (h : tI t n p (jtb 3) = true) : opW t n p = 0 := by
  unfold opW
  rw [tI_ne0 h 0 (by decide) (by decide) (by decide) (bs := jtb 6), tI_ne h (by decide) (bs := jtb 7), tI_ne h (by decide) (bs := jtb 8), tI_ne h (by decide) (bs := jtb 9), tI_ne h (by decide) (bs := jtb 10), tI_ne h (by decide) (bs := jtb 11)]
  rfl
def aF (t : Int → Int) (n : Int) (M : AS) : AS := if M.1 ≠ 0 then M else if tK t n M.2.2.1 = 0 ∨ tK t n M.2.2.1 = 41 then M else aBD 1 (tS t n M.2.2.1)
def aA (ω t : Int → Int) (e n : Int) (k : Nat) (L p u : Int) : AS := if (aX ω t e n k false L p u (fun _ => false)).1 ≠ 0 then aX ω t e n k false L p u (fun _ => false) else aF t n (aX ω t e n k true L (aX ω t e n k false L p u (fun _ => false)).2.2.1 (aX ω t e n k false L p u (fun _ => false)).2.2.2.1 (aX ω t e n k false L p u (fun _ => false)).2.2.2.2)
def PU (ω t : Int → Int) (e n : Int) (k : Nat) : Prop := ∀ (L : Nat) (c p : Int) (σ : jH) (u : Int), L ≤ 6 → (c = 160 + 2 * (L : Int) ∨ c = 161 + 2 * (L : Int)) → AEN σ ω e t n → TKC σ t n p → (0 ≤ p ∧ p ≤ n) → σ 157 5 = u → (0 ≤ u ∧ u ≤ 30) → 31 ≤ (k : Int) + u → Cw (dpU L) m_Asker_readUnit [vR 157, vI L, vR c] σ (fun z τ => CAS c σ τ t n (wW ω e).1 (aX ω t e n k false L p u (fun _ => false)) z)
def PA (ω t : Int → Int) (e n : Int) (k : Nat) : Prop := ∀ (L : Nat) (p : Int) (σ : jH) (u : Int), L ≤ 6 → AEN σ ω e t n → TKC σ t n p → (0 ≤ p ∧ p ≤ n) → σ 157 5 = u → (0 ≤ u ∧ u ≤ 30) → 31 ≤ (k : Int) + u → Cw (dpU L + 1) m_Asker_readAsk [vR 157, vI L] σ (fun z τ => CAS (160 + 2 * (L : Int)) σ τ t n (wW ω e).1 (aA ω t e n k L p u) z)
section AZ
variable {l : Launch} {d : Nat} {ω t : Int → Int} {σ : jH} {e n p c : Int}
theorem lvl_c {L : Nat} (h : L ≤ 6) (hc : c = 160 + 2 * (L : Int) ∨ c = 161 + 2 * (L : Int)) : isSet c := by
  unfold isSet
  omega
theorem l_ra_53 {L : Nat} (hL : L ≤ 6) (hd : dpU L + 1 ≤ d) (W : OKW ω) (he : 0 ≤ e ∧ e ≤ 1) (A : AEN σ ω e t n) : ∀ (k : Nat), (∀ j, j ≤ k → PU ω t e n j) → ∀ (i : Nat) (p u : Int) (τ : jH) (S : Int → Bool), (i : Int) + 1 ≤ u → u ≤ 30 → 32 ≤ (k : Int) + u → (0 ≤ p ∧ p ≤ n) → ASF (160 + 2 * (L : Int)) σ τ → TKC τ t n p → (τ 157 5 = u ∧ τ 140 6 = σ 140 6 ∧ τ 140 7 = σ 140 7) → SET τ (160 + 2 * (L : Int)) (wW ω e).1 S →
    Ev (l, (fun _ => 0), 0) d 0 0 m_Asker_readAsk (RW fun z τ => CAS (160 + 2 * (L : Int)) σ τ t n (wW ω e).1 (aF t n (aX ω t e n k true L p u S)) z) 53 [some (vR 157), some (vI L), some (vR (160 + 2 * (L : Int))), some (vR (161 + 2 * (L : Int))), some (vI i), none, none] [] gW τ 0 0 := by
  intro k
  induction k with
  | zero =>
    intro _ i p u τ S h1 h2 h3
    omega
  | succ k ih =>
    intro H i p u τ S h1 h2 h3 hp F K G V
    have hcl := lvl_c (c := 160 + 2 * (L : Int)) hL (Or.inl rfl)
    have hcr := lvl_c (c := 161 + 2 * (L : Int)) hL (Or.inr rfl)
    have Aτ := A.of hcl F
    have dL : 25 ≤ dpU L := by
      unfold dpU
      omega
    have p1 := tN_in (t := t) hp
    have p2 := tN_in (t := t) p1
    have orr := opW_r t n p
    -- nothing follows
    have stop : opW t n p = 0 → aX ω t e n (k + 1) true L p u S = aOK p u S := fun h => by
      simp only [aX]
      rw [if_pos h]
    have good : opW t n p = 0 → (tK t n p = 0 ∨ tK t n p = 41) → CAS (160 + 2 * (L : Int)) σ τ t n (wW ω e).1 (aF t n (aX ω t e n (k + 1) true L p u S)) 1 := fun h h' => by
      rw [stop h]
      have e1 : aF t n (aOK p u S) = aOK p u S := by
        unfold aF
        rw [if_neg (show ¬ (aOK p u S).1 ≠ 0 from fun x => x rfl)]
        exact if_pos h'
      rw [e1]
      exact ⟨F, Or.inl ⟨rfl, rfl, hp, K, G.1, V, G.2.1, G.2.2⟩⟩
    -- the unit behind the operator
    have N155 : ∀ (q m : Int) (υ : jH), (0 ≤ q ∧ q ≤ n) → (0 ≤ m ∧ m ≤ 50) → opW t n p ≠ 0 → ASF (160 + 2 * (L : Int)) σ υ → TKC υ t n q → (υ 157 5 = u ∧ υ 140 6 = σ 140 6 ∧ υ 140 7 = σ 140 7) → SET υ (160 + 2 * (L : Int)) (wW ω e).1 S → aX ω t e n (k + 1) true L p u S = (if (aX ω t e n k false L q u (fun _ => false)).1 ≠ 0 then aX ω t e n k false L q u (fun _ => false) else aX ω t e n k true L (aX ω t e n k false L q u (fun _ => false)).2.2.1 (aX ω t e n k false L q u (fun _ => false)).2.2.2.1 (joS (wW ω e).1 (wW ω e).2.2.1 (opW t n p) m S (aX ω t e n k false L q u (fun _ => false)).2.2.2.2)) → Ev (l, (fun _ => 0), 0) d 0 0 m_Asker_readAsk (RW fun z τ => CAS (160 + 2 * (L : Int)) σ τ t n (wW ω e).1 (aF t n (aX ω t e n (k + 1) true L p u S)) z) 155 [some (vR 157), some (vI L), some (vR (160 + 2 * (L : Int))), some (vR (161 + 2 * (L : Int))), some (vI i), some (vI (opW t n p)), some (vI m)] [] gW υ 0 0 := fun q m υ hq hm ho F2 K2 G2 V2 eq => by
      have iu := aX_u (ω := ω) (t := t) (e := e) (n := n) k false L q u (fun _ => false) h2
      rw [if_neg Bool.false_ne_true] at iu
      refine jwp_sound t_Asker_readAsk _ (b_Asker_readAsk_155 ?_)
      simp only [RW, true_and, and_true, and_self, true_or, or_true, Nat.reduceLeDiff, Nat.reduceEqDiff, Nat.reduceAdd, Int.reduceLE, Int.reduceLT, Int.reduceEq, Int.reduceNeg, Int.reduceNe, Nat.reduceSub, reduceIte, implies_true, gt_157, gr_157_0, gt_140, gr_157_6, gt_159]
      refine cN_w (H k (by omega) L (161 + 2 * (L : Int)) q υ u hL (Or.inr rfl) (A.of hcl F2) K2 hq G2.1 ⟨by omega, h2⟩ (by omega)) (by omega) (fun z ξ h => ?_)
      rw [eq]
      generalize aX ω t e n k false L q u (fun _ => false) = R at *
      obtain ⟨F3, h⟩ := h
      rcases h with ⟨r1, rfl, r3, r4, r5, r6, r7, r8⟩ | ⟨r1, rfl, r3, r4⟩
      · rw [if_neg (fun x => x r1)]
        refine ⟨fun _ => ?_, fun x => absurd x (by omega)⟩
        have F23 := F2.tr (F3.up (by omega))
        have Aξ := A.of hcl F23
        have V3 : SET ξ (160 + 2 * (L : Int)) (wW ω e).1 S := fun q' a b => by
          rw [F3.1 (160 + 2 * (L : Int)) (by omega) (by omega) (by omega) (by omega)]
          exact V2 q' a b
        refine cN_w (c_awork Aξ.2.1 W he Aξ.2.2.1 hcl hcr (by omega) ⟨by omega, orr.2⟩ hm V3 r6) (by omega) (fun _ ζ h => ?_)
        obtain ⟨F4, V4⟩ := h
        have i1 := iu r1
        have FF : ASF (160 + 2 * (L : Int)) ξ ζ := ⟨fun c' a b f g => F4 c' (by omega) (by omega) (by omega), fun j _ => by rw [F4 157 (by omega) (by omega) (by omega)]⟩
        rw [w32_of (x := (i : Int) + 1) (by omega) (by omega)]
        have IH := ih (fun j hj => H j (by omega)) (i + 1) R.2.2.1 R.2.2.2.1 ζ _ (by omega) i1.2 (by omega) r3 (F23.tr FF) (r4.eq (F4 140 (by omega) (by omega) (by omega))) ⟨by rw [F4 157 (by omega) (by omega) (by omega)]; exact r5, by rw [F4 140 (by omega) (by omega) (by omega), r7]; exact G2.2.1, by rw [F4 140 (by omega) (by omega) (by omega), r8]; exact G2.2.2⟩ V4
        rw [show ((i + 1 : Nat) : Int) = (i : Int) + 1 by omega] at IH
        exact IH
      · rw [if_pos r1]
        have e1 : aF t n R = R := by
          unfold aF
          rw [if_pos r1]
        rw [e1]
        refine ⟨fun x => absurd rfl x, fun _ => ?_⟩
        exact ⟨F2.tr (F3.up (by omega)), Or.inr ⟨r1, rfl, r3, r4⟩⟩
    refine jwp_sound t_Asker_readAsk _ (b_Asker_readAsk_53 ?_)
    simp only [RW, true_and, and_true, and_self, true_or, or_true, Nat.reduceLeDiff, Nat.reduceEqDiff, Nat.reduceAdd, Int.reduceLE, Int.reduceLT, Int.reduceEq, Int.reduceNeg, Int.reduceNe, Nat.reduceSub, reduceIte, implies_true, gt_157, gr_157_0, gt_140, gr_157_6, gt_159]
    rw [K.1.2.2.2]
    refine ⟨fun x => absurd x (by omega), fun _ => ⟨fun q => ?_, fun q => ⟨fun q2 => ?_, fun q2 => ?_⟩⟩⟩
    · exact good (by
        by_cases g : opW t n p = 0
        · exact g
        · have := opW_1 g
          omega) (Or.inl q)
    · exact good (by
        by_cases g : opW t n p = 0
        · exact g
        · have := opW_1 g
          omega) (Or.inr q2)
    · refine cN_p (c_operatorHere Aτ.1 K hp) (by omega) ?_
      refine ⟨fun ho => ?_, fun ho => ?_⟩
      · refine cN_w (c_advance Aτ.1 K hp) (by omega) (fun _ υ h => ?_)
        obtain ⟨F2, K2⟩ := h
        have FF : ASF (160 + 2 * (L : Int)) τ υ := ⟨fun c' a b f g => F2.1 c' a, fun j _ => by rw [F2.1 157 (by omega)]⟩
        have G2 : υ 157 5 = u ∧ υ 140 6 = σ 140 6 ∧ υ 140 7 = σ 140 7 := ⟨by rw [F2.1 157 (by omega)]; exact G.1, by rw [F2.2 6 (by omega) (by omega) (by omega) (by omega)]; exact G.2.1, by rw [F2.2 7 (by omega) (by omega) (by omega) (by omega)]; exact G.2.2⟩
        have V2 : SET υ (160 + 2 * (L : Int)) (wW ω e).1 S := fun q' a b => by
          rw [F2.1 (160 + 2 * (L : Int)) (by omega)]
          exact V q' a b
        have Aυ := A.of hcl (F.tr FF)
        have N130 : opW t n p ≤ 3 → Ev (l, (fun _ => 0), 0) d 0 0 m_Asker_readAsk (RW fun z τ => CAS (160 + 2 * (L : Int)) σ τ t n (wW ω e).1 (aF t n (aX ω t e n (k + 1) true L p u S)) z) 130 [some (vR 157), some (vI L), some (vR (160 + 2 * (L : Int))), some (vR (161 + 2 * (L : Int))), some (vI i), some (vI (opW t n p)), none] [] gW υ 0 0 := fun o3 => by
          have bad : ∀ x : Int, x ≠ 0 → aX ω t e n (k + 1) true L p u S = aBD x (tS t n (tN t n p)) → CAS (160 + 2 * (L : Int)) σ (ju (ju υ 140 6 x) 140 7 (tS t n (tN t n p))) t n (wW ω e).1 (aF t n (aX ω t e n (k + 1) true L p u S)) 0 := fun x hx eq => by
            rw [eq]
            have e1 : aF t n (aBD x (tS t n (tN t n p))) = aBD x (tS t n (tN t n p)) := by
              unfold aF
              rw [if_pos (show (aBD x (tS t n (tN t n p))).1 ≠ 0 from hx)]
            rw [e1]
            exact CAS.pre (F.tr FF) G2.2.1 G2.2.2 (cas_fail K2 x hx hcl)
          refine jwp_sound t_Asker_readAsk _ (b_Asker_readAsk_130 ?_)
          simp only [RW, true_and, and_true, and_self, true_or, or_true, Nat.reduceLeDiff, Nat.reduceEqDiff, Nat.reduceAdd, Int.reduceLE, Int.reduceLT, Int.reduceEq, Int.reduceNeg, Int.reduceNe, Nat.reduceSub, reduceIte, implies_true, gt_157, gr_157_0, gt_140, gr_157_6, gt_159]
          refine cN_w (c_isAway Aυ.1 K2 p1) (by omega) (fun z ξ h => ?_)
          rcases h with ⟨a1, a2, rfl, rfl, a5⟩ | ⟨a1, a2, rfl, rfl⟩ | ⟨a1, rfl, rfl⟩
          · refine ⟨fun _ => ?_, fun x => absurd x (by omega)⟩
            refine cN_w (c_advance Aυ.1 K2 p1) (by omega) (fun _ ζ h => ?_)
            obtain ⟨F5, K5⟩ := h
            rw [a5]
            refine N155 (tN t n (tN t n p)) (tV t n (tN t n p)) ζ p2 ⟨by omega, a2.2⟩ ho (F.tr (FF.tr ⟨fun c' a b f g => F5.1 c' a, fun j _ => by rw [F5.1 157 (by omega)]⟩)) K5 ⟨by rw [F5.1 157 (by omega)]; exact G2.1, by rw [F5.2 6 (by omega) (by omega) (by omega) (by omega)]; exact G2.2.1, by rw [F5.2 7 (by omega) (by omega) (by omega) (by omega)]; exact G2.2.2⟩ (fun q' a b => by
              rw [F5.1 (160 + 2 * (L : Int)) (by omega)]
              exact V2 q' a b) ?_
            simp only [aX]
            rw [if_neg ho, if_pos o3, if_neg (fun x => x a1), if_neg (fun x => x a2)]
          · refine ⟨fun x => absurd rfl x, fun _ => bad 2 (by omega) ?_⟩
            simp only [aX]
            rw [if_neg ho, if_pos o3, if_neg (fun x => x a1), if_pos a2]
          · refine ⟨fun x => absurd rfl x, fun _ => bad 1 (by omega) ?_⟩
            simp only [aX]
            rw [if_neg ho, if_pos o3, if_pos a1]
        refine ⟨fun x => N130 (by omega), fun x => ⟨fun y => N130 (by omega), fun y => ⟨fun z => ?_, fun z => N130 (by omega)⟩⟩⟩
        refine N155 (tN t n p) 0 υ p1 ⟨by omega, by omega⟩ ho (F.tr FF) K2 G2 V2 ?_
        simp only [aX]
        rw [if_neg ho, if_neg (by omega)]
      · refine cN_p (c_fail 1 K) (by omega) ?_
        rw [stop ho]
        have e1 : aF t n (aOK p u S) = aBD 1 (tS t n p) := by
          unfold aF
          rw [if_neg (show ¬ (aOK p u S).1 ≠ 0 from fun x => x rfl)]
          show (if tK t n p = 0 ∨ tK t n p = 41 then aOK p u S else aBD 1 (tS t n p)) = _
          rw [if_neg (by omega)]
        rw [e1]
        exact ⟨Or.inl rfl, CAS.pre F G.2.1 G.2.2 (cas_fail K 1 (by omega) hcl)⟩
end AZ
