/-! ASKS: the class reads a unit, whole -/
section BB
variable {l : Launch} {d : Nat} {ω t : Int → Int} {σ : jH} {e n p c : Int}
theorem fwB_iff : fwB t n p = true ↔ tK t n p = 1 ∧ opW t n p = 0 ∧ tI t n p (jtb 3) = false := by
  unfold fwB
  rw [Bool.and_eq_true, Bool.and_eq_true, decide_eq_true_eq, decide_eq_true_eq]
  cases tI t n p (jtb 3) <;> simp
theorem pu_s (W : OKW ω) (U : RLO ω) (he : 0 ≤ e ∧ e ≤ 1) (k : Nat) (HA : PA ω t e n k) : PU ω t e n (k + 1) := by
  intro L c p σ u hL hc A K hp hu h30 hk
  have hcs := lvl_c hL hc
  have hcc := hcs
  unfold isSet at hcc
  have dL : 25 ≤ dpU L := by
    unfold dpU
    omega
  have p1 := tN_in (t := t) hp
  refine Cw_of o_Asker_readUnit rfl fun l d hd => jwp_sound t_Asker_readUnit _ (b_Asker_readUnit_0 ?_)
  simp only [RW, true_and, and_true, and_self, true_or, or_true, Nat.reduceLeDiff, Nat.reduceEqDiff, Nat.reduceAdd, Int.reduceLE, Int.reduceLT, Int.reduceEq, Int.reduceNeg, Int.reduceNe, Nat.reduceSub, reduceIte, implies_true, gt_157, gr_157_0, gt_140, gr_157_1, gt_4, gr_157_3, gt_158, gr_4_1, gt_5]
  refine cN_p (c_is (w := 3) (by decide) A.1 K hp) (by omega) ?_
  rw [K.1.2.2.2]
  have fail : ∀ x : Int, x ≠ 0 → aX ω t e n (k + 1) false L p u (fun _ => false) = aBD x (tS t n p) → cN l d m_Tokens_fail [vR 140, vI x] gW σ (fun r τ => (r = 0 ∨ r = 1) ∧ CAS c σ τ t n (wW ω e).1 (aX ω t e n (k + 1) false L p u (fun _ => false)) r) := fun x hx eq => by
    refine cN_p (c_fail x K) (by omega) ?_
    rw [eq]
    exact ⟨Or.inl rfl, cas_fail K x hx hcs⟩
  have N97 : ∀ x4 : Int, ((x4 = 0 ∧ tK t n p ≠ 40) ∨ (x4 = 1 ∧ tK t n p = 40)) → ¬ (u = 30 ∨ (tK t n p = 40 ∧ (L : Int) = 6)) → ¬ (tK t n p ≠ 40 ∧ tK t n p ≠ 34 ∧ ¬ (tK t n p = 1 ∧ opW t n p = 0)) → Ev (l, (fun _ => 0), 0) d 0 0 m_Asker_readUnit (RW fun z τ => CAS c σ τ t n (wW ω e).1 (aX ω t e n (k + 1) false L p u (fun _ => false)) z) 97 [some (vR 157), some (vI L), some (vR c), some (vI (b2i (tI t n p (jtb 3)))), some (vI x4)] [] gW σ 0 0 := fun x4 hx hv hb => by
    refine jwp_sound t_Asker_readUnit _ (b_Asker_readUnit_97 ?_)
    simp only [RW, true_and, and_true, and_self, true_or, or_true, Nat.reduceLeDiff, Nat.reduceEqDiff, Nat.reduceAdd, Int.reduceLE, Int.reduceLT, Int.reduceEq, Int.reduceNeg, Int.reduceNe, Nat.reduceSub, reduceIte, implies_true, gt_157, gr_157_0, gt_140, gr_157_1, gt_4, gr_157_3, gt_158, gr_4_1, gt_5]
    rw [hu, w32_of (x := u + 1) (by omega) (by omega)]
    generalize hχ : ju σ 157 5 (u + 1) = χ
    have Fχ : ASF c σ χ := ⟨fun c' _ b _ _ => by rw [← hχ, ju_row b], fun j hj => by rw [← hχ, ju_ne2 hj]⟩
    have r : ∀ c', c' ≠ 157 → χ c' = σ c' := fun c' h => by rw [← hχ, ju_row h]
    have χu : χ 157 5 = u + 1 := by rw [← hχ, ju_self]
    have Aχ := A.of hcs Fχ
    have Kχ : TKC χ t n p := K.eq (r 140 (by omega))
    have χ6 : χ 140 6 = σ 140 6 := by rw [r 140 (by omega)]
    have χ7 : χ 140 7 = σ 140 7 := by rw [r 140 (by omega)]
    refine ⟨fun x => ?_, fun x => ?_⟩
    · have n40 : tK t n p ≠ 40 := by omega
      rw [Kχ.1.2.2.2]
      refine ⟨fun q => ?_, fun q => ?_⟩
      · have wd : tK t n p = 1 ∧ opW t n p = 0 := by
          by_cases g : tK t n p = 1 ∧ opW t n p = 0
          · exact g
          · exact absurd ⟨n40, q, g⟩ hb
        refine ⟨fun y => ?_, fun y => ?_⟩
        · have nr : tI t n p (jtb 3) = false := by
            cases g : tI t n p (jtb 3) with
            | false => rfl
            | true =>
              rw [g] at y
              exact absurd y (by decide)
          have eq : aX ω t e n (k + 1) false L p u (fun _ => false) = aOK (tN t n p) (u + 1) (wwS ω e (kP ω t n p)) := by
            simp only [aX]
            rw [if_neg hb, if_neg hv, if_neg n40, if_neg q, nr, if_neg Bool.false_ne_true]
          rw [eq, nr]
          have go := l_ru_164 (l := l) (d := d) (rt := false) (by omega) Aχ W U he hcs Kχ hp wd.1 χu
          rw [if_neg Bool.false_ne_true] at go
          exact Ev_post go (fun z τ h => CAS.pre Fχ χ6 χ7 h)
        · have ir : tI t n p (jtb 3) = true := by
            cases g : tI t n p (jtb 3) with
            | true => rfl
            | false =>
              rw [g] at y
              exact absurd rfl y
          have eq : aX ω t e n (k + 1) false L p u (fun _ => false) = if fwB t n (tN t n p) = false then aBD 1 (tS t n (tN t n p)) else aOK (tN t n (tN t n p)) (u + 1) (rS ω e (kP ω t n (tN t n p))) := by
            simp only [aX]
            rw [if_neg hb, if_neg hv, if_neg n40, if_neg q, ir, if_pos rfl]
          rw [eq, ir]
          refine cN_w (c_advance Aχ.1 Kχ hp) (by omega) (fun _ τ h => ?_)
          obtain ⟨F1, K1⟩ := h
          have F01 : ASF c σ τ := Fχ.tr ⟨fun c' a _ _ _ => F1.1 c' a, fun j _ => by rw [F1.1 157 (by omega)]⟩
          have Aτ := A.of hcs F01
          have t6 : τ 140 6 = σ 140 6 := by rw [F1.2 6 (by omega) (by omega) (by omega) (by omega)]; exact χ6
          have t7 : τ 140 7 = σ 140 7 := by rw [F1.2 7 (by omega) (by omega) (by omega) (by omega)]; exact χ7
          refine cN_p (c_isFreeWord Aτ.1 K1 p1) (by omega) ?_
          cases g : fwB t n (tN t n p) with
          | true =>
            rw [if_neg (by decide)]
            refine ⟨fun _ => ?_, fun x => absurd x (by decide)⟩
            have go := l_ru_164 (l := l) (d := d) (u := u + 1) (rt := true) (by omega) Aτ W U he hcs K1 p1 (fwB_iff.mp g).1 (by rw [F1.1 157 (by omega)]; exact χu)
            rw [if_pos rfl] at go
            exact Ev_post go (fun z τ h => CAS.pre F01 t6 t7 h)
          | false =>
            rw [if_pos rfl]
            refine ⟨fun x => absurd rfl x, fun _ => ?_⟩
            refine cN_p (c_fail 1 K1) (by omega) ?_
            exact ⟨Or.inl rfl, CAS.pre F01 t6 t7 (cas_fail K1 1 (by omega) hcs)⟩
      · have eq : aX ω t e n (k + 1) false L p u (fun _ => false) = if tK t n (tN t n p) ≠ 1 then aBD 1 (tS t n (tN t n p)) else aPh ω t e n (u + 1) 401 0 (tN t n p) (fun _ => true) := by
          simp only [aX]
          rw [if_neg hb, if_neg hv, if_neg n40, if_pos q]
        refine cN_w (c_readPhrase Aχ W he hcs Kχ hp q χu) (by omega) (fun z τ h => ?_)
        rw [eq]
        have zz : z = 0 ∨ z = 1 := by
          rcases h.2 with ⟨_, a, _⟩ | ⟨_, a, _⟩
          · exact Or.inr a
          · exact Or.inl a
        exact ⟨zz, CAS.pre Fχ χ6 χ7 h⟩
    · have k40 : tK t n p = 40 := by omega
      have L5 : L ≤ 5 := by omega
      have eq := aX_nest (ω := ω) (e := e) (k := k) (S := fun _ => false) k40 hv
      refine cN_w (c_readNested HA L5 hc W he Aχ Kχ hp χu ⟨by omega, by omega⟩ (by omega)) (by omega) (fun z τ h => ?_)
      rw [eq]
      have zz : z = 0 ∨ z = 1 := by
        rcases h.2 with ⟨_, a, _⟩ | ⟨_, a, _⟩
        · exact Or.inr a
        · exact Or.inl a
      exact ⟨zz, CAS.pre Fχ χ6 χ7 h⟩
  have N66 : ∀ x4 : Int, ((x4 = 0 ∧ tK t n p ≠ 40) ∨ (x4 = 1 ∧ tK t n p = 40)) → ¬ (tK t n p ≠ 40 ∧ tK t n p ≠ 34 ∧ ¬ (tK t n p = 1 ∧ opW t n p = 0)) → Ev (l, (fun _ => 0), 0) d 0 0 m_Asker_readUnit (RW fun z τ => CAS c σ τ t n (wW ω e).1 (aX ω t e n (k + 1) false L p u (fun _ => false)) z) 66 [some (vR 157), some (vI L), some (vR c), some (vI (b2i (tI t n p (jtb 3)))), some (vI x4)] [] gW σ 0 0 := fun x4 hx hb => by
    refine jwp_sound t_Asker_readUnit _ (b_Asker_readUnit_66 ?_)
    simp only [RW, true_and, and_true, and_self, true_or, or_true, Nat.reduceLeDiff, Nat.reduceEqDiff, Nat.reduceAdd, Int.reduceLE, Int.reduceLT, Int.reduceEq, Int.reduceNeg, Int.reduceNe, Nat.reduceSub, reduceIte, implies_true, gt_157, gr_157_0, gt_140, gr_157_1, gt_4, gr_157_3, gt_158, gr_4_1, gt_5]
    rw [hu, w32_of (x := (L : Int) + 1) (by omega) (by omega)]
    have b3 : (u = 30 ∨ (tK t n p = 40 ∧ (L : Int) = 6)) → aX ω t e n (k + 1) false L p u (fun _ => false) = aBD 3 (tS t n p) := fun h => by
      simp only [aX]
      rw [if_neg hb, if_pos h]
    refine ⟨fun x => fail 3 (by omega) (b3 (by omega)), fun x => ⟨fun y => N97 x4 hx (by omega) hb, fun y => ⟨fun z => N97 x4 hx (by omega) hb, fun z => fail 3 (by omega) (b3 (by omega))⟩⟩⟩
  have N27 : ∀ x4 : Int, ((x4 = 0 ∧ tK t n p ≠ 40) ∨ (x4 = 1 ∧ tK t n p = 40)) → Ev (l, (fun _ => 0), 0) d 0 0 m_Asker_readUnit (RW fun z τ => CAS c σ τ t n (wW ω e).1 (aX ω t e n (k + 1) false L p u (fun _ => false)) z) 27 [some (vR 157), some (vI L), some (vR c), some (vI (b2i (tI t n p (jtb 3)))), none] [vI x4] gW σ 0 0 := fun x4 hx => by
    refine jwp_sound t_Asker_readUnit _ (b_Asker_readUnit_27 ?_)
    simp only [RW, true_and, and_true, and_self, true_or, or_true, Nat.reduceLeDiff, Nat.reduceEqDiff, Nat.reduceAdd, Int.reduceLE, Int.reduceLT, Int.reduceEq, Int.reduceNeg, Int.reduceNe, Nat.reduceSub, reduceIte, implies_true, gt_157, gr_157_0, gt_140, gr_157_1, gt_4, gr_157_3, gt_158, gr_4_1, gt_5]
    rw [K.1.2.2.2]
    refine ⟨fun y => ?_, fun y => ⟨fun y2 => N66 x4 hx (fun z => by omega), fun y2 => ⟨fun y3 => N66 x4 hx (fun z => z.2.1 y3), fun y3 => ?_⟩⟩⟩
    · have ir : tI t n p (jtb 3) = true := by
        cases g : tI t n p (jtb 3) with
        | true => rfl
        | false =>
          rw [g] at y
          exact absurd rfl y
      exact N66 x4 hx (fun z => z.2.2 ⟨tI_1 ir, root_op ir⟩)
    · have nr : tI t n p (jtb 3) = false := by
        cases g : tI t n p (jtb 3) with
        | false => rfl
        | true =>
          rw [g] at y
          exact absurd y (by decide)
      refine cN_p (c_isFreeWord A.1 K hp) (by omega) ?_
      cases g : fwB t n p with
      | true =>
        have f := fwB_iff.mp g
        exact ⟨fun _ => N66 x4 hx (fun z => z.2.2 ⟨f.1, f.2.1⟩), fun x => absurd x (by decide)⟩
      | false =>
        refine ⟨fun x => absurd rfl x, fun _ => fail 1 (by omega) ?_⟩
        simp only [aX]
        rw [if_pos ⟨by omega, y3, fun z => by
          have := fwB_iff.mpr ⟨z.1, z.2, nr⟩
          rw [g] at this
          cases this⟩]
  exact ⟨fun x => N27 0 (Or.inl ⟨rfl, x⟩), fun x => N27 1 (Or.inr ⟨rfl, x⟩)⟩
theorem pu_all (W : OKW ω) (U : RLO ω) (he : 0 ≤ e ∧ e ≤ 1) : ∀ k : Nat, (∀ j, j ≤ k → PU ω t e n j) := by
  intro k
  induction k with
  | zero =>
    intro j hj L c p σ u hL hc A K hp hu h30 hk
    omega
  | succ k ih =>
    intro j hj
    by_cases g : j ≤ k
    · exact ih j g
    · rw [show j = k + 1 by omega]
      exact pu_s W U he k (pa_of W he k ih)
theorem c_readAsk (W : OKW ω) (U : RLO ω) (he : 0 ≤ e ∧ e ≤ 1) (A : AEN σ ω e t n) (K : TKC σ t n p) (hp : 0 ≤ p ∧ p ≤ n) (hu : σ 157 5 = 0) : Cw 50 m_Asker_readAsk [vR 157, vI 0] σ (fun z τ => CAS 160 σ τ t n (wW ω e).1 (aA ω t e n 31 0 p 0) z) := by
  exact pa_of W he 31 (pu_all W U he 31) 0 p σ 0 (by omega) A K hp hu (by omega) (by omega)
end BB
