/-! ASKS: the reference reads a unit -/
def aB (ω t : Int → Int) (e n : Int) (k : Nat) (L p u : Int) : AS := if (aX ω t e n k false L p u (fun _ => false)).1 ≠ 0 then aX ω t e n k false L p u (fun _ => false) else aX ω t e n k true L (aX ω t e n k false L p u (fun _ => false)).2.2.1 (aX ω t e n k false L p u (fun _ => false)).2.2.2.1 (aX ω t e n k false L p u (fun _ => false)).2.2.2.2
def PUR (ω t : Int → Int) (e n : Int) (k : Nat) : Prop := ∀ (L a : Nat) (p : Int) (σ : jH) (u : Int), L ≤ 6 → a ≤ L + 1 → REN σ ω e t n → TKR σ t n p → (0 ≤ p ∧ p ≤ n) → σ 189 22 = 0 → σ 189 29 = u → (0 ≤ u ∧ u ≤ 30) → 31 ≤ (k : Int) + u → Cw (dpU L) m_Model_readUnit [vR 189, vI L, vI a] σ (fun _ τ => MAS (208 + (a : Int)) σ τ t n (wW ω e).1 (aX ω t e n k false L p u (fun _ => false)))
def PAR (ω t : Int → Int) (e n : Int) (k : Nat) : Prop := ∀ (L a : Nat) (p : Int) (σ : jH) (u : Int), L ≤ 6 → a ≤ L → REN σ ω e t n → TKR σ t n p → (0 ≤ p ∧ p ≤ n) → σ 189 22 = 0 → σ 189 29 = u → (0 ≤ u ∧ u ≤ 30) → 31 ≤ (k : Int) + u → Cw (dpU L + 1) m_Model_readAsk [vR 189, vI L, vI a] σ (fun _ τ => MAS (208 + (a : Int)) σ τ t n (wW ω e).1 (aB ω t e n k L p u))
theorem gr_rl {a : Nat} (h : a ≤ 9) : gW.2.2 207 (a : Int) = 208 + (a : Int) := by
  have : a = 0 ∨ a = 1 ∨ a = 2 ∨ a = 3 ∨ a = 4 ∨ a = 5 ∨ a = 6 ∨ a = 7 ∨ a = 8 ∨ a = 9 := by omega
  rcases this with rfl | rfl | rfl | rfl | rfl | rfl | rfl | rfl | rfl | rfl
  · exact gr_207_0
  · exact gr_207_1
  · exact gr_207_2
  · exact gr_207_3
  · exact gr_207_4
  · exact gr_207_5
  · exact gr_207_6
  · exact gr_207_7
  · exact gr_207_8
  · exact gr_207_9
section BR
variable {l : Launch} {d : Nat} {ω t : Int → Int} {σ : jH} {e n p c : Int}
theorem aX_nestR {k : Nat} {L p u : Int} {S : Int → Bool} (g1 : tK t n p = 40) (g2 : ¬ (u = 30 ∨ (tK t n p = 40 ∧ L = 6))) : aX ω t e n (k + 1) false L p u S = if (aB ω t e n k (L + 1) (tN t n p) (u + 1)).1 ≠ 0 then aB ω t e n k (L + 1) (tN t n p) (u + 1) else if tK t n (aB ω t e n k (L + 1) (tN t n p) (u + 1)).2.2.1 = 41 then aOK (tN t n (aB ω t e n k (L + 1) (tN t n p) (u + 1)).2.2.1) (aB ω t e n k (L + 1) (tN t n p) (u + 1)).2.2.2.1 (aB ω t e n k (L + 1) (tN t n p) (u + 1)).2.2.2.2 else aBD 1 (tS t n (aB ω t e n k (L + 1) (tN t n p) (u + 1)).2.2.1) := by
  simp only [aX]
  rw [if_neg (fun x => x.1 g1), if_neg g2, if_pos g1]
  unfold aB
  generalize aX ω t e n k false (L + 1) (tN t n p) (u + 1) (fun _ => false) = R
  by_cases a : R.1 ≠ 0
  · rw [if_pos a, if_pos a, if_pos a]
  · rw [if_neg a, if_neg a]
theorem MAS.pre {χ τ : jH} {W : Int} {R : AS} (F : RAF c σ χ) (h : χ 189 23 = σ 189 23) (M : MAS c χ τ t n W R) : MAS c σ τ t n W R := by
  obtain ⟨F2, M⟩ := M
  refine ⟨F.tr F2, ?_⟩
  rcases M with ⟨a1, a2, a3, a4⟩ | M
  · exact Or.inl ⟨a1, a2, a3.trans h, a4⟩
  · exact Or.inr M
theorem l_mu_193 {P : Int → jH → Prop} {S : Int → Bool} {x6 f : Int} (A : REN σ ω e t n) (he : 0 ≤ e ∧ e ≤ 1) (hc : isRSet c) (hS : ∀ q, 0 ≤ q → q < (wW ω e).1 → S q = (decide (x6 = 0) && decide (dw ω e q = f))) (N : ∀ τ : jH, (∀ c', c' ≠ c → τ c' = σ c') → SET τ c (wW ω e).1 S → P 0 τ) : ∀ (k x : Nat) (τ : jH), (x : Int) + k = (wW ω e).1 → (∀ c', c' ≠ c → τ c' = σ c') → (∀ q : Int, 0 ≤ q → q < x → τ c q = b2i (S q)) →
    Ev (l, (fun _ => 0), 0) d 0 0 m_Model_readUnit (RW P) 193 [some (vR 189), none, none, none, some (vR c), some (vI f), some (vI x6), some (vI x)] [] gW τ 0 0
  | 0, x, τ, hx, F, V => by
    have hcc := hc
    unfold isRSet at hcc
    have w := A.1.W he
    have go := N τ F (fun q a b => V q a (by omega))
    refine jwp_sound t_Model_readUnit _ (b_Model_readUnit_193 ?_)
    simp only [RW, true_and, and_true, and_self, true_or, or_true, Nat.reduceLeDiff, Nat.reduceEqDiff, Nat.reduceAdd, Int.reduceLE, Int.reduceLT, Int.reduceEq, Int.reduceNeg, Int.reduceNe, Nat.reduceSub, reduceIte, implies_true, gt_189, gr_189_28, gt_207, gr_189_4, gt_193, gr_189_5, gt_194]
    rw [F 189 (by omega), A.2.2.2, F 193 (by omega), w.1]
    exact ⟨by omega, by omega, fun _ => go, fun y => absurd y (by omega)⟩
  | k + 1, x, τ, hx, F, V => by
    have hcc := hc
    unfold isRSet at hcc
    have w := A.1.W he
    have gc := gt_rset hc
    have x340 : (x : Int) < 340 := by omega
    have go : ∀ (v : Int), v = b2i (S x) → Ev (l, (fun _ => 0), 0) d 0 0 m_Model_readUnit (RW P) 193 [some (vR 189), none, none, none, some (vR c), some (vI f), some (vI x6), some (vI ((x : Int) + 1))] [] gW (ju τ c x v) 0 0 := fun v hv => by
      have IH := l_mu_193 A he hc hS N k (x + 1) (ju τ c x v) (by omega) (fun c' a => by rw [ju_row a, F c' a]) (fun q a b => by
        by_cases g : q = x
        · rw [g, ju_self]
          exact hv
        · rw [ju_ne2 g]
          exact V q a (by omega))
      rw [show ((x + 1 : Nat) : Int) = (x : Int) + 1 by omega] at IH
      exact IH
    have tr : ∀ {P : Prop}, P → ((3, (340 : Int)) : Nat × Int).1 = 3 ∧ 0 ≤ (x : Int) ∧ (x : Int) < ((3, (340 : Int)) : Nat × Int).2 ∧ P := fun {P} h => ⟨rfl, by omega, x340, h⟩
    have sx := hS x (by omega) (by omega)
    refine jwp_sound t_Model_readUnit _ (b_Model_readUnit_193 ?_)
    simp only [RW, true_and, and_true, and_self, true_or, or_true, Nat.reduceLeDiff, Nat.reduceEqDiff, Nat.reduceAdd, Int.reduceLE, Int.reduceLT, Int.reduceEq, Int.reduceNeg, Int.reduceNe, Nat.reduceSub, reduceIte, implies_true, gt_189, gr_189_28, gt_207, gr_189_4, gt_193, gr_189_5, gt_194]
    rw [F 189 (by omega), A.2.2.2, F 193 (by omega), w.1, gc, w32_of (x := (x : Int) + 1) (by omega) (by omega), w32_of (x := 340 * e) (by omega) (by omega), w32_of (x := 340 * e + (x : Int)) (by omega) (by omega)]
    refine ⟨by omega, by omega, fun y => absurd y (by omega), fun _ => ⟨fun y => tr (go 0 ?_), fun y => ⟨by omega, by omega, ?_⟩⟩⟩
    · rw [sx, decide_eq_false y, Bool.false_and]
      rfl
    · have dv : τ 194 (340 * e + (x : Int)) = dw ω e (x : Int) := by
        rw [F 194 (by omega)]
        exact A.1.2.2.2.2.2.2.1 e _ he.1 he.2 (by omega) (by omega)
      rw [dv]
      rw [decide_eq_true y, Bool.true_and] at sx
      refine ⟨fun v => tr (go 0 ?_), fun v => tr (go 1 ?_)⟩
      · rw [sx, decide_eq_false v]
        rfl
      · rw [sx, decide_eq_true v]
        rfl
theorem pur_s (U : RLO ω) (he : 0 ≤ e ∧ e ≤ 1) (k : Nat) (HA : PAR ω t e n k) : PUR ω t e n (k + 1) := by
  intro L a p σ u hL ha A K hp g hu h30 hk
  have hcs : isRSet (208 + (a : Int)) := by
    unfold isRSet
    omega
  have ga := gr_rl (a := a) (by omega)
  have gc := gt_rset hcs
  have dL : 25 ≤ dpU L := by
    unfold dpU
    omega
  have p1 := tN_in (t := t) hp
  have w := A.1.W he
  refine Cw_of o_Model_readUnit rfl fun l d hd => jwp_sound t_Model_readUnit _ (b_Model_readUnit_0 ?_)
  simp only [RW, true_and, and_true, and_self, true_or, or_true, Nat.reduceLeDiff, Nat.reduceEqDiff, Nat.reduceAdd, Int.reduceLE, Int.reduceLT, Int.reduceEq, Int.reduceNeg, Int.reduceNe, Nat.reduceSub, reduceIte, implies_true, gt_189, gr_189_28, gt_207, gr_189_4, gt_193, gr_189_5, gt_194]
  have B54 : ∀ x : Int, x ≠ 0 → aX ω t e n (k + 1) false L p u (fun _ => false) = aBD x (tS t n p) → Ev (l, (fun _ => 0), 0) d 0 0 m_Model_readUnit (RW fun _ τ => MAS (208 + (a : Int)) σ τ t n (wW ω e).1 (aX ω t e n (k + 1) false L p u (fun _ => false))) 54 [some (vR 189), some (vI L), some (vI a), none, none, none, none, none] [] gW (WR σ x (tS t n p)) 0 0 := fun x hx eq => by
    refine jwp_sound t_Model_readUnit _ (b_Model_readUnit_54 ?_)
    simp only [RW, true_and, and_true, and_self, true_or, or_true, Nat.reduceLeDiff, Nat.reduceEqDiff, Nat.reduceAdd, Int.reduceLE, Int.reduceLT, Int.reduceEq, Int.reduceNeg, Int.reduceNe, Nat.reduceSub, reduceIte, implies_true, gt_189, gr_189_28, gt_207, gr_189_4, gt_193, gr_189_5, gt_194]
    refine cN_p (c_good _) (by omega) ?_
    rw [wr_22, if_neg hx]
    refine ⟨fun y => absurd rfl y, fun _ => ?_⟩
    rw [eq]
    exact mas_wr hx RAF.rf
  have N54 : ¬ (tK t n p ≠ 40 ∧ tK t n p ≠ 34 ∧ ¬ (tK t n p = 1 ∧ opW t n p = 0)) → ¬ (u = 30 ∨ (tK t n p = 40 ∧ (L : Int) = 6)) → Ev (l, (fun _ => 0), 0) d 0 0 m_Model_readUnit (RW fun _ τ => MAS (208 + (a : Int)) σ τ t n (wW ω e).1 (aX ω t e n (k + 1) false L p u (fun _ => false))) 54 [some (vR 189), some (vI L), some (vI a), none, none, none, none, none] [] gW σ 0 0 := fun hb hv => by
    refine jwp_sound t_Model_readUnit _ (b_Model_readUnit_54 ?_)
    simp only [RW, true_and, and_true, and_self, true_or, or_true, Nat.reduceLeDiff, Nat.reduceEqDiff, Nat.reduceAdd, Int.reduceLE, Int.reduceLT, Int.reduceEq, Int.reduceNeg, Int.reduceNe, Nat.reduceSub, reduceIte, implies_true, gt_189, gr_189_28, gt_207, gr_189_4, gt_193, gr_189_5, gt_194, ga]
    refine cN_p (c_good _) (by omega) ?_
    rw [if_pos g, hu, w32_of (x := u + 1) (by omega) (by omega)]
    refine ⟨fun _ => ⟨by omega, by omega, ?_⟩, fun x => absurd x (by omega)⟩
    generalize hχ : ju σ 189 29 (u + 1) = χ
    have χj : ∀ j, j ≠ 29 → χ 189 j = σ 189 j := fun j hj => by rw [← hχ, ju_ne2 hj]
    have Fχ : RAF (208 + (a : Int)) σ χ := ⟨fun c' b _ _ => by rw [← hχ, ju_row b], fun j hj => χj j (by omega)⟩
    have χu : χ 189 29 = u + 1 := by rw [← hχ, ju_self]
    have gχ : χ 189 22 = 0 := by rw [χj 22 (by omega)]; exact g
    have Kχ : TKR χ t n p := by
      unfold TKR
      rw [χj 17 (by omega), χj 19 (by omega), χj 18 (by omega), χj 20 (by omega), χj 21 (by omega)]
      exact K
    have Aχ := A.of hcs Fχ
    have χ3 := χj 23 (by omega)
    refine cN_p (c_isSign_g (c := 40) (by omega) gχ Kχ) (by omega) ?_
    by_cases q40 : tK t n p = 40
    · rw [if_pos q40]
      refine ⟨fun x => absurd x (by omega), fun _ => ?_⟩
      have L5 : L ≤ 5 := by omega
      have dL1 : dpU (L + 1) + 4 = dpU L := by
        unfold dpU
        omega
      refine cN_w (c_step Aχ.2.2.1 Kχ hp) (by omega) (fun _ τ h => ?_)
      obtain ⟨F1, K1⟩ := h
      rw [w32_of (x := (L : Int) + 1) (by omega) (by omega)]
      have F01 : RAF (208 + (a : Int)) σ τ := Fχ.tr F1.raf
      have go := HA (L + 1) a (tN t n p) τ (u + 1) (by omega) (by omega) (A.of hcs F01) K1 p1 (by rw [F1.2 22 (by omega) (by omega) (by omega) (by omega)]; exact gχ) (by rw [F1.2 29 (by omega) (by omega) (by omega) (by omega)]; exact χu) ⟨by omega, by omega⟩ (by omega)
      rw [show ((L + 1 : Nat) : Int) = (L : Int) + 1 by omega] at go
      refine cN_w go (by omega) (fun _ ξ h => ?_)
      rw [aX_nestR q40 hv]
      generalize aB ω t e n k ((L : Int) + 1) (tN t n p) (u + 1) = B at *
      obtain ⟨F2, h⟩ := h
      have F02 := F01.tr F2
      rcases h with ⟨b0, g2, h23, b3, K2, h29, V2⟩ | ⟨b0, e22, e23⟩
      · rw [if_neg (fun x => x b0)]
        refine cN_p (c_isSign_g (c := 41) (by omega) g2 K2) (by omega) ?_
        by_cases z : tK t n B.2.2.1 = 41
        · rw [if_pos z, if_pos z]
          refine ⟨fun _ => ?_, fun x => absurd x (by omega)⟩
          refine cN_w (c_step (A.of hcs F02).2.2.1 K2 b3) (by omega) (fun _ υ h => ?_)
          obtain ⟨F3, K3⟩ := h
          refine ⟨F02.tr F3.raf, Or.inl ⟨rfl, ?_, ?_, tN_in b3, K3, ?_, fun q' x y => ?_⟩⟩
          · rw [F3.2 22 (by omega) (by omega) (by omega) (by omega)]
            exact g2
          · rw [F3.2 23 (by omega) (by omega) (by omega) (by omega), h23, F1.2 23 (by omega) (by omega) (by omega) (by omega)]
            exact χ3
          · rw [F3.2 29 (by omega) (by omega) (by omega) (by omega)]
            exact h29
          · rw [F3.1 (208 + (a : Int)) (by omega)]
            exact V2 q' x y
        · rw [if_neg z, if_neg z]
          refine ⟨fun x => absurd rfl x, fun _ => ?_⟩
          exact cN_v (c_wrong_g 1 g2 K2) (by omega) (fun _ => mas_wr (by omega) F02)
      · rw [if_pos b0]
        have nb : ξ 189 22 ≠ 0 := by rw [e22]; exact b0
        refine cN_p (c_isSign_b 41 nb) (by omega) ?_
        refine ⟨fun x => absurd rfl x, fun _ => ?_⟩
        exact cN_v (c_wrong_b 1 nb) (by omega) (fun _ => ⟨F02, Or.inr ⟨b0, e22, e23⟩⟩)
    · rw [if_neg q40]
      refine ⟨fun _ => ?_, fun x => absurd rfl x⟩
      refine cN_p (c_isSign_g (c := 34) (by omega) gχ Kχ) (by omega) ?_
      by_cases q34 : tK t n p = 34
      · rw [if_pos q34]
        refine ⟨fun x => absurd x (by omega), fun _ => ?_⟩
        have eq : aX ω t e n (k + 1) false L p u (fun _ => false) = if tK t n (tN t n p) ≠ 1 then aBD 1 (tS t n (tN t n p)) else aPh ω t e n (u + 1) 401 0 (tN t n p) (fun _ => true) := by
          simp only [aX]
          rw [if_neg hb, if_neg hv, if_neg q40, if_pos q34]
        rw [eq]
        exact cN_w (c_mreadRow Aχ he hcs gχ Kχ hp q34 χu) (by omega) (fun _ τ h => MAS.pre Fχ χ3 h)
      · rw [if_neg q34]
        refine ⟨fun _ => ?_, fun x => absurd rfl x⟩
        have wd : tK t n p = 1 ∧ opW t n p = 0 := by
          by_cases z : tK t n p = 1 ∧ opW t n p = 0
          · exact z
          · exact absurd ⟨q40, q34, z⟩ hb
        refine cN_p (c_mis_g (w := 3) (by decide) gχ Aχ.2.2.1 Kχ hp) (by omega) ?_
        cases h3 : tI t n p (jtb 3) with
        | true =>
          refine ⟨fun x => absurd x (by decide), fun _ => ?_⟩
          have eq : aX ω t e n (k + 1) false L p u (fun _ => false) = if fwB t n (tN t n p) = false then aBD 1 (tS t n (tN t n p)) else aOK (tN t n (tN t n p)) (u + 1) (rS ω e (kP ω t n (tN t n p))) := by
            simp only [aX]
            rw [if_neg hb, if_neg hv, if_neg q40, if_neg q34, if_pos h3]
          rw [eq]
          exact cN_w (c_mreadRootWord Aχ U he hcs gχ Kχ hp χu) (by omega) (fun _ τ h => MAS.pre Fχ χ3 h)
        | false =>
          refine ⟨fun _ => ?_, fun x => absurd rfl x⟩
          have eq : aX ω t e n (k + 1) false L p u (fun _ => false) = aOK (tN t n p) (u + 1) (wwS ω e (kP ω t n p)) := by
            simp only [aX]
            rw [if_neg hb, if_neg hv, if_neg q40, if_neg q34, if_neg (by rw [h3]; decide)]
          rw [eq]
          refine cN_w (c_formHere_g Aχ.1 Aχ.2.1 gχ Aχ.2.2.1 Kχ hp wd.1) (by omega) (fun f ξ h => ?_)
          obtain ⟨ix, F3, K3, G3⟩ := h
          have F03 : RAF (208 + (a : Int)) σ ξ := Fχ.tr ⟨fun c' x _ y => F3 c' x (by omega), fun j hj => G3 j (by omega) (by omega) (by omega) (by omega)⟩
          have A3 := A.of hcs F03
          have fin : ∀ (x6 : Int) (υ : jH), FR1 ξ υ 201 → (∀ q, 0 ≤ q → q < (wW ω e).1 → wwS ω e (kP ω t n p) q = (decide (x6 = 0) && decide (dw ω e q = f))) → Ev (l, (fun _ => 0), 0) d 0 0 m_Model_readUnit (RW fun _ τ => MAS (208 + (a : Int)) σ τ t n (wW ω e).1 (aOK (tN t n p) (u + 1) (wwS ω e (kP ω t n p)))) 193 [some (vR 189), none, none, none, some (vR (208 + (a : Int))), some (vI f), some (vI x6), some (vI 0)] [] gW υ 0 0 := fun x6 υ F4 hS => by
            have F04 : RAF (208 + (a : Int)) σ υ := F03.tr ⟨fun c' _ y _ => F4 c' y, fun j _ => by rw [F4 189 (by omega)]⟩
            refine l_mu_193 (σ := υ) (A.of hcs F04) he hcs hS (fun ζ F5 V5 => ?_) (wW ω e).1.toNat 0 υ (by omega) (fun _ _ => rfl) (fun q' x y => by omega)
            have r : ζ 189 = ξ 189 := by rw [F5 189 (by omega), F4 189 (by omega)]
            refine ⟨F04.tr ⟨fun c' _ _ z => F5 c' (by omega), fun j _ => by rw [F5 189 (by omega)]⟩, Or.inl ⟨rfl, ?_, ?_, p1, ?_, ?_, V5⟩⟩
            · rw [r, G3 22 (by omega) (by omega) (by omega) (by omega)]
              exact gχ
            · rw [r, G3 23 (by omega) (by omega) (by omega) (by omega)]
              exact χ3
            · show TKR ζ t n (tN t n p)
              unfold TKR
              rw [r]
              exact K3
            · show ζ 189 29 = u + 1
              rw [r, G3 29 (by omega) (by omega) (by omega) (by omega)]
              exact χu
          have same : ∀ q, 0 ≤ q → q < (wW ω e).1 → decide (KEY ω e q = kP ω t n p) = decide (dw ω e q = f) := fun q x y => decide_eq_decide.mpr (dw_iff Aχ.1 ix he ⟨x, y⟩).symm
          refine ⟨fun y => ?_, fun y => ?_⟩
          · refine fin 1 ξ (fun _ _ => rfl) (fun q x z => ?_)
            obtain ⟨d1, d2, d3⟩ := A.1.2.1.2.2.2.1 e q he.1 he.2 x z
            have d1' : 0 ≤ dw ω e q := d1
            unfold wwS
            rw [same q x z, decide_eq_false (show ¬ dw ω e q = f by omega), Bool.and_false, Bool.and_false]
          · have f3 : 0 ≤ f ∧ f < dn ω ∧ dF ω f = kP ω t n p := by
              rcases ix with ⟨x, _⟩ | x
              · exact absurd x y
              · exact x
            refine cN_w (c_Model_isStop A3.1 A3.2.1 U f3.1 f3.2.1) (by omega) (fun z υ h => ?_)
            obtain ⟨hz, F4⟩ := h
            rw [f3.2.2] at hz
            refine ⟨fun v => fin 0 υ F4 (fun q x1 x2 => ?_), fun v => fin 1 υ F4 (fun q x1 x2 => ?_)⟩
            · unfold wwS
              rw [same q x1 x2]
              cases s : stopB ω (kP ω t n p) with
              | false => rfl
              | true =>
                rw [s] at hz
                rw [v] at hz
                exact absurd hz (by decide)
            · unfold wwS
              cases s : stopB ω (kP ω t n p) with
              | true => rfl
              | false =>
                rw [s] at hz
                exact absurd hz v
  have N20 : ∀ s0 : Int, ((s0 = 1 ∧ tK t n p = 40 ∧ (L : Int) = 6) ∨ (s0 = 0 ∧ ¬ (tK t n p = 40 ∧ (L : Int) = 6))) → Ev (l, (fun _ => 0), 0) d 0 0 m_Model_readUnit (RW fun _ τ => MAS (208 + (a : Int)) σ τ t n (wW ω e).1 (aX ω t e n (k + 1) false L p u (fun _ => false))) 20 [some (vR 189), some (vI L), some (vI a), none, none, none, none, none] [vI s0] gW σ 0 0 := fun s0 hs => by
    refine jwp_sound t_Model_readUnit _ (b_Model_readUnit_20 ?_)
    simp only [RW, true_and, and_true, and_self, true_or, or_true, Nat.reduceLeDiff, Nat.reduceEqDiff, Nat.reduceAdd, Int.reduceLE, Int.reduceLT, Int.reduceEq, Int.reduceNeg, Int.reduceNe, Nat.reduceSub, reduceIte, implies_true, gt_189, gr_189_28, gt_207, gr_189_4, gt_193, gr_189_5, gt_194]
    refine cN_p (c_beginsUnit_g g A.2.2.1 K hp) (by omega) ?_
    rw [hu]
    by_cases b : tK t n p = 40 ∨ tK t n p = 34 ∨ (tK t n p = 1 ∧ opW t n p = 0)
    · have hb : ¬ (tK t n p ≠ 40 ∧ tK t n p ≠ 34 ∧ ¬ (tK t n p = 1 ∧ opW t n p = 0)) := fun ⟨x, y, z⟩ => b.elim x (fun b => b.elim y z)
      have b3 : (u = 30 ∨ (tK t n p = 40 ∧ (L : Int) = 6)) → aX ω t e n (k + 1) false L p u (fun _ => false) = aBD 3 (tS t n p) := fun h => by
        simp only [aX]
        rw [if_neg hb, if_pos h]
      rw [if_pos b]
      refine ⟨fun _ => ⟨fun x => ?_, fun x => ⟨fun y => N54 hb (by omega), fun y => ?_⟩⟩, fun x => absurd x (by omega)⟩
      · exact cN_v (c_wrong_g 3 g K) (by omega) (fun _ => B54 3 (by omega) (b3 (Or.inl x)))
      · exact cN_v (c_wrong_g 3 g K) (by omega) (fun _ => B54 3 (by omega) (b3 (by omega)))
    · rw [if_neg b]
      refine ⟨fun x => absurd rfl x, fun _ => ?_⟩
      refine cN_v (c_wrong_g 1 g K) (by omega) (fun _ => B54 1 (by omega) ?_)
      simp only [aX]
      rw [if_pos ⟨fun x => b (Or.inl x), fun x => b (Or.inr (Or.inl x)), fun x => b (Or.inr (Or.inr x))⟩]
  refine cN_p (c_isSign_g (c := 40) (by omega) g K) (by omega) ?_
  by_cases q40 : tK t n p = 40
  · rw [if_pos q40]
    exact ⟨fun x => absurd x (by omega), fun _ => ⟨fun x => N20 0 (Or.inr ⟨rfl, fun z => x z.2⟩), fun x => N20 1 (Or.inl ⟨rfl, q40, x⟩)⟩⟩
  · rw [if_neg q40]
    exact ⟨fun _ => N20 0 (Or.inr ⟨rfl, fun z => q40 z.1⟩), fun x => absurd rfl x⟩
end BR
