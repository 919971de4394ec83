/-! ASKS: the reference reads a root's name -/
def BDA (c : Int) (σ τ : jH) (R : AS) : Prop := RAF c σ τ ∧ R.1 ≠ 0 ∧ τ 189 22 = R.1 ∧ τ 189 23 = R.2.1
theorem fsB_down {P : Int → Bool} {x : Int} {n : Nat} (h : (x = -1 ∧ ∀ i : Int, 0 ≤ i → i < n → P i = false) ∨ ((0 ≤ x ∧ x < n) ∧ P x = true ∧ ∀ i : Int, 0 ≤ i → i < x → P i = false)) : x = fsB P n := by
  rcases h with ⟨rfl, h⟩ | ⟨⟨a, b⟩, c, f⟩
  · exact (fsB_no h).symm
  · exact (fsB_is a b c f).symm
section BP
variable {l : Launch} {d : Nat} {ω t : Int → Int} {σ : jH} {e n p c : Int}
theorem BDA.mas {τ : jH} {R : AS} {W : Int} (B : BDA c σ τ R) : MAS c σ τ t n W R := ⟨B.1, Or.inr ⟨B.2.1, B.2.2.1, B.2.2.2⟩⟩
theorem BDA.n0 {τ : jH} {R : AS} (B : BDA c σ τ R) : τ 189 22 ≠ 0 := by
  rw [B.2.2.1]
  exact B.2.1
theorem bda_wr {τ : jH} {x s : Int} (hx : x ≠ 0) (F : RAF c σ τ) : BDA c σ (WR τ x s) (aBD x s) := ⟨F.tr wr_raf, hx, wr_22, wr_23⟩
theorem c_Model_isTold {k : Int} (hφ : okρ (fo ω)) (h190 : σ 190 = ω) (V : RV ω k) (V' : RV (σ 218) 0) (k0 : 0 ≤ k) (k1 : k + 20 < 32677) : Cw 11 m_Model_isTold [vR 189, vI k] σ (fun z τ => z = b2i (decide (km (fo ω) (rk ω k) = rk (σ 218) 0)) ∧ τ = σ) := by
  have v0 := V.1
  rw [← tlA_iff hφ V V']
  refine Cw_of o_Model_isTold rfl fun l d hd => jwp_sound t_Model_isTold _ (b_Model_isTold_0 ?_)
  simp only [RW, true_and, and_true, and_self, true_or, or_true, Nat.reduceLeDiff, Nat.reduceEqDiff, Nat.reduceAdd, Int.reduceLE, Int.reduceLT, Int.reduceEq, Int.reduceNeg, Int.reduceNe, Nat.reduceSub, reduceIte, implies_true, gt_189, gr_189_1, gt_190, gr_189_31, gt_218]
  rw [h190]
  have IH := l_it_23 (l := l) (σ := σ) hd h190 V k0 k1 (ω k).toNat 0 (by omega)
  refine ⟨by omega, by omega, fun y => ?_, fun y => ?_⟩
  · rw [show tlA ω (σ 218) k 0 = false from by unfold tlA; rw [decide_eq_false y]; rfl] at IH
    exact IH
  · rw [show tlA ω (σ 218) k 0 = true from by unfold tlA; rw [decide_eq_true y]; rfl] at IH
    exact IH
theorem l_rr_136 {P : Int → jH → Prop} {S : Int → Bool} {r : Int} (hd : 14 ≤ d) (A : REN σ ω e t n) (U : RLO ω) (he : 0 ≤ e ∧ e ≤ 1) (hc : isRSet c) (hr : r = -1 ∨ (0 ≤ r ∧ r < ω 2)) (hS : ∀ q, 0 ≤ q → q < (wW ω e).1 → S q = (decide (r ≠ -1) && exI (wrt ω r) (KEY ω e q) (ω (477 + 106 * r)).toNat)) (N : ∀ τ : jH, (∀ c', c' ≠ c → c' ≠ 201 → τ c' = σ c') → SET τ c (wW ω e).1 S → P 0 τ) : ∀ (k x : Nat) (τ : jH), (x : Int) + k = (wW ω e).1 → (∀ c', c' ≠ c → c' ≠ 201 → τ c' = σ c') → (∀ q : Int, 0 ≤ q → q < x → τ c q = b2i (S q)) →
    Ev (l, (fun _ => 0), 0) d 0 0 m_Model_readRootWord (RW P) 136 [some (vR 189), some (vR c), some (vI r), some (vI x)] [] gW τ 0 0
  | 0, x, τ, hx, F, V => by
    have hcc := hc
    unfold isRSet at hcc
    have w := A.1.W he
    have go := N τ F (fun q a b => V q a (by omega))
    refine jwp_sound t_Model_readRootWord _ (b_Model_readRootWord_136 ?_)
    simp only [RW, true_and, and_true, and_self, true_or, or_true, Nat.reduceLeDiff, Nat.reduceEqDiff, Nat.reduceAdd, Int.reduceLE, Int.reduceLT, Int.reduceEq, Int.reduceNeg, Int.reduceNe, Nat.reduceSub, reduceIte, implies_true, gt_189, gr_189_1, gt_190, gr_189_31, gt_218, gr_189_4, gt_193, gr_189_5, gt_194]
    rw [F 189 (by omega) (by omega), A.2.2.2, F 193 (by omega) (by omega), w.1]
    exact ⟨by omega, by omega, fun _ => go, fun y => absurd y (by omega)⟩
  | k + 1, x, τ, hx, F, V => by
    have hcc := hc
    unfold isRSet at hcc
    have w := A.1.W he
    have gc := gt_rset hc
    have x340 : (x : Int) < 340 := by omega
    have F' : RAF c σ τ := ⟨fun c' a b f => F c' (by omega) b, fun j _ => by rw [F 189 (by omega) (by omega)]⟩
    have Aτ := A.of hc F'
    have go : ∀ (υ : jH) (v : Int), (∀ c', c' ≠ c → c' ≠ 201 → υ c' = σ c') → υ c = τ c → v = b2i (S x) → Ev (l, (fun _ => 0), 0) d 0 0 m_Model_readRootWord (RW P) 136 [some (vR 189), some (vR c), some (vI r), some (vI ((x : Int) + 1))] [] gW (ju υ c x v) 0 0 := fun υ v Fυ ec hv => by
      have IH := l_rr_136 hd A U he hc hr hS N k (x + 1) (ju υ c x v) (by omega) (fun c' a b => by rw [ju_row a, Fυ c' a b]) (fun q a b => by
        by_cases g : q = x
        · rw [g, ju_self]
          exact hv
        · rw [ju_ne2 g, ec]
          exact V q a (by omega))
      rw [show ((x + 1 : Nat) : Int) = (x : Int) + 1 by omega] at IH
      exact IH
    have tr : ∀ {P : Prop}, P → ((3, (340 : Int)) : Nat × Int).1 = 3 ∧ 0 ≤ (x : Int) ∧ (x : Int) < ((3, (340 : Int)) : Nat × Int).2 ∧ P := fun {P} h => ⟨rfl, by omega, x340, h⟩
    have sx := hS x (by omega) (by omega)
    refine jwp_sound t_Model_readRootWord _ (b_Model_readRootWord_136 ?_)
    simp only [RW, true_and, and_true, and_self, true_or, or_true, Nat.reduceLeDiff, Nat.reduceEqDiff, Nat.reduceAdd, Int.reduceLE, Int.reduceLT, Int.reduceEq, Int.reduceNeg, Int.reduceNe, Nat.reduceSub, reduceIte, implies_true, gt_189, gr_189_1, gt_190, gr_189_31, gt_218, gr_189_4, gt_193, gr_189_5, gt_194]
    rw [F 189 (by omega) (by omega), A.2.2.2, F 193 (by omega) (by omega), w.1, gc, w32_of (x := (x : Int) + 1) (by omega) (by omega), w32_of (x := 340 * e) (by omega) (by omega), w32_of (x := 340 * e + (x : Int)) (by omega) (by omega)]
    refine ⟨by omega, by omega, fun y => absurd y (by omega), fun _ => ⟨fun y => tr (go τ 0 F rfl ?_), fun y => ⟨by omega, by omega, ?_⟩⟩⟩
    · rw [sx, decide_eq_false (show ¬ r ≠ -1 from fun z => z y), Bool.false_and]
      rfl
    · have dv : τ 194 (340 * e + (x : Int)) = dw ω e (x : Int) := by
        rw [F 194 (by omega) (by omega)]
        exact A.1.2.2.2.2.2.2.1 e _ he.1 he.2 (by omega) (by omega)
      obtain ⟨d1, d2, d3⟩ := A.1.2.1.2.2.2.1 e x he.1 he.2 (by omega) (by omega)
      have d1' : 0 ≤ dw ω e x := d1
      have d2' : dw ω e x < dn ω := d2
      have d3' : dF ω (dw ω e x) = KEY ω e x := d3
      rw [dv]
      refine cN_w (c_Model_isOfRoot Aτ.1 Aτ.2.1 U (hr.resolve_left y) ⟨d1', d2'⟩) (by omega) (fun z υ h => ?_)
      obtain ⟨hz, F2⟩ := h
      rw [d3'] at hz
      rw [decide_eq_true (show r ≠ -1 from y), Bool.true_and] at sx
      rw [← sx] at hz
      have Fυ : ∀ c', c' ≠ c → c' ≠ 201 → υ c' = σ c' := fun c' a b => (F2 c' b).trans (F c' a b)
      refine ⟨fun v => tr (go υ 0 Fυ (F2 c (by omega)) ?_), fun v => tr (go υ 1 Fυ (F2 c (by omega)) ?_)⟩
      · rw [← hz, v]
      · rw [hz] at v
        cases s : S x with
        | true => rfl
        | false =>
          rw [s] at v
          exact absurd rfl v
theorem l_rr_101 {P : Int → jH → Prop} {K : Int} (hd : 14 ≤ d) (R : RFR σ ω) (U : RLO ω) (V' : RV (σ 218) 0) (hK : rk (σ 218) 0 = K) (N : Ev (l, (fun _ => 0), 0) d 0 0 m_Model_readRootWord (RW P) 136 [some (vR 189), some (vR c), some (vI (nameI ω K)), some (vI 0)] [] gW σ 0 0) : ∀ (m : Nat) (x y : Int), y + 1 = m → (m : Int) ≤ ω 2 → ((x = -1 ∧ ∀ i, (m : Int) ≤ i → i < ω 2 → wrt ω i 0 ≠ K) ∨ (((m : Int) ≤ x ∧ x < ω 2) ∧ wrt ω x 0 = K ∧ ∀ i, (m : Int) ≤ i → i < x → wrt ω i 0 ≠ K)) →
    Ev (l, (fun _ => 0), 0) d 0 0 m_Model_readRootWord (RW P) 101 [some (vR 189), some (vR c), some (vI x), some (vI y)] [] gW σ 0 0
  | 0, x, y, hy, hm, hx => by
    have ex : x = nameI ω K := fsB_down (by
      rcases hx with ⟨a, b⟩ | ⟨a, b, f⟩
      · exact Or.inl ⟨a, fun i i0 i1 => decide_eq_false (b i (by omega) (by omega))⟩
      · exact Or.inr ⟨⟨by omega, by omega⟩, decide_eq_true b, fun i i0 i1 => decide_eq_false (f i (by omega) (by omega))⟩)
    rw [← ex] at N
    refine jwp_sound t_Model_readRootWord _ (b_Model_readRootWord_101 ?_)
    simp only [RW, true_and, and_true, and_self, true_or, or_true, Nat.reduceLeDiff, Nat.reduceEqDiff, Nat.reduceAdd, Int.reduceLE, Int.reduceLT, Int.reduceEq, Int.reduceNeg, Int.reduceNe, Nat.reduceSub, reduceIte, implies_true, gt_189, gr_189_1, gt_190, gr_189_31, gt_218, gr_189_4, gt_193, gr_189_5, gt_194]
    exact ⟨fun _ => N, fun z => absurd z (by omega)⟩
  | m + 1, x, y, hy, hm, hx => by
    have u3 := U.2.2.1
    have ey : y = m := by omega
    subst ey
    obtain ⟨c5, v⟩ := U.2.2.2.2 (m : Int) (by omega) (by omega)
    have v1 := (v 0 (by omega) (by omega)).1
    have w0 : wrt ω (m : Int) 0 = km (fo ω) (rk ω (478 + 106 * (m : Int))) := by
      unfold wrt
      rw [Int.mul_zero, Int.add_zero]
    rw [Int.mul_zero, Int.add_zero] at v1
    refine jwp_sound t_Model_readRootWord _ (b_Model_readRootWord_101 ?_)
    simp only [RW, true_and, and_true, and_self, true_or, or_true, Nat.reduceLeDiff, Nat.reduceEqDiff, Nat.reduceAdd, Int.reduceLE, Int.reduceLT, Int.reduceEq, Int.reduceNeg, Int.reduceNe, Nat.reduceSub, reduceIte, implies_true, gt_189, gr_189_1, gt_190, gr_189_31, gt_218, gr_189_4, gt_193, gr_189_5, gt_194]
    rw [w32_of (x := 106 * (m : Int)) (by omega) (by omega), w32_of (x := 477 + 106 * (m : Int)) (by omega) (by omega), w32_of (x := 477 + 106 * (m : Int) + 1) (by omega) (by omega), w32_of (x := (m : Int) + -1) (by omega) (by omega), show 477 + 106 * (m : Int) + 1 = 478 + 106 * (m : Int) by omega]
    refine ⟨fun z => absurd z (by omega), fun _ => ?_⟩
    refine cN_p (c_Model_isTold R.1.2.2.1 R.2.2.2.1 v1 V' (by omega) (by omega)) (by omega) ?_
    rw [hK, ← w0]
    by_cases g : wrt ω (m : Int) 0 = K
    · rw [decide_eq_true g]
      refine ⟨fun z => absurd z (by decide), fun _ => ?_⟩
      exact l_rr_101 hd R U V' hK N m m _ (by omega) (by omega) (Or.inr ⟨⟨by omega, by omega⟩, g, fun i a b => by omega⟩)
    · rw [decide_eq_false g]
      refine ⟨fun _ => ?_, fun z => absurd rfl z⟩
      refine l_rr_101 hd R U V' hK N m x _ (by omega) (by omega) ?_
      rcases hx with ⟨a, b⟩ | ⟨a, b, f⟩
      · exact Or.inl ⟨a, fun i i0 i1 => by
          by_cases z : i = m
          · rw [z]
            exact g
          · exact b i (by omega) i1⟩
      · exact Or.inr ⟨⟨by omega, by omega⟩, b, fun i i0 i1 => by
          by_cases z : i = m
          · rw [z]
            exact g
          · exact f i (by omega) i1⟩
theorem l_rr_58 {P : Int → jH → Prop} {ρ : Int → Int} (hd : 14 ≤ d) (R : RFR σ ω) (U : RLO ω) (V : RV ρ 0) (N : ∀ τ : jH, (∀ c', c' ≠ 218 → τ c' = σ c') → RV (τ 218) 0 → rk (τ 218) 0 = km (fo ω) (rk ρ 0) → Ev (l, (fun _ => 0), 0) d 0 0 m_Model_readRootWord (RW P) 101 [some (vR 189), some (vR c), some (vI (-1)), some (vI (ω 2 - 1))] [] gW τ 0 0) : ∀ (m : Nat) (k : Int) (τ : jH), k + m = ρ 0 + 1 → 1 ≤ k → (∀ c', c' ≠ 218 → τ c' = σ c') → FWD (τ 218) ω ρ k →
    Ev (l, (fun _ => 0), 0) d 0 0 m_Model_readRootWord (RW P) 58 [some (vR 189), some (vR c), some (vI k), none] [] gW τ 0 0
  | 0, k, τ, hk, k1, F, H => by
    rw [show k = ρ 0 + 1 by omega] at H ⊢
    obtain ⟨v1, v2, v3⟩ := fwd_end R.1.2.2.1 V H
    have u3 := U.2.2.1
    have e190 : τ 190 = ω := by rw [F 190 (by omega)]; exact R.2.2.2.1
    have go := N τ F v1 v2
    refine jwp_sound t_Model_readRootWord _ (b_Model_readRootWord_58 ?_)
    simp only [RW, true_and, and_true, and_self, true_or, or_true, Nat.reduceLeDiff, Nat.reduceEqDiff, Nat.reduceAdd, Int.reduceLE, Int.reduceLT, Int.reduceEq, Int.reduceNeg, Int.reduceNe, Nat.reduceSub, reduceIte, implies_true, gt_189, gr_189_1, gt_190, gr_189_31, gt_218, gr_189_4, gt_193, gr_189_5, gt_194]
    rw [v3, e190, w32_of (x := ω 2 - 1) (by omega) (by omega)]
    exact ⟨fun _ => go, fun q => absurd q (by omega)⟩
  | m + 1, k, τ, hk, k1, F, H => by
    have v := V.2.2 (k - 1) (by omega) (by omega)
    rw [show 0 + 1 + (k - 1) = k by omega] at v
    have v2 := V.2.1
    have h0 : τ 218 0 = ρ 0 := by rw [H 0, if_neg (by omega)]
    have hk' : τ 218 k = ρ k := by rw [H k, if_neg (by omega)]
    have e190 : τ 190 = ω := by rw [F 190 (by omega)]; exact R.2.2.2.1
    refine jwp_sound t_Model_readRootWord _ (b_Model_readRootWord_58 ?_)
    simp only [RW, true_and, and_true, and_self, true_or, or_true, Nat.reduceLeDiff, Nat.reduceEqDiff, Nat.reduceAdd, Int.reduceLE, Int.reduceLT, Int.reduceEq, Int.reduceNeg, Int.reduceNe, Nat.reduceSub, reduceIte, implies_true, gt_189, gr_189_1, gt_190, gr_189_31, gt_218, gr_189_4, gt_193, gr_189_5, gt_194]
    rw [h0, hk', w32_of (x := k + 1) (by omega) (by omega)]
    refine ⟨fun q => absurd q (by omega), fun _ => ⟨by omega, by omega, ?_⟩⟩
    refine cN_p (c_Model_folded τ v.1 v.2) (by omega) ⟨by omega, by omega, ?_⟩
    rw [e190]
    refine l_rr_58 hd R U V N m (k + 1) _ (by omega) (by omega) (fun c' hc => by rw [ju_row hc, F c' hc]) ?_
    rw [ju_upr]
    exact fwd_s k1 H
theorem l_rr_39b {P : Int → jH → Prop} {τ : jH} (hd : 14 ≤ d) (b : τ 189 22 ≠ 0) (h : P 0 τ) : Ev (l, (fun _ => 0), 0) d 0 0 m_Model_readRootWord (RW P) 39 [some (vR 189), some (vR c), none, none] [] gW τ 0 0 := by
  refine jwp_sound t_Model_readRootWord _ (b_Model_readRootWord_39 ?_)
  simp only [RW, true_and, and_true, and_self, true_or, or_true, Nat.reduceLeDiff, Nat.reduceEqDiff, Nat.reduceAdd, Int.reduceLE, Int.reduceLT, Int.reduceEq, Int.reduceNeg, Int.reduceNe, Nat.reduceSub, reduceIte, implies_true, gt_189, gr_189_1, gt_190, gr_189_31, gt_218, gr_189_4, gt_193, gr_189_5, gt_194]
  refine cN_p (c_good τ) (by omega) ?_
  rw [if_neg b]
  exact ⟨fun x => absurd rfl x, fun _ => h⟩
theorem l_rr_26b {P : Int → jH → Prop} {τ : jH} (hd : 14 ≤ d) (b : τ 189 22 ≠ 0) (h : P 0 τ) : Ev (l, (fun _ => 0), 0) d 0 0 m_Model_readRootWord (RW P) 26 [some (vR 189), some (vR c), none, none] [] gW τ 0 0 := by
  refine jwp_sound t_Model_readRootWord _ (b_Model_readRootWord_26 ?_)
  simp only [RW, true_and, and_true, and_self, true_or, or_true, Nat.reduceLeDiff, Nat.reduceEqDiff, Nat.reduceAdd, Int.reduceLE, Int.reduceLT, Int.reduceEq, Int.reduceNeg, Int.reduceNe, Nat.reduceSub, reduceIte, implies_true, gt_189, gr_189_1, gt_190, gr_189_31, gt_218, gr_189_4, gt_193, gr_189_5, gt_194]
  refine ⟨fun _ => l_rr_39b hd b h, fun _ => ?_⟩
  exact cN_v (c_wrong_b 1 b) (by omega) (fun _ => l_rr_39b hd b h)
end BP
