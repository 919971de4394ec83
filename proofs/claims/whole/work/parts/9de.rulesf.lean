/-! RULES are read: the reference, ROOT -/
section RG
variable {l : Launch} {d : Nat} {t : Int → Int} {σ : jH} {n p : Int} {ρ : Int → Int} {ho : Bool}
def BDS (σ τ : jH) (R : RS) : Prop := FMR σ τ ∧ R.1 ≠ 0 ∧ τ 189 22 = R.1 ∧ τ 189 23 = R.2.1
theorem BDS.mrs {τ : jH} {R : RS} (B : BDS σ τ R) : MRS σ τ t n R := ⟨B.1, Or.inr B.2⟩
theorem BDS.n0 {τ : jH} {R : RS} (B : BDS σ τ R) : τ 189 22 ≠ 0 := by
  rw [B.2.2.1]
  exact B.2.1
theorem bds_wr {τ : jH} {x s : Int} (hx : x ≠ 0) (F : FMR σ τ) : BDS σ (WR τ x s) (rBD x s) := ⟨F.tr wr_fmr, hx, wr_22, wr_23⟩
theorem BDS.row {τ υ : jH} {R : RS} (B : BDS σ τ R) (h : ∀ c, c ≠ 204 → υ c = τ c) : BDS σ υ R := ⟨B.1.tr ⟨fun c _ b => h c b, fun j _ => by rw [h 189 (by omega)]⟩, B.2.1, by rw [h 189 (by omega)]; exact B.2.2.1, by rw [h 189 (by omega)]; exact B.2.2.2⟩
theorem l_mrr_100b {τ : jH} {R : RS} {b x : Int} (hd : 14 ≤ d) (B : BDS σ τ R) (hb : 0 ≤ b ∧ b < 2597) : Ev (l, (fun _ => 0), 0) d 0 0 m_Model_readRoot (RW fun _ τ => MRS σ τ t n R) 100 [some (vR 189), some (vI b), some (vI x)] [] gW τ 0 0 := by
  have B2 := B.row (υ := ju τ 204 b x) (fun c hc => ju_row hc)
  refine jwp_sound t_Model_readRoot _ (b_Model_readRoot_100 ?_)
  simp only [RW, true_and, and_true, and_self, true_or, or_true, Nat.reduceLeDiff, Nat.reduceEqDiff, Nat.reduceAdd, Int.reduceLE, Int.reduceLT, Int.reduceEq, Int.reduceNeg, Int.reduceNe, Nat.reduceSub, reduceIte, implies_true, gt_189, gr_189_24, gt_204]
  refine ⟨hb.1, hb.2, ?_⟩
  refine cN_p (c_good _) (by omega) ?_
  rw [if_neg B2.n0]
  exact ⟨fun _ => B2.mrs, fun x => absurd rfl x⟩
theorem l_mrr_82b {τ : jH} {R : RS} {b x : Int} (hd : 14 ≤ d) (B : BDS σ τ R) (hb : 0 ≤ b ∧ b < 2597) : Ev (l, (fun _ => 0), 0) d 0 0 m_Model_readRoot (RW fun _ τ => MRS σ τ t n R) 82 [some (vR 189), some (vI b), some (vI x)] [] gW τ 0 0 := by
  refine jwp_sound t_Model_readRoot _ (b_Model_readRoot_82 ?_)
  simp only [RW, true_and, and_true, and_self, true_or, or_true, Nat.reduceLeDiff, Nat.reduceEqDiff, Nat.reduceAdd, Int.reduceLE, Int.reduceLT, Int.reduceEq, Int.reduceNeg, Int.reduceNe, Nat.reduceSub, reduceIte, implies_true, gt_189, gr_189_24, gt_204]
  refine cN_p (c_good _) (by omega) ?_
  rw [if_neg B.n0]
  exact ⟨fun _ => l_mrr_100b hd B hb, fun x => absurd rfl x⟩
theorem l_mrr_59b {τ : jH} {R : RS} {b x : Int} (hd : 14 ≤ d) (B : BDS σ τ R) (hb : 0 ≤ b ∧ b < 2597) : Ev (l, (fun _ => 0), 0) d 0 0 m_Model_readRoot (RW fun _ τ => MRS σ τ t n R) 59 [some (vR 189), some (vI b), some (vI x)] [] gW τ 0 0 := by
  refine jwp_sound t_Model_readRoot _ (b_Model_readRoot_59 ?_)
  simp only [RW, true_and, and_true, and_self, true_or, or_true, Nat.reduceLeDiff, Nat.reduceEqDiff, Nat.reduceAdd, Int.reduceLE, Int.reduceLT, Int.reduceEq, Int.reduceNeg, Int.reduceNe, Nat.reduceSub, reduceIte, implies_true, gt_189, gr_189_24, gt_204]
  refine cN_p (c_good _) (by omega) ?_
  rw [if_neg B.n0]
  exact ⟨fun _ => l_mrr_82b hd B hb, fun x => absurd rfl x⟩
theorem l_mrr_34b {τ : jH} {R : RS} {b x : Int} (hd : 14 ≤ d) (B : BDS σ τ R) (hb : 0 ≤ b ∧ b < 2597) : Ev (l, (fun _ => 0), 0) d 0 0 m_Model_readRoot (RW fun _ τ => MRS σ τ t n R) 34 [some (vR 189), some (vI b), some (vI x)] [] gW τ 0 0 := by
  refine jwp_sound t_Model_readRoot _ (b_Model_readRoot_34 ?_)
  simp only [RW, true_and, and_true, and_self, true_or, or_true, Nat.reduceLeDiff, Nat.reduceEqDiff, Nat.reduceAdd, Int.reduceLE, Int.reduceLT, Int.reduceEq, Int.reduceNeg, Int.reduceNe, Nat.reduceSub, reduceIte, implies_true, gt_189, gr_189_24, gt_204]
  refine cN_p (c_good _) (by omega) ?_
  rw [if_neg B.n0]
  exact ⟨fun _ => l_mrr_59b hd B hb, fun x => absurd rfl x⟩
theorem tokc_1 {x : Int} (h : x ≤ 3 ∨ isSg x) : tokc x = 1 ↔ x = 1 := by
  unfold tokc
  unfold isSg at h
  split
  · omega
  · split <;> omega
theorem l_mrr_34 {r : Int} (hd : 14 ≤ d) (T : TP2 σ t n) (r0 : 0 ≤ r ∧ r < 20) : ∀ (k m : Nat) (p : Int) (τ : jH) (W : Int → Int), m + k = 5 → m ≤ 4 → (m = 0 ∨ tK t n p = 1) → (0 ≤ p ∧ p ≤ n) → FMR σ τ → τ 189 22 = 0 → τ 189 23 = σ 189 23 → TKR τ t n p → EQR (τ 204) W → W 2 = r → τ 189 25 = b2i ho →
    Ev (l, (fun _ => 0), 0) d 0 0 m_Model_readRoot (RW fun _ τ => MRS σ τ t n (rMem t n r ho k m p W)) 34 [some (vR 189), some (vI (477 + 106 * r)), some (vI ((m : Int) + 1))] [] gW τ 0 0
  | 0, m, p, τ, W, hk, hm, _, _, _, _, _, _, _, _, _ => by omega
  | k + 1, m, p, τ, W, hk, hm, hw, hp, F, g, g23, K, E, h2, h25 => by
    have Tτ := T.fmr F
    have p1 := tN_in (t := t) hp
    have tr := (tK_r (t := t) (n := n) (p := p)).2
    simp only [rMem]
    have K20 := K.1.2.2.2
    -- at 59, well
    have W59 : ¬ (tK t n p = 1 ∧ (m : Int) = 4) → Ev (l, (fun _ => 0), 0) d 0 0 m_Model_readRoot (RW fun _ τ => MRS σ τ t n (if tK t n p ≠ 1 then rBD 1 (tS t n p) else if (m : Int) = 4 then rBD 3 (tS t n p) else if tK t n (tN t n p) = 1 then rMem t n r ho k ((m : Int) + 1) (tN t n p) (wrd W (478 + 106 * r + 21 * ((m : Int) + 1)) t n p) else rOK (tN t n p) (up (up (wrd W (478 + 106 * r + 21 * ((m : Int) + 1)) t n p) (477 + 106 * r) ((m : Int) + 2)) 2 (r + 1)) ho)) 59 [some (vR 189), some (vI (477 + 106 * r)), some (vI ((m : Int) + 1))] [] gW τ 0 0 := fun n14 => by
      refine jwp_sound t_Model_readRoot _ (b_Model_readRoot_59 ?_)
      simp only [RW, true_and, and_true, and_self, true_or, or_true, Nat.reduceLeDiff, Nat.reduceEqDiff, Nat.reduceAdd, Int.reduceLE, Int.reduceLT, Int.reduceEq, Int.reduceNeg, Int.reduceNe, Nat.reduceSub, reduceIte, implies_true, gt_189, gr_189_24, gt_204]
      refine cN_p (c_good _) (by omega) ?_
      rw [if_pos g]
      refine ⟨fun x => absurd x (by omega), fun _ => ?_⟩
      rw [w32_of (x := 477 + 106 * r + 1) (by omega) (by omega), w32_of (x := 21 * ((m : Int) + 1)) (by omega) (by omega), w32_of (x := 477 + 106 * r + 1 + 21 * ((m : Int) + 1)) (by omega) (by omega), show 477 + 106 * r + 1 + 21 * ((m : Int) + 1) = 478 + 106 * r + 21 * ((m : Int) + 1) by omega]
      by_cases q : tK t n p = 1
      · have m3 : ¬ (m : Int) = 4 := fun x => n14 ⟨q, x⟩
        rw [if_neg (fun x => x q), if_neg m3]
        refine cN_w (c_wordTo_g gt_204 (by omega) ⟨by omega, by omega⟩ (by omega) (by omega) g Tτ K hp) (by omega) (fun _ υ h => ?_)
        rcases h with ⟨_, e, K2, F2, G2⟩ | ⟨x, _⟩
        · have FM : FMR τ υ := ⟨fun c a b => F2 c a b, fun j hj => G2 j (by omega) (by omega) (by omega) (by omega)⟩
          have g2 : υ 189 22 = 0 := by rw [G2 22 (by omega) (by omega) (by omega) (by omega)]; exact g
          have h23 : υ 189 23 = σ 189 23 := by rw [G2 23 (by omega) (by omega) (by omega) (by omega)]; exact g23
          have h25' : υ 189 25 = b2i ho := by rw [G2 25 (by omega) (by omega) (by omega) (by omega)]; exact h25
          have E2 : EQR (υ 204) (wrd W (478 + 106 * r + 21 * ((m : Int) + 1)) t n p) := by
            rw [e]
            exact E.wd
          have w2 : wrd W (478 + 106 * r + 21 * ((m : Int) + 1)) t n p 2 = r := by rw [wrd_out (by omega)]; exact h2
          generalize wrd W (478 + 106 * r + 21 * ((m : Int) + 1)) t n p = W2 at *
          have tr2 := (tK_r (t := t) (n := n) (p := tN t n p)).2
          refine jwp_sound t_Model_readRoot _ (b_Model_readRoot_82 ?_)
          simp only [RW, true_and, and_true, and_self, true_or, or_true, Nat.reduceLeDiff, Nat.reduceEqDiff, Nat.reduceAdd, Int.reduceLE, Int.reduceLT, Int.reduceEq, Int.reduceNeg, Int.reduceNe, Nat.reduceSub, reduceIte, implies_true, gt_189, gr_189_24, gt_204]
          refine cN_p (c_good _) (by omega) ?_
          rw [if_pos g2, K2.1.2.2.2, w32_of (x := (m : Int) + 1 + 1) (by omega) (by omega)]
          refine ⟨fun x => absurd x (by omega), fun _ => ⟨fun y => ?_, fun y => ?_⟩⟩
          · rw [if_pos ((tokc_1 tr2).mp y)]
            have IH := l_mrr_34 hd T r0 k (m + 1) (tN t n p) υ W2 (by omega) (by omega) (Or.inr ((tokc_1 tr2).mp y)) p1 (F.tr FM) g2 h23 K2 E2 w2 h25'
            rw [show ((m + 1 : Nat) : Int) = (m : Int) + 1 by omega] at IH
            exact IH
          · rw [if_neg (fun x => y ((tokc_1 tr2).mpr x))]
            refine jwp_sound t_Model_readRoot _ (b_Model_readRoot_100 ?_)
            simp only [RW, true_and, and_true, and_self, true_or, or_true, Nat.reduceLeDiff, Nat.reduceEqDiff, Nat.reduceAdd, Int.reduceLE, Int.reduceLT, Int.reduceEq, Int.reduceNeg, Int.reduceNe, Nat.reduceSub, reduceIte, implies_true, gt_189, gr_189_24, gt_204]
            refine ⟨by omega, by omega, ?_⟩
            refine cN_p (c_good _) (by omega) ?_
            rw [ju_row (a := 204) (c := 189) (by omega), if_pos g2]
            refine ⟨fun x => absurd x (by omega), fun _ => ?_⟩
            rw [ju_ne2 (by omega), E2 2 (by omega) (by omega) (by omega) (by omega), w2, w32_of (x := r + 1) (by omega) (by omega), show (m : Int) + 1 + 1 = (m : Int) + 2 by omega]
            have rr : ∀ c, c ≠ 204 → ju (ju υ 204 (477 + 106 * r) ((m : Int) + 2)) 204 2 (r + 1) c = υ c := fun c hc => by rw [ju_row hc, ju_row hc]
            refine ⟨F.tr (FM.tr ⟨fun c _ b => rr c b, fun j _ => by rw [rr 189 (by omega)]⟩), Or.inl ⟨rfl, by rw [rr 189 (by omega)]; exact g2, by rw [rr 189 (by omega)]; exact h23, p1, ?_, ?_, by rw [rr 189 (by omega)]; exact h25'⟩⟩
            · unfold TKR
              rw [rr 189 (by omega)]
              exact K2
            · rw [ju_upr, ju_upr]
              exact E2.upd.upd
        · exact absurd q x
      · rw [if_pos q]
        refine cN_w (c_wordTo_g gt_204 (by omega) ⟨by omega, by omega⟩ (by omega) (by omega) g Tτ K hp) (by omega) (fun _ υ h => ?_)
        rcases h with ⟨x, _⟩ | ⟨_, rfl⟩
        · exact absurd x q
        · exact l_mrr_82b hd (bds_wr (by omega) F) (by omega)
    refine jwp_sound t_Model_readRoot _ (b_Model_readRoot_34 ?_)
    simp only [RW, true_and, and_true, and_self, true_or, or_true, Nat.reduceLeDiff, Nat.reduceEqDiff, Nat.reduceAdd, Int.reduceLE, Int.reduceLT, Int.reduceEq, Int.reduceNeg, Int.reduceNe, Nat.reduceSub, reduceIte, implies_true, gt_189, gr_189_24, gt_204]
    refine cN_p (c_good _) (by omega) ?_
    rw [if_pos g, K20]
    refine ⟨fun x => absurd x (by omega), fun _ => ⟨fun y => W59 (fun z => y ((tokc_1 tr).mpr z.1)), fun y => ⟨fun z => W59 (fun z' => z (by omega)), fun z => ?_⟩⟩⟩
    have y1 := (tokc_1 tr).mp y
    rw [if_neg (fun x => x y1), if_pos (by omega)]
    refine cN_v (c_wrong_g 3 g K) (by omega) (fun _ => ?_)
    exact l_mrr_59b hd (bds_wr (by omega) F) (by omega)
theorem c_mreadRoot (g : σ 189 22 = 0) (T : TP2 σ t n) (K : TKR σ t n p) (hp : 0 ≤ p ∧ p ≤ n) (E : EQR (σ 204) ρ) (h25 : σ 189 25 = b2i ho) (h2 : 0 ≤ ρ 2 ∧ ρ 2 < 20) : Cw 14 m_Model_readRoot [vR 189] σ (fun _ τ => MRS σ τ t n (rRoot t n p ρ ho)) := by
  have p2 := tN_in (t := t) hp
  have p3 := tN_in (t := t) p2
  refine Cw_of o_Model_readRoot rfl fun l d hd => jwp_sound t_Model_readRoot _ (b_Model_readRoot_0 ?_)
  simp only [RW, true_and, and_true, and_self, true_or, or_true, Nat.reduceLeDiff, Nat.reduceEqDiff, Nat.reduceAdd, Int.reduceLE, Int.reduceLT, Int.reduceEq, Int.reduceNeg, Int.reduceNe, Nat.reduceSub, reduceIte, implies_true, gt_189, gr_189_24, gt_204]
  rw [E 2 (by omega) (by omega) (by omega) (by omega), w32_of (x := 106 * ρ 2) (by omega) (by omega), w32_of (x := 477 + 106 * ρ 2) (by omega) (by omega), w32_of (x := 477 + 106 * ρ 2 + 1) (by omega) (by omega), show 477 + 106 * ρ 2 + 1 = 478 + 106 * ρ 2 by omega]
  refine cN_w (c_wordTo_g gt_204 (by omega) ⟨by omega, by omega⟩ (by omega) (by omega) g T K hp) (by omega) (fun _ υ h => ?_)
  unfold rRoot
  rcases h with ⟨q, e, K2, F2, G2⟩ | ⟨q, rfl⟩
  · rw [if_neg (fun x => x q)]
    have FM : FMR σ υ := ⟨fun c a b => F2 c a b, fun j hj => G2 j (by omega) (by omega) (by omega) (by omega)⟩
    have g2 : υ 189 22 = 0 := by rw [G2 22 (by omega) (by omega) (by omega) (by omega)]; exact g
    have h23 : υ 189 23 = σ 189 23 := G2 23 (by omega) (by omega) (by omega) (by omega)
    have h25' : υ 189 25 = b2i ho := by rw [G2 25 (by omega) (by omega) (by omega) (by omega)]; exact h25
    have E2 : EQR (υ 204) (wrd ρ (478 + 106 * ρ 2) t n p) := by
      rw [e]
      exact E.wd
    have T2 := T.fmr FM
    have w2 : wrd ρ (478 + 106 * ρ 2) t n p 2 = ρ 2 := wrd_out (by omega)
    refine cN_w (c_needs_g (w := 4) (by decide) g2 T2 K2 p2) (by omega) (fun _ τ3 h3 => ?_)
    rcases h3 with ⟨a3, F3, K3⟩ | ⟨a3, rfl⟩
    · rw [a3, if_neg (by decide)]
      have go := l_mrr_34 (l := l) (σ := σ) (ho := ho) hd T h2 5 0 _ τ3 (wrd ρ (478 + 106 * ρ 2) t n p) rfl (by omega) (Or.inl rfl) p3 (FM.tr F3.fmr) (by rw [F3.2 22 (by omega) (by omega) (by omega) (by omega)]; exact g2) (by rw [F3.2 23 (by omega) (by omega) (by omega) (by omega)]; exact h23) K3 (by rw [F3.1 204 (by omega)]; exact E2) w2 (by rw [F3.2 25 (by omega) (by omega) (by omega) (by omega)]; exact h25')
      exact go
    · rw [a3, if_pos rfl]
      exact l_mrr_34b hd (bds_wr (by omega) FM) (by omega)
  · rw [if_pos q]
    have b : WR σ 1 (tS t n p) 189 22 ≠ 0 := by rw [wr_22]; omega
    refine cN_v (c_needs_b (w := 4) (by decide) b) (by omega) (fun _ => ?_)
    exact l_mrr_34b hd (bds_wr (by omega) ⟨fun _ _ _ => rfl, fun _ _ => rfl⟩) (by omega)
end RG
