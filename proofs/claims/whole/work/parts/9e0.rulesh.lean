/-! RULES are read: the reference, a rule -/
section RI2
variable {l : Launch} {d : Nat} {t : Int → Int} {σ : jH} {n p : Int} {ρ : Int → Int} {ho : Bool}
theorem n_sem {τ : jH} {R : RS} {Q : Int → jH → Prop} (hd : 12 < d) (T : TP2 σ t n) (M : MRS σ τ t n R) (h : ∀ z υ, MRS σ υ t n (rSem t n R) → Q z υ) : cN l d m_Model_needsSign [vR 189, vI 59] gW τ (fun z υ => Q z υ) := by
  obtain ⟨F, M⟩ := M
  unfold rSem at h
  rcases M with ⟨r0, g, g23, hp, K, E, h25⟩ | ⟨r0, g, g23⟩
  · rw [if_neg (fun x => x r0)] at h
    refine cN_w (c_needsSign_g (c := 59) (by omega) g (T.fmr F) K hp) (by omega) (fun z υ hh => ?_)
    refine h z υ ?_
    rcases hh with ⟨a, F2, K2⟩ | ⟨a, rfl⟩
    · rw [if_pos a]
      exact ⟨F.tr F2.fmr, Or.inl ⟨rfl, by rw [F2.2 22 (by omega) (by omega) (by omega) (by omega)]; exact g, by rw [F2.2 23 (by omega) (by omega) (by omega) (by omega)]; exact g23, tN_in hp, K2, by rw [F2.1 204 (by omega)]; exact E, by rw [F2.2 25 (by omega) (by omega) (by omega) (by omega)]; exact h25⟩⟩
    · rw [if_neg a]
      exact (bds_wr (by omega) F).mrs
  · rw [if_pos r0] at h
    refine cN_w (c_needsSign_b 59 (by rw [g]; exact r0)) (by omega) (fun z υ hh => ?_)
    refine h z υ ?_
    subst hh
    exact ⟨F, Or.inr ⟨r0, g, g23⟩⟩
theorem l_mru_99b {τ : jH} {R : RS} (hd : 15 ≤ d) (B : BDS σ τ R) : Ev (l, (fun _ => 0), 0) d 0 0 m_Model_readRule (RW fun _ τ => MRS σ τ t n R) 99 [some (vR 189), none] [] gW τ 0 0 := by
  refine jwp_sound t_Model_readRule _ (b_Model_readRule_99 ?_)
  simp only [RW, true_and, and_true, and_self, true_or, or_true, Nat.reduceLeDiff, Nat.reduceEqDiff, Nat.reduceAdd, Int.reduceLE, Int.reduceLT, Int.reduceEq, Int.reduceNeg, Int.reduceNe, Nat.reduceSub, reduceIte, implies_true, gt_189, gr_189_24, gt_204]
  refine cN_p (c_good _) (by omega) ?_
  rw [if_neg B.n0]
  exact ⟨fun x => absurd rfl x, fun _ => B.mrs⟩
theorem l_mru_99 (hd : 15 ≤ d) (g : σ 189 22 = 0) (T : TP2 σ t n) (K : TKR σ t n p) (hp : 0 ≤ p ∧ p ≤ n) (E : EQR (σ 204) ρ) (h25 : σ 189 25 = b2i ho) (h0 : 0 ≤ ρ 0 ∧ ρ 0 < 20) (h1 : 0 ≤ ρ 1 ∧ ρ 1 < 20) (h2 : 0 ≤ ρ 2 ∧ ρ 2 < 20) (w : rWh t n p ≠ 4) :
    Ev (l, (fun _ => 0), 0) d 0 0 m_Model_readRule (RW fun _ τ => MRS σ τ t n (rSem t n (rInn t n p (up ρ 0 (ρ 0 + 1)) ho))) 99 [some (vR 189), none] [] gW σ 0 0 := by
  have p1 := tN_in (t := t) hp
  have p2 := tN_in (t := t) p1
  refine jwp_sound t_Model_readRule _ (b_Model_readRule_99 ?_)
  simp only [RW, true_and, and_true, and_self, true_or, or_true, Nat.reduceLeDiff, Nat.reduceEqDiff, Nat.reduceAdd, Int.reduceLE, Int.reduceLT, Int.reduceEq, Int.reduceNeg, Int.reduceNe, Nat.reduceSub, reduceIte, implies_true, gt_189, gr_189_24, gt_204]
  refine cN_p (c_good _) (by omega) ?_
  rw [if_pos g, E 0 (by omega) (by omega) (by omega) (by omega), w32_of (x := ρ 0 + 1) (by omega) (by omega)]
  refine ⟨fun _ => ?_, fun x => absurd x (by omega)⟩
  generalize hχ : ju σ 204 0 (ρ 0 + 1) = χ
  have r : ∀ c, c ≠ 204 → χ c = σ c := fun c hc => by rw [← hχ, ju_row hc]
  have Fχ : FMR σ χ := ⟨fun c _ b => r c b, fun j _ => by rw [r 189 (by omega)]⟩
  have Tχ := T.fmr Fχ
  have gχ : χ 189 22 = 0 := by rw [r 189 (by omega)]; exact g
  have Kχ : TKR χ t n p := by
    unfold TKR
    rw [r 189 (by omega)]
    exact K
  have Eχ : EQR (χ 204) (up ρ 0 (ρ 0 + 1)) := by
    rw [← hχ, ju_upr]
    exact E.upd
  have hχ25 : χ 189 25 = b2i ho := by rw [r 189 (by omega)]; exact h25
  have u1 : up ρ 0 (ρ 0 + 1) 1 = ρ 1 := up_ne (by omega)
  have u2 : up ρ 0 (ρ 0 + 1) 2 = ρ 2 := up_ne (by omega)
  have χ23 : χ 189 23 = σ 189 23 := by rw [r 189 (by omega)]
  generalize up ρ 0 (ρ 0 + 1) = W at *
  -- a token on
  have on : ∀ {τ : jH}, TKN χ τ t n (tN t n p) → FMR σ τ ∧ TP2 τ t n ∧ TKR τ t n (tN t n p) ∧ τ 189 22 = 0 ∧ τ 189 23 = σ 189 23 ∧ EQR (τ 204) W ∧ τ 189 25 = b2i ho := fun {τ} h => by
    obtain ⟨F2, K2⟩ := h
    exact ⟨Fχ.tr F2.fmr, Tχ.of F2, K2, by rw [F2.2 22 (by omega) (by omega) (by omega) (by omega)]; exact gχ, by rw [F2.2 23 (by omega) (by omega) (by omega) (by omega)]; exact χ23, by rw [F2.1 204 (by omega)]; exact Eχ, by rw [F2.2 25 (by omega) (by omega) (by omega) (by omega)]; exact hχ25⟩
  refine cN_w (c_takes_g (w := 0) (by decide) gχ Tχ Kχ hp) (by omega) (fun z τ h => ?_)
  unfold rInn
  rcases h with ⟨b0, rfl, h⟩ | ⟨b0, rfl, rfl⟩
  · obtain ⟨F2, T2, K2, g2, g23, E2, h25'⟩ := on h
    have wh : rWh t n p = 0 := by
      unfold rWh
      rw [b0, if_pos rfl]
    rw [wh, if_pos rfl]
    refine ⟨fun x => absurd x (by omega), fun _ => ?_⟩
    refine cN_w (c_mreadFold g2 T2 K2 p1 E2 h25') (by omega) (fun _ υ M => ?_)
    exact n_sem (by omega) T (MRS.pre F2 g23 M) (fun _ _ h => h)
  · refine ⟨fun _ => ?_, fun x => absurd rfl x⟩
    refine cN_w (c_takes_g (w := 3) (by decide) gχ Tχ Kχ hp) (by omega) (fun z τ h => ?_)
    rcases h with ⟨b2, rfl, h⟩ | ⟨b2, rfl, rfl⟩
    · obtain ⟨F2, T2, K2, g2, g23, E2, h25'⟩ := on h
      have b1 : tI t n p (jtb 2) = false := tI_ne0 b2 0 (by decide) (by decide) (by decide)
      have wh : rWh t n p = 2 := by
        unfold rWh
        rw [b0, b1, b2]
        rfl
      rw [wh, if_neg (by omega), if_neg (by omega), if_pos rfl]
      refine ⟨fun x => absurd x (by omega), fun _ => ?_⟩
      refine cN_w (c_mreadRoot g2 T2 K2 p1 E2 h25' (by omega)) (by omega) (fun _ υ M => ?_)
      exact n_sem (by omega) T (MRS.pre F2 g23 M) (fun _ _ h => h)
    · refine ⟨fun _ => ?_, fun x => absurd rfl x⟩
      refine cN_w (c_takes_g (w := 5) (by decide) gχ Tχ Kχ hp) (by omega) (fun z τ h => ?_)
      rcases h with ⟨b3, rfl, h⟩ | ⟨b3, rfl, rfl⟩
      · obtain ⟨F2, T2, K2, g2, g23, E2, h25'⟩ := on h
        have b1 : tI t n p (jtb 2) = false := tI_ne b3 (by decide)
        have wh : rWh t n p = 3 := by
          unfold rWh
          rw [b0, b1, b2, b3]
          rfl
        rw [wh, if_neg (by omega), if_neg (by omega), if_neg (by omega)]
        refine ⟨fun x => absurd x (by omega), fun _ => ?_⟩
        refine cN_w (c_mreadOrder g2 T2 K2 p1 E2) (by omega) (fun _ υ M => ?_)
        exact n_sem (by omega) T (MRS.pre F2 g23 M) (fun _ _ h => h)
      · have b1 : tI t n p (jtb 2) = true := by
          cases q : tI t n p (jtb 2) with
          | true => rfl
          | false =>
            exfalso
            apply w
            unfold rWh
            rw [b0, q, b2, b3]
            rfl
        have wh : rWh t n p = 1 := by
          unfold rWh
          rw [b0, b1]
          rfl
        rw [wh, if_neg (by omega), if_pos rfl]
        refine ⟨fun _ => ?_, fun x => absurd rfl x⟩
        refine cN_w (c_step Tχ Kχ hp) (by omega) (fun _ τ h => ?_)
        obtain ⟨F2, T2, K2, g2, g23, E2, h25'⟩ := on h
        rw [E2 1 (by omega) (by omega) (by omega) (by omega), u1, w32_of (x := 21 * ρ 1) (by omega) (by omega), w32_of (x := 57 + 21 * ρ 1) (by omega) (by omega)]
        refine cN_w (c_wordTo_g gt_204 (by omega) ⟨by omega, by omega⟩ (by omega) (by omega) g2 T2 K2 p1) (by omega) (fun _ υ h => ?_)
        have MS : ∀ υ', MRS σ υ' t n (rStop t n (tN t n p) W ho) → cN l d m_Model_needsSign [vR 189, vI 59] gW υ' (fun _ υ => MRS σ υ t n (rSem t n (rStop t n (tN t n p) W ho))) := fun υ' M => n_sem (by omega) T M (fun _ _ h => h)
        have e : rStop t n (tN t n p) W ho = if tK t n (tN t n p) ≠ 1 then rBD 1 (tS t n (tN t n p)) else rOK (tN t n (tN t n p)) (up (wrd W (57 + 21 * W 1) t n (tN t n p)) 1 (W 1 + 1)) ho := rfl
        rw [u1] at e
        rcases h with ⟨q, ew, K3, F3, G3⟩ | ⟨q, rfl⟩
        · rw [if_neg (fun x => x q)] at e
          have g3 : υ 189 22 = 0 := by rw [G3 22 (by omega) (by omega) (by omega) (by omega)]; exact g2
          refine cN_p (c_good _) (by omega) ?_
          rw [if_pos g3]
          refine ⟨fun x => absurd x (by omega), fun _ => ?_⟩
          refine MS _ ?_
          rw [e]
          have E3 : EQR (υ 204) (wrd W (57 + 21 * ρ 1) t n (tN t n p)) := by
            rw [ew]
            exact E2.wd
          have e31 : υ 204 1 = ρ 1 := by rw [E3 1 (by omega) (by omega) (by omega) (by omega), wrd_out (by omega), u1]
          rw [e31, w32_of (x := ρ 1 + 1) (by omega) (by omega)]
          have rr : ∀ c, c ≠ 204 → ju υ 204 1 (ρ 1 + 1) c = υ c := fun c hc => ju_row hc
          refine ⟨F2.tr ⟨fun c a b => by rw [rr c b, F3 c a b], fun j hj => by rw [rr 189 (by omega), G3 j (by omega) (by omega) (by omega) (by omega)]⟩, Or.inl ⟨rfl, by rw [rr 189 (by omega)]; exact g3, ?_, p2, ?_, ?_, ?_⟩⟩
          · rw [rr 189 (by omega), G3 23 (by omega) (by omega) (by omega) (by omega)]
            exact g23
          · unfold TKR
            rw [rr 189 (by omega)]
            exact K3
          · rw [ju_upr]
            exact E3.upd
          · rw [rr 189 (by omega), G3 25 (by omega) (by omega) (by omega) (by omega)]
            exact h25'
        · rw [if_pos q] at e
          have b : WR τ 1 (tS t n (tN t n p)) 189 22 ≠ 0 := by rw [wr_22]; omega
          refine cN_p (c_good _) (by omega) ?_
          rw [if_neg b]
          refine ⟨fun _ => ?_, fun x => absurd rfl x⟩
          refine MS _ ?_
          rw [e]
          exact (bds_wr (by omega) F2).mrs
end RI2
