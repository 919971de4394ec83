/-! ASKS: the reference's form told -/
section BH
variable {l : Launch} {d : Nat} {ω t : Int → Int} {σ : jH} {e n p : Int}
/-- a row folded up to k -/
def FWD (f ω ρ : Int → Int) (k : Int) : Prop := ∀ j, f j = if 1 ≤ j ∧ j < k then fo ω (ρ j) else ρ j
theorem fwd_end {f ρ : Int → Int} (hφ : okρ (fo ω)) (V : RV ρ 0) (h : FWD f ω ρ (ρ 0 + 1)) : RV f 0 ∧ rk f 0 = km (fo ω) (rk ρ 0) ∧ f 0 = ρ 0 := by
  have h0 : f 0 = ρ 0 := by rw [h 0, if_neg (by omega)]
  have hj : ∀ j, 0 ≤ j → j < ρ 0 → f (0 + 1 + j) = fo ω (ρ (0 + 1 + j)) := fun j a b => by rw [h _, if_pos (by omega)]
  refine ⟨⟨by rw [h0]; exact V.1, by rw [h0]; exact V.2.1, fun j a b => ?_⟩, ?_, h0⟩
  · rw [h0] at b
    rw [hj j a b]
    have := V.2.2 j a b
    exact hφ _ this.1 this.2
  · rw [km_rk V]
    unfold rk
    apply rh_eq
    intro j j0 _
    by_cases q : j < ρ 0
    · rw [mg_in V j0 q]
      unfold dgr
      rw [if_pos (by rw [h0]; exact q), hj j j0 q]
    · rw [mg_out (by omega)]
      unfold dgr
      rw [if_neg (by rw [h0]; exact q)]
theorem fwd_s {f ρ : Int → Int} {k : Int} (k1 : 1 ≤ k) (h : FWD f ω ρ k) : FWD (up f k (fo ω (ρ k))) ω ρ (k + 1) := fun j => by
  unfold up
  by_cases q : j = k
  · rw [if_pos q, q, if_pos (by omega)]
  · rw [if_neg q, h j]
    by_cases g : 1 ≤ j ∧ j < k
    · rw [if_pos g, if_pos (by omega)]
    · rw [if_neg g, if_neg (by omega)]
theorem l_fh_33 {ρ : Int → Int} (hd : 13 ≤ d) (R : RFR σ ω) (hal : ALP σ) (V : RV ρ 0) : ∀ (m : Nat) (k : Int) (τ : jH), k + m = ρ 0 + 1 → 1 ≤ k → (∀ c, c ≠ 218 → τ c = σ c) → FWD (τ 218) ω ρ k →
    Ev (l, (fun _ => 0), 0) d 0 0 m_Model_formHere (RW fun z τ => IXF ω (km (fo ω) (rk ρ 0)) z ∧ ∀ c, c ≠ 218 → τ c = σ c) 33 [some (vR 189), some (vI k)] [] gW τ 0 0
  | 0, k, τ, hk, k1, F, H => by
    have hφ := R.1.2.2.1
    rw [show k = ρ 0 + 1 by omega] at H ⊢
    obtain ⟨v1, v2, v3⟩ := fwd_end hφ V H
    have R' := R.of (τ := τ) (fun c h => F c (by omega))
    refine jwp_sound t_Model_formHere _ (b_Model_formHere_33 ?_)
    simp only [RW, true_and, and_true, and_self, true_or, or_true, Nat.reduceLeDiff, Nat.reduceEqDiff, Nat.reduceAdd, Int.reduceLE, Int.reduceLT, Int.reduceEq, Int.reduceNeg, Int.reduceNe, Nat.reduceSub, reduceIte, implies_true, gt_189, gr_189_31, gt_218]
    rw [v3]
    refine ⟨fun _ => ?_, fun q => absurd q (by omega)⟩
    refine cN_w (c_Model_find (X := 218) τ (fun x a b => by rw [F 200 (by omega)]; exact hal x a b) gt_218 v1 (by omega) (by omega) (by omega) R'.FRM) (by omega) (fun z υ hz => ?_)
    obtain ⟨hz, rfl⟩ := hz
    rw [v2] at hz
    exact ⟨R'.IX hz, F⟩
  | m + 1, k, τ, hk, k1, F, H => by
    have v := V.2.2 (k - 1) (by omega) (by omega)
    rw [show 0 + 1 + (k - 1) = k by omega] at v
    have v2 := V.2.1
    have h0 : τ 218 0 = ρ 0 := by rw [H 0, if_neg (by omega)]
    have hk' : τ 218 k = ρ k := by rw [H k, if_neg (by omega)]
    have e190 : τ 190 = ω := by rw [F 190 (by omega)]; exact R.2.2.2.1
    refine jwp_sound t_Model_formHere _ (b_Model_formHere_33 ?_)
    simp only [RW, true_and, and_true, and_self, true_or, or_true, Nat.reduceLeDiff, Nat.reduceEqDiff, Nat.reduceAdd, Int.reduceLE, Int.reduceLT, Int.reduceEq, Int.reduceNeg, Int.reduceNe, Nat.reduceSub, reduceIte, implies_true, gt_189, gr_189_31, gt_218]
    rw [h0, hk', w32_of (x := k + 1) (by omega) (by omega)]
    refine ⟨fun q => absurd q (by omega), fun _ => ⟨by omega, by omega, ?_⟩⟩
    refine cN_p (c_Model_folded τ v.1 v.2) (by omega) ⟨by omega, by omega, ?_⟩
    rw [e190]
    refine l_fh_33 hd R hal V m (k + 1) _ (by omega) (by omega) (fun c hc => by rw [ju_row hc, F c hc]) ?_
    rw [ju_upr]
    exact fwd_s k1 H
/-- the form told here -/
def FHP (σ τ : jH) (ω t : Int → Int) (n p z : Int) : Prop := IXF ω (kP ω t n p) z ∧ (∀ c, c ≠ 189 → c ≠ 218 → τ c = σ c) ∧ TKR τ t n (tN t n p) ∧ ∀ j, j ≠ 18 → j ≠ 19 → j ≠ 20 → j ≠ 21 → τ 189 j = σ 189 j
theorem c_formHere_g (R : RFR σ ω) (hal : ALP σ) (g : σ 189 22 = 0) (T : TP2 σ t n) (K : TKR σ t n p) (hp : 0 ≤ p ∧ p ≤ n) (q : tK t n p = 1) : Cw 13 m_Model_formHere [vR 189] σ (fun z τ => FHP σ τ ω t n p z) := by
  have tr := (tK_r (t := t) (n := n) (p := p)).2
  have w := wrd_at (ρ := σ 218) (A := 0) hp q
  refine Cw_of o_Model_formHere rfl fun l d hd => jwp_sound t_Model_formHere _ (b_Model_formHere_0 ?_)
  simp only [RW, true_and, and_true, and_self, true_or, or_true, Nat.reduceLeDiff, Nat.reduceEqDiff, Nat.reduceAdd, Int.reduceLE, Int.reduceLT, Int.reduceEq, Int.reduceNeg, Int.reduceNe, Nat.reduceSub, reduceIte, implies_true, gt_189, gr_189_31, gt_218]
  rw [K.1.2.2.2]
  refine ⟨fun _ => ?_, fun x => absurd ((tokc_1 tr).mpr q) x⟩
  refine jwp_sound t_Model_formHere _ (b_Model_formHere_13 ?_)
  simp only [RW, true_and, and_true, and_self, true_or, or_true, Nat.reduceLeDiff, Nat.reduceEqDiff, Nat.reduceAdd, Int.reduceLE, Int.reduceLT, Int.reduceEq, Int.reduceNeg, Int.reduceNe, Nat.reduceSub, reduceIte, implies_true, gt_189, gr_189_31, gt_218]
  refine cN_p (c_good σ) (by omega) ?_
  rw [if_pos g]
  refine ⟨fun _ => ?_, fun x => absurd x (by omega)⟩
  refine cN_w (c_wordTo_g (X := 218) (k := 0) gt_218 (by omega) ⟨by omega, by omega⟩ (by omega) (by omega) g T K hp) (by omega) (fun _ τ h => ?_)
  rcases h with ⟨_, ew, K2, F2, G2⟩ | ⟨x, _⟩
  · have R2 : RFR τ ω := R.of2 (fun c a b => F2 c (by omega) (by omega)) (G2 10 (by omega) (by omega) (by omega) (by omega))
    have hal2 : ALP τ := fun x a b => by
      rw [F2 200 (by omega) (by omega)]
      exact hal x a b
    have w1 := w.1.1
    have go := l_fh_33 (l := l) (σ := τ) (ρ := wrd (σ 218) 0 t n p) hd R2 hal2 w.1 (wrd (σ 218) 0 t n p 0).toNat 1 τ (by omega) (by omega) (fun _ _ => rfl) (fun j => by rw [if_neg (by omega), ew])
    refine Ev_post go (fun z υ h => ⟨?_, fun c a b => by rw [h.2 c b, F2 c a b], ?_, fun j a b f g' => by rw [h.2 189 (by omega), G2 j a b f g']⟩)
    · have := h.1
      rw [w.2.1] at this
      exact this
    · unfold TKR
      rw [h.2 189 (by omega)]
      exact K2
  · exact absurd q x
end BH
