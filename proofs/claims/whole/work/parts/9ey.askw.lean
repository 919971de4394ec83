/-! ASKS: the reference's call -/
def RAK (σ τ : jH) (ω t : Int → Int) (e n z : Int) : Prop := (¬ (0 ≤ e ∧ e ≤ 1) ∧ z = -2 ∧ τ = σ) ∨ ((0 ≤ e ∧ e ≤ 1) ∧ (∀ c', c' ≠ 189 → c' ≠ 201 → (c' < 208 ∨ 219 < c') → τ c' = σ c') ∧ (τ 189 15 = 0 ∧ ∀ j, (j < 15 ∨ (23 < j ∧ j ≠ 29 ∧ j ≠ 30 ∧ j ≠ 33)) → τ 189 j = σ 189 j) ∧ (((aQ ω t e n).1 = 0 ∧ z = aN0 ω e (aQ ω t e n).2.2.2.2 ∧ ANR τ (aN0 ω e (aQ ω t e n).2.2.2.2) (anF (wW ω e).1 (aQ ω t e n).2.2.2.2) (fun i => (wW ω e).2.2.1 (anF (wW ω e).1 (aQ ω t e n).2.2.2.2 i)) (fun i => anO ω e (anF (wW ω e).1 (aQ ω t e n).2.2.2.2 i)) ∧ τ 189 22 = 0 ∧ τ 189 23 = -1) ∨ ((aQ ω t e n).1 ≠ 0 ∧ z = -4 ∧ (τ 189 33 = σ 189 33 ∧ τ 219 = σ 219) ∧ τ 189 22 = (aQ ω t e n).1 ∧ τ 189 23 = (aQ ω t e n).2.1)))
section BT
variable {l : Launch} {d : Nat} {ω t : Int → Int} {σ : jH} {e n p c : Int}
/-- what aA says where nothing of the ask's own follows is what aB says -/
theorem aQ_B : aQ ω t e n = if (aB ω t e n 31 0 0 0).1 ≠ 0 then aB ω t e n 31 0 0 0 else if tK t n (aB ω t e n 31 0 0 0).2.2.1 = 0 then aB ω t e n 31 0 0 0 else aBD 1 (tS t n (aB ω t e n 31 0 0 0).2.2.1) := by
  unfold aQ aA aB
  generalize aX ω t e n 31 false 0 0 0 (fun _ => false) = R
  by_cases a : R.1 ≠ 0
  · rw [if_pos a, if_pos a, if_pos a, if_pos a]
  · rw [if_neg a, if_neg a]
    generalize aX ω t e n 31 true 0 R.2.2.1 R.2.2.2.1 R.2.2.2.2 = M
    by_cases b : M.1 ≠ 0
    · rw [show aF t n M = M from by unfold aF; rw [if_pos b]]
    · by_cases f : tK t n M.2.2.1 = 0 ∨ tK t n M.2.2.1 = 41
      · rw [show aF t n M = M from by unfold aF; rw [if_neg b, if_pos f]]
      · rw [show aF t n M = aBD 1 (tS t n M.2.2.1) from by unfold aF; rw [if_neg b, if_neg f], if_pos (show (aBD 1 (tS t n M.2.2.1)).1 ≠ 0 from by show (1 : Int) ≠ 0; omega), if_neg b, if_neg (fun x => f (Or.inl x))]
theorem l_mk_66 {S : Int → Bool} (hd : 61 ≤ d) (R : RFR σ ω) (he : 0 ≤ e ∧ e ≤ 1) (V : SET σ 208 (wW ω e).1 S) : ∀ (k i : Nat) (τ : jH), (i : Int) + k = (wW ω e).1 → (∀ c', c' ≠ 189 → c' ≠ 219 → τ c' = σ c') → (∀ j, j ≠ 33 → τ 189 j = σ 189 j) → τ 189 33 = cq (sI S) i 1 → (∀ q : Int, 0 ≤ q → q < i → S q = true → τ 219 (3 * cq (sI S) q.toNat 1) = q ∧ τ 219 (3 * cq (sI S) q.toNat 1 + 1) = (wW ω e).2.2.1 q ∧ τ 219 (3 * cq (sI S) q.toNat 1 + 2) = anO ω e q) →
    Ev (l, (fun _ => 0), 0) d 0 0 m_Model_ask (RW fun z τ => (∀ c', c' ≠ 189 → c' ≠ 219 → τ c' = σ c') ∧ (∀ j, j ≠ 33 → τ 189 j = σ 189 j) ∧ z = aN0 ω e S ∧ ANR τ (aN0 ω e S) (anF (wW ω e).1 S) (fun i => (wW ω e).2.2.1 (anF (wW ω e).1 S i)) (fun i => anO ω e (anF (wW ω e).1 S i))) 66 [some (vR 189), some (vI e), some (vI i)] [] gW τ 0 0
  | 0, i, τ, hi, F, F2, C, Q => by
    have w := R.W he
    have ei : (wW ω e).1.toNat = i := by omega
    refine jwp_sound t_Model_ask _ (b_Model_ask_66 ?_)
    simp only [RW, true_and, and_true, and_self, true_or, or_true, Nat.reduceLeDiff, Nat.reduceEqDiff, Nat.reduceAdd, Int.reduceLE, Int.reduceLT, Int.reduceEq, Int.reduceNeg, Int.reduceNe, Nat.reduceSub, reduceIte, implies_true, gt_189, gr_189_28, gt_207, gr_189_32, gt_219, gr_189_4, gt_193, gr_189_6, gt_195, gr_207_0, gt_208]
    rw [F 193 (by omega) (by omega), w.1]
    refine ⟨by omega, by omega, fun _ => ⟨F, F2, ?_, ?_⟩, fun x => absurd x (by omega)⟩
    · unfold aN0
      rw [ei]
      exact C
    · have r := cq_r (sI S) 1 (wW ω e).1.toNat
      unfold aN0
      refine ⟨by rw [ei]; exact C, ⟨r.1, by omega⟩, fun j a b => ?_⟩
      have y := fnd_yes (w := sI S) (f := 1) (n := (wW ω e).1.toNat) a b
      rcases fnd_r (w := sI S) (f := 1) (i := j) (wW ω e).1.toNat with r0 | ⟨r1, r2, r3, r4⟩
      · omega
      · have q := Q _ r1 (by omega) (sI_1.mp r3)
        rw [r4] at q
        exact q
  | k + 1, i, τ, hi, F, F2, C, Q => by
    have w := R.W he
    have r := cq_r (sI S) 1 i
    have cs : cq (sI S) (i + 1) 1 = cq (sI S) i 1 + (if S i = true then 1 else 0) := by
      have := cq_s (w := sI S) (p := (i : Int)) (by omega) 1
      rw [show ((i : Int) + 1).toNat = i + 1 by omega, show ((i : Int)).toNat = i by omega] at this
      rw [this]
      by_cases g : S i = true
      · rw [if_pos g, if_pos (sI_1.mpr g)]
      · rw [if_neg g, if_neg (fun x => g (sI_1.mp x))]
    have s0 := set_0 V (q := i) (by omega) (by omega)
    have i340 : (i : Int) < 340 := by omega
    have IH := l_mk_66 hd R he V k (i + 1)
    rw [show ((i + 1 : Nat) : Int) = (i : Int) + 1 by omega, cs] at IH
    refine jwp_sound t_Model_ask _ (b_Model_ask_66 ?_)
    simp only [RW, true_and, and_true, and_self, true_or, or_true, Nat.reduceLeDiff, Nat.reduceEqDiff, Nat.reduceAdd, Int.reduceLE, Int.reduceLT, Int.reduceEq, Int.reduceNeg, Int.reduceNe, Nat.reduceSub, reduceIte, implies_true, gt_189, gr_189_28, gt_207, gr_189_32, gt_219, gr_189_4, gt_193, gr_189_6, gt_195, gr_207_0, gt_208]
    rw [F 193 (by omega) (by omega), w.1, F 208 (by omega) (by omega), w32_of (x := (i : Int) + 1) (by omega) (by omega)]
    refine ⟨by omega, by omega, fun x => absurd x (by omega), fun _ => ⟨by omega, by omega, fun y => ?_, fun y => ?_⟩⟩
    · have yb : S i = true := by
        cases g : S i with
        | true => rfl
        | false => exact absurd (s0.mpr g) y
      have e1 : ∀ (υ : jH) (x v : Int), ju υ 219 x v 189 = υ 189 := fun υ x v => ju_row (by omega)
      have e2 : ∀ (υ : jH) (x v : Int), ju υ 219 x v 195 = υ 195 := fun υ x v => ju_row (by omega)
      simp only [e1, e2]
      rw [C]
      have ln : σ 195 (340 * e + (i : Int)) = (wW ω e).2.2.1 i := ((R.2.2.2.2.2.1 e he.1 he.2).2 i (by omega) (by omega)).1
      rw [w32_of (x := 3 * cq (sI S) i 1) (by omega) (by omega), w32_of (x := 340 * e) (by omega) (by omega), w32_of (x := 340 * e + (i : Int)) (by omega) (by omega), w32_of (x := 3 * cq (sI S) i 1 + 1) (by omega) (by omega), w32_of (x := 3 * cq (sI S) i 1 + 2) (by omega) (by omega), F 195 (by omega) (by omega), ln]
      refine ⟨by omega, by omega, by omega, by omega, by omega, by omega, ?_⟩
      generalize hχ : ju (ju τ 219 (3 * cq (sI S) i 1) (i : Int)) 219 (3 * cq (sI S) i 1 + 1) ((wW ω e).2.2.1 i) = χ
      have cr : ∀ c', c' ≠ 219 → χ c' = τ c' := fun c' h => by rw [← hχ, ju_row h, ju_row h]
      have Rχ : RFR χ ω := R.of2 (fun c' a b => by rw [cr c' (by omega), F c' (by omega) (by omega)]) (by rw [cr 189 (by omega), F2 10 (by omega)])
      refine cN_p (c_Model_placeInLine Rχ he ⟨by omega, by omega⟩) (by omega) ?_
      refine ⟨by omega, by omega, ?_⟩
      rw [cr 189 (by omega), C, w32_of (x := cq (sI S) i 1 + 1) (by omega) (by omega)]
      refine IH _ (by omega) (fun c' a b => by rw [ju_row a, ju_row b, cr c' b, F c' a b]) (fun j hj => by rw [ju_ne2 hj, ju_row (by omega), cr 189 (by omega), F2 j hj]) (by rw [if_pos yb, ju_self]) (fun q a b g => ?_)
      by_cases z : q = i
      · rw [z, show ((i : Int)).toNat = i by omega]
        refine ⟨?_, ?_, ?_⟩
        · rw [ju_row (by omega), ju_ne2 (by omega), ← hχ, ju_ne2 (by omega), ju_self]
        · rw [ju_row (by omega), ju_ne2 (by omega), ← hχ, ju_self]
        · rw [ju_row (by omega), ju_self]
          unfold anO
          rw [show ((i : Int)).toNat = i by omega]
      · have lt := cq_lt2 (w := sI S) (p := q) (q := i) a (by omega) (by rw [sI_1.mpr g, sI_1.mpr yb])
        rw [sI_1.mpr g, sI_1.mpr yb, show ((i : Int)).toNat = i by omega] at lt
        obtain ⟨q1, q2, q3⟩ := Q q a (by omega) g
        refine ⟨?_, ?_, ?_⟩
        · rw [ju_row (by omega), ju_ne2 (by omega), ← hχ, ju_ne2 (by omega), ju_ne2 (by omega)]
          exact q1
        · rw [ju_row (by omega), ju_ne2 (by omega), ← hχ, ju_ne2 (by omega), ju_ne2 (by omega)]
          exact q2
        · rw [ju_row (by omega), ju_ne2 (by omega), ← hχ, ju_ne2 (by omega), ju_ne2 (by omega)]
          exact q3
    · have nb : ¬ S i = true := by
        rw [s0.mp y]
        decide
      refine IH τ (by omega) F F2 (by rw [if_neg nb, C]; omega) (fun q a b g => ?_)
      by_cases z : q = i
      · rw [z] at g
        exact absurd g nb
      · exact Q q a (by omega) g
theorem c_Model_ask (R : RFR σ ω) (hal : ALP σ) (U : RLO ω) (P : TPR σ n t) (T : TP2 σ t n) : Cw 61 m_Model_ask [vR 189, vI e] σ (fun z τ => RAK σ τ ω t e n z) := by
  have t208 : gW.2.1 208 = (3, 340) := gt_208
  refine Cw_of o_Model_ask rfl fun l d hd => jwp_sound t_Model_ask _ (b_Model_ask_0 ?_)
  simp only [RW, true_and, and_true, and_self, true_or, or_true, Nat.reduceLeDiff, Nat.reduceEqDiff, Nat.reduceAdd, Int.reduceLE, Int.reduceLT, Int.reduceEq, Int.reduceNeg, Int.reduceNe, Nat.reduceSub, reduceIte, implies_true, gt_189, gr_189_28, gt_207, gr_189_32, gt_219, gr_189_4, gt_193, gr_189_6, gt_195, gr_207_0, gt_208]
  refine cN_p (c_Model_isEdition e σ) (by omega) ?_
  by_cases he : 0 ≤ e ∧ e ≤ 1
  · rw [if_pos he]
    refine ⟨fun _ => ?_, fun x => absurd x (by omega)⟩
    generalize hχ : ju σ 189 30 e = χ
    have r : ∀ c', c' ≠ 189 → χ c' = σ c' := fun c' h => by rw [← hχ, ju_row h]
    have χj : ∀ j, j ≠ 30 → χ 189 j = σ 189 j := fun j h => by rw [← hχ, ju_ne2 h]
    refine cN_w (c_begin (n := n) (t := t) (by rw [χj 15 (by omega)]; exact P.1) (by unfold TP2; rw [r 202 (by omega)]; exact T)) (by omega) (fun _ τ h => ?_)
    obtain ⟨F1, K1, ⟨g1, g23, g15⟩, G1⟩ := h
    generalize hξ : ju τ 189 29 0 = ξ
    have r2 : ∀ c', c' ≠ 189 → ξ c' = σ c' := fun c' h => by rw [← hξ, ju_row h, F1 c' h, r c' h]
    have ξj : ∀ j, j ≠ 29 → ξ 189 j = τ 189 j := fun j h => by rw [← hξ, ju_ne2 h]
    have ξk : ∀ j, (j < 15 ∨ (23 < j ∧ j ≠ 29 ∧ j ≠ 30)) → ξ 189 j = σ 189 j := fun j h => by rw [ξj j (by omega), G1 j (by omega), χj j (by omega)]
    have A : REN ξ ω e t n := ⟨R.of2 (fun c' a b => r2 c' (by omega)) (ξk 10 (by omega)), fun x a b => by rw [r2 200 (by omega)]; exact hal x a b, by unfold TP2; rw [r2 202 (by omega)]; exact T, by rw [ξj 30 (by omega), G1 30 (by omega), ← hχ, ju_self]⟩
    have Kξ : TKR ξ t n 0 := by
      unfold TKR
      rw [ξj 17 (by omega), ξj 19 (by omega), ξj 18 (by omega), ξj 20 (by omega), ξj 21 (by omega)]
      exact K1
    refine cN_w (c_mreadAsk U he A Kξ ⟨by omega, T.1.1⟩ (by rw [ξj 22 (by omega)]; exact g1) (by rw [← hξ, ju_self])) (by omega) (fun _ υ h => ?_)
    obtain ⟨F2, h⟩ := h
    have Aυ := A.of (c := 208) (by unfold isRSet; omega) F2
    have fr : ∀ c', c' ≠ 189 → c' ≠ 201 → (c' < 208 ∨ 219 < c') → υ c' = σ c' := fun c' a b f => by rw [F2.1 c' a b (by omega), r2 c' a]
    have fj : ∀ j, (j < 15 ∨ (23 < j ∧ j ≠ 29 ∧ j ≠ 30)) → υ 189 j = σ 189 j := fun j hj => by rw [F2.2 j (by omega), ξk j hj]
    have f15 : υ 189 15 = 0 := by rw [F2.2 15 (by omega), ξj 15 (by omega)]; exact g15
    have kp : υ 189 33 = σ 189 33 ∧ υ 219 = σ 219 := ⟨fj 33 (by omega), by rw [F2.1 219 (by omega) (by omega) (by omega), r2 219 (by omega)]⟩
    have badE : ∀ ζ : jH, (∀ c', c' ≠ 189 → ζ c' = υ c') → (∀ j, j ≠ 22 → j ≠ 23 → ζ 189 j = υ 189 j) → (aQ ω t e n).1 ≠ 0 → ζ 189 22 = (aQ ω t e n).1 → ζ 189 23 = (aQ ω t e n).2.1 → Ev (l, (fun _ => 0), 0) d 0 0 m_Model_ask (RW fun z τ => RAK σ τ ω t e n z) 49 [some (vR 189), some (vI e), none] [] gW ζ 0 0 := fun ζ a b q q22 q23 => by
      refine jwp_sound t_Model_ask _ (b_Model_ask_49 ?_)
      simp only [RW, true_and, and_true, and_self, true_or, or_true, Nat.reduceLeDiff, Nat.reduceEqDiff, Nat.reduceAdd, Int.reduceLE, Int.reduceLT, Int.reduceEq, Int.reduceNeg, Int.reduceNe, Nat.reduceSub, reduceIte, implies_true, gt_189, gr_189_28, gt_207, gr_189_32, gt_219, gr_189_4, gt_193, gr_189_6, gt_195, gr_207_0, gt_208]
      refine cN_p (c_good _) (by omega) ?_
      rw [if_neg (by rw [q22]; exact q)]
      refine ⟨fun x => absurd rfl x, fun _ => ?_⟩
      exact Or.inr ⟨he, fun c' x y f => by rw [a c' x, fr c' x y f], ⟨by rw [b 15 (by omega) (by omega)]; exact f15, fun j hj => by rw [b j (by omega) (by omega), fj j (by omega)]⟩, Or.inr ⟨q, rfl, ⟨by rw [b 33 (by omega) (by omega)]; exact kp.1, by rw [a 219 (by omega)]; exact kp.2⟩, q22, q23⟩⟩
    have qb := aQ_B (ω := ω) (t := t) (e := e) (n := n)
    generalize aB ω t e n 31 0 0 0 = B at *
    refine cN_p (c_good _) (by omega) ?_
    rcases h with ⟨b0, gυ, h23, b3, Kυ, h29, Vυ⟩ | ⟨b0, e22, e23⟩
    · rw [if_neg (fun x => x b0)] at qb
      rw [if_pos gυ, Kυ.1.2.2.2]
      have trB := (tK_r (t := t) (n := n) (p := B.2.2.1)).2
      have tc : tokc (tK t n B.2.2.1) = 0 ↔ tK t n B.2.2.1 = 0 := by
        unfold tokc
        unfold isSg at trB
        split
        · omega
        · split <;> omega
      refine ⟨fun x => absurd x (by omega), fun _ => ⟨fun y => ?_, fun y => ?_⟩⟩
      · rw [if_pos (tc.mp y)] at qb
        refine jwp_sound t_Model_ask _ (b_Model_ask_49 ?_)
        simp only [RW, true_and, and_true, and_self, true_or, or_true, Nat.reduceLeDiff, Nat.reduceEqDiff, Nat.reduceAdd, Int.reduceLE, Int.reduceLT, Int.reduceEq, Int.reduceNeg, Int.reduceNe, Nat.reduceSub, reduceIte, implies_true, gt_189, gr_189_28, gt_207, gr_189_32, gt_219, gr_189_4, gt_193, gr_189_6, gt_195, gr_207_0, gt_208]
        refine cN_p (c_good _) (by omega) ?_
        rw [if_pos gυ]
        refine ⟨fun _ => ?_, fun x => absurd x (by omega)⟩
        generalize hζ : ju υ 189 33 0 = ζ
        have zr : ∀ c', c' ≠ 189 → ζ c' = υ c' := fun c' h => by rw [← hζ, ju_row h]
        have zj : ∀ j, j ≠ 33 → ζ 189 j = υ 189 j := fun j h => by rw [← hζ, ju_ne2 h]
        have go := l_mk_66 (l := l) (d := d) (σ := ζ) (S := B.2.2.2.2) hd (Aυ.1.of2 (fun c' a b => zr c' (by omega)) (zj 10 (by omega))) he (fun q' a b => by rw [zr 208 (by omega)]; exact Vυ q' a b) (wW ω e).1.toNat 0 ζ (by have := wW_0 ω e; omega) (fun _ _ _ => rfl) (fun _ _ => rfl) (by rw [← hζ, ju_self]; rfl) (fun q' a b => by omega)
        refine Ev_post go (fun z τ' h => ?_)
        obtain ⟨h1, h2, h3, h4⟩ := h
        refine Or.inr ⟨he, fun c' x y f => by rw [h1 c' x (by omega), zr c' x, fr c' x y f], ⟨by rw [h2 15 (by omega), zj 15 (by omega)]; exact f15, fun j hj => by rw [h2 j (by omega), zj j (by omega), fj j (by omega)]⟩, Or.inl ?_⟩
        rw [qb]
        refine ⟨b0, h3, h4, ?_, ?_⟩
        · rw [h2 22 (by omega), zj 22 (by omega)]
          exact gυ
        · rw [h2 23 (by omega), zj 23 (by omega), h23, ξj 23 (by omega)]
          exact g23
      · rw [if_neg (fun x => y (tc.mpr x))] at qb
        refine cN_v (c_wrong_g 1 gυ Kυ) (by omega) (fun _ => ?_)
        have q1 : (aQ ω t e n).1 ≠ 0 := by
          rw [qb]
          show (1 : Int) ≠ 0
          omega
        exact badE _ (fun c' h => WR_row h) (fun j a b => by
          unfold WR
          rw [ju_ne2 b, ju_ne2 a]) q1 (by rw [wr_22, qb]; rfl) (by rw [wr_23, qb]; rfl)
    · rw [if_pos b0] at qb
      rw [if_neg (by rw [e22]; exact b0)]
      exact ⟨fun _ => badE υ (fun _ _ => rfl) (fun _ _ _ => rfl) (by rw [qb]; exact b0) (by rw [qb]; exact e22) (by rw [qb]; exact e23), fun x => absurd rfl x⟩
  · rw [if_neg he]
    exact ⟨fun x => absurd rfl x, fun _ => Or.inl ⟨he, rfl, rfl⟩⟩
end BT
