/-! The reference: a line is laid, or everything stays -/
theorem mok_of {τ : jH} {ω : Int → Int} (h : τ 190 = ω) (W : OKW ω) (A : ALP τ) : MOK τ ∧ RKO (τ 190) := by
  obtain ⟨W0, W1, W2, W3, W4, W5⟩ := W
  unfold MOK
  rw [h]
  exact ⟨⟨W0, W1, W2, by omega, by omega, A⟩, W3⟩
def FLR (σ τ : jH) : Prop := (∀ c, (c < 189 ∨ c = 191 ∨ c = 192 ∨ 199 < c) → c ≠ 205 → τ c = σ c) ∧ ∀ j, j ≠ 10 → τ 189 j = σ 189 j
def LYP (σ τ : jH) (ω : Int → Int) (e i n : Int) (tx : Int → Int) (z : Int) : Prop := FLR σ τ ∧ (((wW (lay ω e i n tx) e).1 ≤ 300 ∧ z = 1 ∧ RFR τ (lay ω e i n tx)) ∨ (300 < (wW (lay ω e i n tx) e).1 ∧ z = 0 ∧ RFR τ ω))
theorem MKD.fmk {σ τ : jH} (h : MKD σ τ) : FMK σ τ := by
  obtain ⟨n, X, _⟩ := h
  exact X.2.1
theorem c_Model_lays {σ : jH} {ω tx : Int → Int} {e i n : Int} (R : RFR σ ω) (hal : ALP σ) (Y : LYE ω e i n) (ht : ∀ j, 0 ≤ j → j < n → σ 206 j = tx j) : Cw 16 m_Model_lays [vR 189, vI e, vI i, vI n] σ (fun z τ => LYP σ τ ω e i n tx z) := by
  have e190 : σ 190 = ω := R.2.2.2.1
  have Y' := Y
  obtain ⟨Y1, ⟨L1, L2, L3⟩, Y3, Y4⟩ := Y'
  have hA : 2597 ≤ lA e i ∧ lA e i ≤ 7416 := by
    unfold lA
    omega
  have hc := lay_c (tx := tx) Y
  refine Cw_of o_Model_lays rfl fun l d hd => jwp_sound t_Model_lays _ (b_Model_lays_0 ?_)
  simp only [RW, true_and, and_true, and_self, true_or, or_true, Nat.reduceLeDiff, Nat.reduceEqDiff, Nat.reduceAdd, Int.reduceLE, Int.reduceLT, Int.reduceEq, Int.reduceNeg, Int.reduceNe, Nat.reduceSub, reduceIte, implies_true, gt_189, gr_189_1, gt_190, gr_189_26, gt_205, gr_189_27, gt_206, gr_189_4, gt_193]
  refine cN_p (c_Model_lineAt _ Y1.1 Y1.2 Y3.1 (by omega)) (by omega) ?_
  refine cN_p (c_Model_linesOf _ Y1.1 Y1.2) (by omega) ?_
  rw [e190]
  have main : ∀ own : Int, (own = if i = ω (3 + e) then 1 else 0) → Ev (l, (fun _ => 0), 0) d 0 0 m_Model_lays (RW fun z τ => LYP σ τ ω e i n tx z) 26 [some (vR 189), some (vI e), none, some (vI n), some (vI (lA e i)), some (vI own), some (vI 0), none] [] gW σ 0 0 := fun own ho => by
    have ho2 : own = 0 ∨ own = 1 := by
      rw [ho]
      split <;> omega
    have hc2 : lay ω e i n tx (3 + e) = ω (3 + e) + own := by
      rw [hc, ho]
      split <;> omega
    refine l_lays_26 (σ := σ) hd hA (fun τ1 F1 S1 => ?_) 61 0 σ (by omega) (fun c _ => rfl) (fun j a b => by omega)
    refine l_lays_67 (σ := ju τ1 190 (lA e i) n) (tx := tx) hd Y1 hA ho2 Y4 (fun j a b => by rw [ju_row (by omega), F1 _ (by omega)]; exact ht j a b) (fun τ2 F2 S2 => ?_) n.toNat 0 _ (by omega) (fun c _ => rfl) (fun j => ?_)
    · have r2 : ∀ c, c ≠ 190 → c ≠ 205 → τ2 c = σ c := fun c a b => by rw [F2 c a, ju_row a, F1 c b]
      have e1 : τ1 190 = ω := by rw [F1 190 (by omega), e190]
      have v3 : τ2 190 (3 + e) = ω (3 + e) := by
        rw [S2, if_neg (by omega), if_neg (by omega), ju_ne2 (by omega), e1]
      have r3 : ∀ c, c ≠ 190 → c ≠ 205 → ju τ2 190 (3 + e) (ω (3 + e) + own) c = σ c := fun c a b => by rw [ju_row a, r2 c a b]
      have s3 : ∀ j : Int, 0 ≤ j → j < 61 → ju τ2 190 (3 + e) (ω (3 + e) + own) 205 j = ω (lA e i + j) := fun j a b => by
        rw [ju_row (by omega), F2 205 (by omega), ju_row (by omega), S1 j a b, e190]
      have z3 : ju τ2 190 (3 + e) (ω (3 + e) + own) 190 = lay ω e i n tx := by
        funext j
        by_cases q : j = 3 + e
        · rw [q, ju_self, hc2]
        · rw [ju_ne2 q, S2]
          unfold lay
          rw [if_neg q]
          by_cases q2 : j = lA e i
          · rw [if_pos q2, if_pos q2]
          · rw [if_neg q2, if_neg q2]
            by_cases q3 : lA e i < j ∧ j ≤ lA e i + n
            · rw [if_pos q3, if_pos q3]
            · rw [if_neg q3, if_neg q3, ju_ne2 q2, e1]
      refine jwp_sound t_Model_lays _ (b_Model_lays_117 ?_)
      simp only [RW, true_and, and_true, and_self, true_or, or_true, Nat.reduceLeDiff, Nat.reduceEqDiff, Nat.reduceAdd, Int.reduceLE, Int.reduceLT, Int.reduceEq, Int.reduceNeg, Int.reduceNe, Nat.reduceSub, reduceIte, implies_true, gt_189, gr_189_1, gt_190, gr_189_26, gt_205, gr_189_27, gt_206, gr_189_4, gt_193]
      rw [v3, w32_of (x := ω (3 + e) + own) (by omega) (by omega)]
      repeat (refine And.intro (by omega) ?_)
      generalize ju τ2 190 (3 + e) (ω (3 + e) + own) = τ3 at r3 s3 z3 ⊢
      have L' := lay_LOK (tx := tx) Y
      have cap := lay_cap (tx := tx) Y (R.1.L Y1).2
      have fo' : okρ (fo (lay ω e i n tx)) := fun x a b => by rw [lay_fo Y a b]; exact R.1.2.2.1 x a b
      refine cN_w (c_Model_makesWords τ3 Y1 (by rw [z3]; exact L') (by rw [z3]; exact fo') (by rw [z3]; exact cap)) (by omega) (fun _ τ4 S => ?_)
      rw [z3] at S
      obtain ⟨S4, F4, _⟩ := S
      have n4 : τ4 193 e = (wW (lay ω e i n tx) e).1 := S4.1
      have z4 : τ4 190 = lay ω e i n tx := by rw [F4 190 (by omega) (by omega) (by omega) (by omega), z3]
      have r4 : ∀ c, (c < 190 ∨ c = 191 ∨ c = 192 ∨ 199 < c) → c ≠ 205 → τ4 c = σ c := fun c a b => by rw [F4 c (by omega) (by omega) (by omega) (by omega), r3 c (by omega) b]
      have s4 : ∀ j : Int, 0 ≤ j → j < 61 → τ4 205 j = ω (lA e i + j) := fun j a b => by
        rw [F4 205 (by omega) (by omega) (by omega) (by omega)]
        exact s3 j a b
      have a4 : ALP τ4 := fun x a b => by rw [r4 200 (by omega) (by omega)]; exact hal x a b
      rw [n4]
      repeat (refine And.intro (by omega) ?_)
      refine ⟨fun q => ?_, fun q => ?_⟩
      · refine jwp_sound t_Model_lays _ (b_Model_lays_141 ?_)
        simp only [RW, true_and, and_true, and_self, true_or, or_true, Nat.reduceLeDiff, Nat.reduceEqDiff, Nat.reduceAdd, Int.reduceLE, Int.reduceLT, Int.reduceEq, Int.reduceNeg, Int.reduceNe, Nat.reduceSub, reduceIte, implies_true, gt_189, gr_189_1, gt_190, gr_189_26, gt_205, gr_189_27, gt_206, gr_189_4, gt_193]
        refine ⟨fun x => x.elim, fun _ => ?_⟩
        refine l_lays_151 (σ := τ4) (ω := ω) hd Y1 hA ho2 (Or.inl rfl) s4 (fun j hj => ?_) ⟨L1, L2⟩ (fun τ hτ hω => ?_) (fun τ υ hτ hω h => ?_) 61 0 τ4 (by omega) (fun c _ => rfl) (fun j => ?_)
        · rw [z4]
          by_cases q2 : j = 3 + e
          · rw [if_pos q2, q2, hc2]
          · rw [if_neg q2, lay_o Y q2 hj]
        · exact mok_of hω R.1 (fun x a b => by rw [hτ 200 (by omega)]; exact a4 x a b)
        · have M := mok_of hω R.1 (fun x a b => by rw [hτ 200 (by omega)]; exact a4 x a b)
          have D := h.rdr M.1 M.2
          rw [hω] at D
          have K := h.fmk
          refine ⟨⟨fun c a b => ?_, fun j hj => ?_⟩, Or.inr ⟨q, rfl, R.1, D⟩⟩
          · rw [K.1 c (by omega) (by omega), hτ c (by omega), r4 c (by omega) b]
          · rw [K.2 j hj, hτ 189 (by omega), r4 189 (by omega) (by omega)]
        · rw [if_neg (by omega)]
      · have W' := lay_OKW (tx := tx) Y R.1 q
        have M := mok_of z4 W' a4
        refine jwp_sound t_Model_lays _ (b_Model_lays_141 ?_)
        simp only [RW, true_and, and_true, and_self, true_or, or_true, Nat.reduceLeDiff, Nat.reduceEqDiff, Nat.reduceAdd, Int.reduceLE, Int.reduceLT, Int.reduceEq, Int.reduceNeg, Int.reduceNe, Nat.reduceSub, reduceIte, implies_true, gt_189, gr_189_1, gt_190, gr_189_26, gt_205, gr_189_27, gt_206, gr_189_4, gt_193]
        refine ⟨fun _ => ?_, fun x => x.elim⟩
        refine cN_w (c_Model_makes _ M.1 M.2) (by omega) (fun _ υ h => ?_)
        have D := h.rdr M.1 M.2
        rw [z4] at D
        have K := h.fmk
        refine ⟨⟨fun c a b => ?_, fun j hj => ?_⟩, Or.inl ⟨q, rfl, W', D⟩⟩
        · rw [K.1 c (by omega) (by omega), r4 c (by omega) b]
        · rw [K.2 j hj, r4 189 (by omega) (by omega)]
    · by_cases q : j = lA e i
      · rw [if_pos q, q, ju_self]
      · rw [if_neg q, if_neg (by omega)]
  refine ⟨fun q => main 0 (by rw [if_neg q]), fun q => main 1 (by rw [if_pos q])⟩
