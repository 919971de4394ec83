/-! Ranks: the reference's rank, the end -/
section RX
variable {l : Launch} {d : Nat} {ω t : Int → Int} {σ : jH} {e n : Int}
def RKQ (χ υ : jH) (g : Int → Int) (i : Nat) : Prop := (∀ c, c ≠ 189 → c ≠ 224 → c ≠ 225 → υ c = χ c) ∧ (∀ j, j ≠ 41 → υ 189 j = χ 189 j) ∧ υ 189 41 = (rks g i).1 ∧ ∀ j : Int, 0 ≤ j → j < (rks g i).1 → υ 224 j = (rks g i).2.1 j ∧ υ 225 j = (rks g i).2.2 j
theorem l_mr_188 {P : Int → jH → Prop} {v ln : Int} {cnt : Nat} (hd : 13 ≤ d) (h1 : σ 189 41 = cnt) (hc : cnt < 40) (hln : 0 ≤ ln ∧ ln < 40) (hv : σ 220 ln = v) (N : ∀ τ : jH, τ 225 = ins (σ 225) cnt (ipos (σ 225) v cnt) v → τ 224 = ins (σ 224) cnt (ipos (σ 225) v cnt) ln → τ 189 41 = cnt + 1 → (∀ c, c ≠ 189 → c ≠ 224 → c ≠ 225 → τ c = σ c) → (∀ j, j ≠ 41 → τ 189 j = σ 189 j) → Ev (l, (fun _ => 0), 0) d 0 0 m_Model_rank (RW P) 162 [some (vR 189), some (vI e), some (vI (ln + 1)), none, none] [] gW τ 0 0) : ∀ (k : Nat) (τ : jH), k ≤ cnt → (∀ c, c ≠ 224 → c ≠ 225 → τ c = σ c) → (∀ j, τ 225 j = if k < j ∧ j ≤ cnt then σ 225 (j - 1) else σ 225 j) → (∀ j, τ 224 j = if k < j ∧ j ≤ cnt then σ 224 (j - 1) else σ 224 j) → ipos (σ 225) v cnt = ipos (σ 225) v k →
    Ev (l, (fun _ => 0), 0) d 0 0 m_Model_rank (RW P) 188 [some (vR 189), some (vI e), some (vI ln), some (vI k), none] [] gW τ 0 0 := by
  have fin : ∀ (k : Nat) (τ : jH), k ≤ cnt → (∀ c, c ≠ 224 → c ≠ 225 → τ c = σ c) → (∀ j, τ 225 j = if k < j ∧ j ≤ cnt then σ 225 (j - 1) else σ 225 j) → (∀ j, τ 224 j = if k < j ∧ j ≤ cnt then σ 224 (j - 1) else σ 224 j) → ipos (σ 225) v cnt = k → Ev (l, (fun _ => 0), 0) d 0 0 m_Model_rank (RW P) 243 [some (vR 189), some (vI e), some (vI ln), some (vI k), none] [] gW τ 0 0 := fun k τ hk F V1 V2 hi => by
    refine jwp_sound t_Model_rank _ (b_Model_rank_243 ?_)
    simp only [RW, true_and, and_true, and_self, true_or, or_true, Nat.reduceLeDiff, Nat.reduceEqDiff, Nat.reduceAdd, Int.reduceLE, Int.reduceLT, Int.reduceEq, Int.reduceNeg, Int.reduceNe, Nat.reduceSub, reduceIte, implies_true, gt_189, gr_189_34, gt_220, gr_189_38, gt_223, gr_189_39, gt_224, gr_189_40, gt_225]
    rw [ju_row (a := 224) (c := 189) (by omega), ju_row (a := 225) (c := 189) (by omega), F 189 (by omega) (by omega), h1, F 220 (by omega) (by omega), hv, w32_of (x := (cnt : Int) + 1) (by omega) (by omega), w32_of (x := ln + 1) (by omega) (by omega)]
    refine ⟨by omega, by omega, by omega, by omega, by omega, by omega, ?_⟩
    refine N _ ?_ ?_ ju_self (fun c a b c2 => by rw [ju_row a, ju_row b, ju_row c2, F c b c2]) (fun j hj => by rw [ju_ne2 hj, ju_row (by omega), ju_row (by omega), F 189 (by omega) (by omega)])
    · funext j
      rw [hi, ju_row (by omega), ju_row (by omega)]
      unfold ins
      by_cases x : j = k
      · rw [x, ju_self, if_neg (by omega), if_pos rfl]
      · rw [ju_ne2 x, V1]
        by_cases y : j < k
        · rw [if_pos y, if_neg (by omega)]
        · rw [if_neg y, if_neg x]
          by_cases z : j ≤ cnt
          · rw [if_pos z, if_pos (by omega)]
          · rw [if_neg z, if_neg (by omega)]
    · funext j
      rw [hi, ju_row (by omega)]
      unfold ins
      by_cases x : j = k
      · rw [x, ju_self, if_neg (by omega), if_pos rfl]
      · rw [ju_ne2 x, ju_row (by omega), V2]
        by_cases y : j < k
        · rw [if_pos y, if_neg (by omega)]
        · rw [if_neg y, if_neg x]
          by_cases z : j ≤ cnt
          · rw [if_pos z, if_pos (by omega)]
          · rw [if_neg z, if_neg (by omega)]
  intro k
  induction k with
  | zero =>
    intro τ hk F V1 V2 hi
    refine jwp_sound t_Model_rank _ (b_Model_rank_188 ?_)
    exact ⟨fun _ => fin 0 τ hk F V1 V2 hi, fun q => absurd q (by omega)⟩
  | succ k ih =>
    intro τ hk F V1 V2 hi
    have e1 : τ 225 k = σ 225 k := by rw [V1, if_neg (by omega)]
    have e2 : τ 224 k = σ 224 k := by rw [V2, if_neg (by omega)]
    simp only [ipos] at hi
    refine jwp_sound t_Model_rank _ (b_Model_rank_188 ?_)
    simp only [RW, true_and, and_true, and_self, true_or, or_true, Nat.reduceLeDiff, Nat.reduceEqDiff, Nat.reduceAdd, Int.reduceLE, Int.reduceLT, Int.reduceEq, Int.reduceNeg, Int.reduceNe, Nat.reduceSub, reduceIte, implies_true, gt_189, gr_189_34, gt_220, gr_189_38, gt_223, gr_189_39, gt_224, gr_189_40, gt_225]
    rw [w32_of (x := ((k + 1 : Nat) : Int) - 1) (by omega) (by omega), w32_of (x := ((k + 1 : Nat) : Int) + -1) (by omega) (by omega), show ((k + 1 : Nat) : Int) - 1 = k by omega, show ((k + 1 : Nat) : Int) + -1 = k by omega, ju_row (a := 225) (c := 224) (by omega), e1, e2, F 220 (by omega) (by omega), hv]
    refine ⟨fun q => absurd q (by omega), fun _ => ⟨by omega, by omega, by omega, by omega, fun q => ?_, fun q => ?_⟩⟩
    · rw [if_neg (by omega)] at hi
      exact fin (k + 1) τ hk F V1 V2 hi
    · rw [if_pos q] at hi
      refine ⟨by omega, by omega, by omega, by omega, by omega, by omega, by omega, by omega, ?_⟩
      refine ih _ (by omega) (fun c a b => by rw [ju_row a, ju_row b, F c a b]) (fun j => ?_) (fun j => ?_) hi
      · rw [ju_row (by omega)]
        by_cases x : j = ((k + 1 : Nat) : Int)
        · rw [x, ju_self, if_pos (by omega), show ((k + 1 : Nat) : Int) - 1 = k by omega]
        · rw [ju_ne2 x, V1]
          by_cases y : ((k + 1 : Nat) : Int) < j ∧ j ≤ cnt
          · rw [if_pos y, if_pos (by omega)]
          · rw [if_neg y, if_neg (by omega)]
      · by_cases x : j = ((k + 1 : Nat) : Int)
        · rw [x, ju_self, if_pos (by omega), show ((k + 1 : Nat) : Int) - 1 = k by omega]
        · rw [ju_ne2 x, ju_row (by omega), V2]
          by_cases y : ((k + 1 : Nat) : Int) < j ∧ j ≤ cnt
          · rw [if_pos y, if_pos (by omega)]
          · rw [if_neg y, if_neg (by omega)]
theorem l_mr_162 {χ : jH} {g : Int → Int} (hd : 13 ≤ d) (W : OKW ω) (h190 : χ 190 = ω) (he : 0 ≤ e ∧ e ≤ 1) (hg : ∀ j, 0 ≤ j → j < ω (3 + e) → χ 220 j = g j ∧ 0 ≤ g j) : ∀ (k i : Nat) (υ : jH), (i : Int) + k = ω (3 + e) → RKQ χ υ g i →
    Ev (l, (fun _ => 0), 0) d 0 0 m_Model_rank (RW fun z τ => z = (rks g (ω (3 + e)).toNat).1 ∧ RKQ χ τ g (ω (3 + e)).toNat) 162 [some (vR 189), some (vI e), some (vI i), none, none] [] gW υ 0 0
  | 0, i, υ, hk, S => by
    refine jwp_sound t_Model_rank _ (b_Model_rank_162 ?_)
    simp only [RW, true_and, and_true, and_self, true_or, or_true, Nat.reduceLeDiff, Nat.reduceEqDiff, Nat.reduceAdd, Int.reduceLE, Int.reduceLT, Int.reduceEq, Int.reduceNeg, Int.reduceNe, Nat.reduceSub, reduceIte, implies_true, gt_189, gr_189_34, gt_220, gr_189_38, gt_223, gr_189_39, gt_224, gr_189_40, gt_225]
    refine cN_p (c_Model_linesOf _ he.1 he.2) (by omega) ?_
    rw [S.1 190 (by omega) (by omega) (by omega), h190]
    refine ⟨fun _ => ?_, fun q => absurd q (by omega)⟩
    rw [show (ω (3 + e)).toNat = i by omega]
    exact ⟨S.2.2.1, S⟩
  | k + 1, i, υ, hk, S => by
    have l40 := ((W.L he).1).2.1
    have cr := rks_r g i
    obtain ⟨gi, g0⟩ := hg i (by omega) (by omega)
    have gυ : υ 220 i = g i := by
      rw [S.1 _ (by omega) (by omega) (by omega)]
      exact gi
    refine jwp_sound t_Model_rank _ (b_Model_rank_162 ?_)
    simp only [RW, true_and, and_true, and_self, true_or, or_true, Nat.reduceLeDiff, Nat.reduceEqDiff, Nat.reduceAdd, Int.reduceLE, Int.reduceLT, Int.reduceEq, Int.reduceNeg, Int.reduceNe, Nat.reduceSub, reduceIte, implies_true, gt_189, gr_189_34, gt_220, gr_189_38, gt_223, gr_189_39, gt_224, gr_189_40, gt_225]
    refine cN_p (c_Model_linesOf _ he.1 he.2) (by omega) ?_
    rw [S.1 190 (by omega) (by omega) (by omega), h190, gυ, S.2.2.1, w32_of (x := (i : Int) + 1) (by omega) (by omega)]
    refine ⟨fun q => absurd q (by omega), fun _ => ⟨by omega, by omega, fun q => ?_, fun q => ?_⟩⟩
    · refine l_mr_188 (σ := υ) (cnt := (rks g i).1) (v := g i) hd S.2.2.1 (by omega) ⟨by omega, by omega⟩ gυ (fun ξ h1 h2 h3 h4 h5 => ?_) (rks g i).1 υ (Nat.le_refl _) (fun _ _ _ => rfl) (fun j => by rw [if_neg (by omega)]) (fun j => by rw [if_neg (by omega)]) rfl
      have pe : ipos (υ 225) (g i) (rks g i).1 = ipos (rks g i).2.2 (g i) (rks g i).1 := ipos_eq _ (fun j a b => (S.2.2.2 j a b).2)
      have pr := ipos_r (rks g i).2.2 (g i) (rks g i).1
      have IH := l_mr_162 hd W h190 he hg k (i + 1) ξ (by omega) (by
        unfold RKQ
        rw [rks_1 (by omega)]
        refine ⟨fun c a b c2 => by rw [h4 c a b c2, S.1 c a b c2], fun j hj => by rw [h5 j hj, S.2.1 j hj], by rw [h3]; show _ = (((rks g i).1 + 1 : Nat) : Int); omega, fun j j0 j1 => ?_⟩
        have j2 : j < ((rks g i).1 : Int) + 1 := by
          have : j < (((rks g i).1 + 1 : Nat) : Int) := j1
          omega
        rw [h1, h2, pe]
        exact ⟨ins_eq (fun x a b => (S.2.2.2 x a b).1) (by omega) (by omega) j j0 j2, ins_eq (fun x a b => (S.2.2.2 x a b).2) (by omega) (by omega) j j0 j2⟩)
      rw [show ((i + 1 : Nat) : Int) = (i : Int) + 1 by omega] at IH
      exact IH
    · have IH := l_mr_162 hd W h190 he hg k (i + 1) υ (by omega) (by unfold RKQ; rw [rks_0 (by omega)]; exact S)
      rw [show ((i + 1 : Nat) : Int) = (i : Int) + 1 by omega] at IH
      exact IH
theorem c_Model_rank (R : RFR σ ω) (hal : ALP σ) (T : TPR σ n t) (e : Int) : Cw 13 m_Model_rank [vR 189, vI e] σ (fun z τ => RNR σ τ ω e n t z) := by
  refine Cw_of o_Model_rank rfl fun l d hd => jwp_sound t_Model_rank _ (b_Model_rank_0 ?_)
  simp only [RW, true_and, and_true, and_self, true_or, or_true, Nat.reduceLeDiff, Nat.reduceEqDiff, Nat.reduceAdd, Int.reduceLE, Int.reduceLT, Int.reduceEq, Int.reduceNeg, Int.reduceNe, Nat.reduceSub, reduceIte, implies_true, gt_189, gr_189_34, gt_220, gr_189_38, gt_223, gr_189_39, gt_224, gr_189_40, gt_225]
  refine cN_p (c_Model_isEdition _ _) (by omega) ?_
  by_cases he : 0 ≤ e ∧ e ≤ 1
  · rw [if_pos he]
    refine ⟨fun _ => ?_, fun x => absurd x (by omega)⟩
    refine cN_w (c_Model_asks R hal T) (by omega) (fun _ τ h => ?_)
    obtain ⟨ξ, S, rfl⟩ := h
    have L := (R.1.L he).1
    have d0 : 0 ≤ dn ω := R.2.1.1
    generalize hχ : ju (ju ξ 189 15 0) 189 41 0 = χ
    have Fχ : ∀ c, c ≠ 189 → c ≠ 218 → c ≠ 223 → χ c = σ c := fun c a b c2 => by rw [← hχ, ju_row a, ju_row a, S.1 c b c2]
    have F1 : ∀ j, j ≠ 15 → j ≠ 41 → χ 189 j = σ 189 j := fun j a b => by rw [← hχ, ju_ne2 b, ju_ne2 a, S.1 189 (by omega) (by omega)]
    have Rχ : RFR χ ω := R.of2 (fun c a b => Fχ c (by omega) (by omega) (by omega)) (F1 10 (by omega) (by omega))
    have e190 : χ 190 = ω := Rχ.2.2.2.1
    have z41 : χ 189 41 = 0 := by rw [← hχ, ju_self]
    have z15 : χ 189 15 = 0 := by rw [← hχ, ju_ne2 (by omega), ju_self]
    refine l_mr_21 (σ := χ) hd R.1 e190 he (fun τ F V => ?_) (ω (3 + e)).toNat 0 χ (by have := L.1; omega) (fun _ _ => rfl) (fun j a b => by omega)
    have Rτ := Rχ.of (τ := τ) (fun c h => F c (by omega))
    refine l_mr_45 (A := askA ω t n) (σ := τ) hd Rτ he (fun f a b => by rw [F 223 (by omega), ← hχ, ju_row (by omega), ju_row (by omega)]; exact S.2.1 f a b) (fun υ F2 V2 => ?_) (dn ω).toNat 0 τ (by omega) (fun _ _ => rfl) (fun j a b => by rw [V j a b]; rfl)
    have go := l_mr_162 (l := l) (χ := υ) (g := wth ω e (askA ω t n)) hd R.1 (by rw [F2 190 (by omega), F 190 (by omega)]; exact e190) he (fun j a b => ⟨V2 j a b, (wth_r ω e (askA ω t n) j (dn ω).toNat).1⟩) (ω (3 + e)).toNat 0 υ (by have := L.1; omega) ⟨fun _ _ _ _ => rfl, fun _ _ => rfl, by rw [F2 189 (by omega), F 189 (by omega), z41]; rfl, fun j a b => absurd b (by show ¬ j < ((0 : Nat) : Int); omega)⟩
    refine Ev_post go (fun z ζ hz => ?_)
    obtain ⟨h1, h2⟩ := hz
    have cr := rks_r (wth ω e (askA ω t n)) (ω (3 + e)).toNat
    have l40 := L.2.1
    refine Or.inl ⟨he, h1, ⟨by rw [h1]; exact h2.2.2.1, by omega, fun i a b => h2.2.2.2 i a (by omega)⟩, fun c a b c2 c3 c4 c5 => by rw [h2.1 c a c4 c5, F2 c c2, F c c2, Fχ c a b c3], by rw [h2.2.1 15 (by omega), F2 189 (by omega), F 189 (by omega), z15], fun j a b => by rw [h2.2.1 j b, F2 189 (by omega), F 189 (by omega), F1 j a b]⟩
  · rw [if_neg he]
    exact ⟨fun x => absurd rfl x, fun _ => Or.inr ⟨he, rfl, rfl⟩⟩
theorem c_Model_ranked {N : Int} {f g : Int → Int} (R : RKR σ N f g) (i what : Int) : Cw 11 m_Model_ranked [vR 189, vI i, vI what] σ (fun z τ => z = s_ranked N f g i what ∧ τ = σ) := by
  obtain ⟨r1, r2, r3⟩ := R
  refine Cw_of o_Model_ranked rfl fun l d hd => jwp_sound t_Model_ranked _ (b_Model_ranked_0 ?_)
  simp only [RW, true_and, and_true, and_self, true_or, or_true, Nat.reduceLeDiff, Nat.reduceEqDiff, Nat.reduceAdd, Int.reduceLE, Int.reduceLT, Int.reduceEq, Int.reduceNeg, Int.reduceNe, Nat.reduceSub, reduceIte, implies_true, gt_189, gr_189_39, gt_224, gr_189_40, gt_225]
  rw [r1, w32_of (x := N - 1) (by omega) (by omega)]
  refine cN_p (c_Model_in _ _ _ _) (by omega) ?_
  unfold s_ranked
  by_cases q : 0 ≤ i ∧ i ≤ N - 1
  · obtain ⟨a, b⟩ := r3 i q.1 (by omega)
    rw [if_pos q, if_pos ⟨q.1, by omega⟩, a, b]
    refine ⟨fun _ => ⟨fun x => ⟨fun y => ?_, fun y => ?_⟩, fun x => ?_⟩, fun x => absurd x (by omega)⟩
    · rw [if_neg x, if_neg y]
      exact ⟨rfl, rfl⟩
    · rw [if_neg x, if_pos y]
      repeat (refine And.intro (by omega) ?_)
      rfl
    · rw [if_pos x]
      repeat (refine And.intro (by omega) ?_)
      rfl
  · rw [if_neg q, if_neg (fun x => q ⟨x.1, by omega⟩)]
    exact ⟨fun x => absurd rfl x, fun _ => ⟨rfl, rfl⟩⟩
end RX
