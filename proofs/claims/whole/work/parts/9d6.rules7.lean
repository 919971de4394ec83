/-! RULES are read: the class's ORDER, a rule -/
section R5
variable {l : Launch} {d : Nat} {t : Int → Int} {σ : jH} {n p : Int} {ρ : Int → Int} {ho : Bool}
theorem l_od_59 {p1 : Int} (hd : 13 ≤ d) (T : TP σ t n) (hp : 0 ≤ p1 ∧ p1 ≤ n) (q1 : tK t n p1 = 1) (D : DRC σ ρ ho) (O : RRO ρ) : ∀ (k i : Nat) (W : Int → Int) (τ : jH), (i : Int) + k = tN t n p1 - tS t n p1 → (∀ a, a ≠ 140 → a ≠ 155 → τ a = σ a) → (τ 140 6 = σ 140 6 ∧ τ 140 7 = σ 140 7) → TKC τ t n p1 → ONJ W i → (∀ j, (j < 31 ∨ 57 ≤ j) → W j = ρ j) → (∀ x, 0 ≤ x → x < 26 → τ 155 x = W (31 + x)) →
    Ev (l, (fun _ => 0), 0) d 0 0 m_RuleReader_readOrder (RW fun z τ => CRS σ τ t n (rLet t n p1 k i W) z) 59 [some (vR 141), some (vI i), none] [] gW τ 0 0
  | 0, i, W, τ, hk, F, G, K, N, h, V => by
    have T1 := T.1
    have Tτ := T.eq (F 2 (by omega) (by omega))
    have p2 := tN_in (t := t) hp
    refine jwp_sound t_RuleReader_readOrder _ (b_RuleReader_readOrder_59 ?_)
    simp only [RW, true_and, and_true, and_self, true_or, or_true, Nat.reduceLeDiff, Nat.reduceEqDiff, Nat.reduceAdd, Int.reduceLE, Int.reduceLT, Int.reduceEq, Int.reduceNeg, Int.reduceNe, Nat.reduceSub, reduceIte, implies_true, gt_141, gr_141_0, gt_142, gr_141_1, gt_140, gr_142_10, gt_155]
    refine cN_p (c_letterCount K hp T1.2) (by omega) ?_
    rw [if_pos q1]
    refine ⟨fun _ => ?_, fun q => absurd hk (by omega)⟩
    refine cN_p (c_letterCount K hp T1.2) (by omega) ?_
    rw [if_pos q1, ← show (i : Int) = tN t n p1 - tS t n p1 by omega]
    refine cN_w (c_rankOthers N V) (by omega) (fun _ τ2 h2 => ?_)
    obtain ⟨F2, V2⟩ := h2
    have K2 : TKC (ju τ2 142 11 1) t n p1 := K.eq (by rw [ju_row (by omega), F2 140 (by omega)])
    have T2 : TP (ju τ2 142 11 1) t n := Tτ.eq (by rw [ju_row (by omega), F2 2 (by omega)])
    refine cN_w (c_advance T2 K2 hp) (by omega) (fun _ τ3 h3 => ?_)
    obtain ⟨F3, K3⟩ := h3
    obtain ⟨r1, r2, r3, r4⟩ := rOth_ok N 26 (by omega)
    have F13 : ∀ a, a ≠ 155 → a ≠ 142 → a ≠ 140 → τ3 a = σ a := fun a x y z => by rw [F3.1 a z, ju_row y, F2 a x, F a z x]
    have D3 : DRC τ3 (rOth i W 26).2 true := D.rank O F13 (fun j hj => by rw [F3.1 142 (by omega), ju_ne2 hj, F2 142 (by omega), F 142 (by omega) (by omega)]) (by rw [F3.1 142 (by omega), ju_self]) (fun j hj => (r2 j hj).trans (h j hj)) (fun x a b => by rw [F3.1 155 (by omega), ju_row (by omega)]; exact V2 x a b)
    refine ⟨.kp (fun c a b => F13 c (by omega) (by omega) a) (fun c a b => F13 c (by omega) (by omega) (by omega)), Or.inl ⟨rfl, rfl, p2, K3, D3, ?_, ?_, ?_⟩⟩
    · rw [F3.1 142 (by omega), ju_ne2 (by omega), F2 142 (by omega), F 142 (by omega) (by omega)]
    · rw [F3.2 6 (by omega) (by omega) (by omega) (by omega), ju_row (by omega), F2 140 (by omega)]
      exact G.1
    · rw [F3.2 7 (by omega) (by omega) (by omega) (by omega), ju_row (by omega), F2 140 (by omega)]
      exact G.2
  | k + 1, i, W, τ, hk, F, G, K, N, h, V => by
    have T1 := T.1
    have Tτ := T.eq (F 2 (by omega) (by omega))
    have g := tK_l hp.2 q1 (tS t n p1 + i) (by omega) (by omega)
    refine jwp_sound t_RuleReader_readOrder _ (b_RuleReader_readOrder_59 ?_)
    simp only [RW, true_and, and_true, and_self, true_or, or_true, Nat.reduceLeDiff, Nat.reduceEqDiff, Nat.reduceAdd, Int.reduceLE, Int.reduceLT, Int.reduceEq, Int.reduceNeg, Int.reduceNe, Nat.reduceSub, reduceIte, implies_true, gt_141, gr_141_0, gt_142, gr_141_1, gt_140, gr_142_10, gt_155]
    refine cN_p (c_letterCount K hp T1.2) (by omega) ?_
    rw [if_pos q1]
    refine ⟨fun q => absurd hk (by omega), fun _ => ?_⟩
    refine cN_p (c_letterAt (i := (i : Int)) Tτ K hp (by omega) (by omega)) (by omega) ?_
    refine ⟨fun q => absurd q (by omega), fun _ => ⟨fun q => absurd q (by omega), fun _ => ⟨by omega, by omega, ?_⟩⟩⟩
    rw [V _ (by omega) (by omega)]
    simp only [rLet]
    refine ⟨fun q => ?_, fun q => ?_⟩
    · obtain ⟨s1, s2, s3⟩ := onj_s (x := t (tS t n p1 + i) - 97) (by omega) (by omega) q N
      rw [if_neg (fun x => x q), w8i s2 s3, w8i s2 s3, w32_of (x := (i : Int) + 1) (by omega) (by omega)]
      refine ⟨by omega, by omega, ?_⟩
      have IH := l_od_59 hd T hp q1 D O k (i + 1) (up W (31 + (t (tS t n p1 + i) - 97)) i) (ju τ 155 (t (tS t n p1 + i) - 97) i) (by omega) (fun a x y => by rw [ju_row y, F a x y]) (by rw [ju_row (by omega)]; exact G) (K.eq (ju_row (by omega))) (by rw [show ((i + 1 : Nat) : Int) = (i : Int) + 1 by omega]; exact s1) (fun j hj => by rw [up_ne (by omega)]; exact h j hj) (fun x x0 x1 => by
        by_cases y : x = t (tS t n p1 + i) - 97
        · rw [y, ju_self, up_self]
        · rw [ju_ne2 y, up_ne (by omega)]
          exact V x x0 x1)
      rw [show ((i + 1 : Nat) : Int) = (i : Int) + 1 by omega] at IH
      exact IH
    · rw [if_pos q]
      refine cN_p (c_fail 2 K) (by omega) ?_
      refine ⟨Or.inl rfl, crs_pre (.kp (fun c a b => F c a (by omega)) (fun c a b => F c (by omega) (by omega))) (by rw [F 142 (by omega) (by omega)]) G.1 G.2 (crs_fail K 2 (by omega))⟩
theorem c_readOrder (T : TP σ t n) (K : TKC σ t n p) (hp : 0 ≤ p ∧ p ≤ n) (D : DRC σ ρ ho) (O : RRO ρ) : Cw 13 m_RuleReader_readOrder [vR 141] σ (fun z τ => CRS σ τ t n (if ho = true then rBD 2 (tS t n p) else rOrd t n (tN t n p) ρ) z) := by
  have p1 := tN_in (t := t) hp
  have r2 := tN_r (t := t) p1.2
  refine Cw_of o_RuleReader_readOrder rfl fun l d hd => jwp_sound t_RuleReader_readOrder _ (b_RuleReader_readOrder_0 ?_)
  simp only [RW, true_and, and_true, and_self, true_or, or_true, Nat.reduceLeDiff, Nat.reduceEqDiff, Nat.reduceAdd, Int.reduceLE, Int.reduceLT, Int.reduceEq, Int.reduceNeg, Int.reduceNe, Nat.reduceSub, reduceIte, implies_true, gt_141, gr_141_0, gt_142, gr_141_1, gt_140, gr_142_10, gt_155]
  rw [D.1.2.2.2]
  cases hh : ho with
  | true =>
    rw [if_pos rfl]
    refine ⟨fun q => absurd q (by decide), fun _ => ?_⟩
    refine cN_p (c_fail 2 K) (by omega) ?_
    exact ⟨Or.inl rfl, crs_fail K 2 (by omega)⟩
  | false =>
    rw [if_neg Bool.false_ne_true]
    refine ⟨fun _ => ?_, fun q => absurd rfl q⟩
    refine cN_w (c_advance T K hp) (by omega) (fun _ τ1 h1 => ?_)
    obtain ⟨F1, K1⟩ := h1
    rw [K1.1.2.2.2]
    unfold rOrd
    refine ⟨fun q => ?_, fun q => ?_⟩
    · rw [if_neg (fun x => x q)]
      refine cN_v (c_Arrays_fill2 (n := 26) (-1) _ gt_155 (by omega) (by omega) (by decide)) (by omega) (fun _ => ?_)
      have r : ∀ c, c ≠ 155 → jfill τ1 155 0 26 (-1) c = τ1 c := fun c hc => jfill_row hc
      have go := l_od_59 (l := l) (σ := σ) (ho := ho) hd T p1 q D O (tN t n (tN t n p) - tS t n (tN t n p)).toNat 0 (rCl ρ) (jfill τ1 155 0 26 (-1)) (by omega) (fun a x y => by rw [r a y, F1.1 a x]) (by rw [r 140 (by omega), F1.2 6 (by omega) (by omega) (by omega) (by omega), F1.2 7 (by omega) (by omega) (by omega) (by omega)]; exact ⟨rfl, rfl⟩) (K1.eq (r 140 (by omega))) (onj_0 (fun x a b => rCl_in a b)) (fun j hj => rCl_out hj) (fun x a b => by rw [jfill_in a b, rCl_in a b])
      exact go
    · rw [if_pos q]
      refine cN_p (c_fail 1 K1) (by omega) ?_
      exact ⟨Or.inl rfl, crs_pre F1.frd (by rw [F1.1 142 (by omega)]) (F1.2 6 (by omega) (by omega) (by omega) (by omega)) (F1.2 7 (by omega) (by omega) (by omega) (by omega)) (crs_fail K1 1 (by omega))⟩
/-- a rule, whole -/
def CRT (σ τ : jH) (t : Int → Int) (n : Int) (R : RS) (z : Int) : Prop := FRD σ τ ∧ ((R.1 = 0 ∧ z = 1 ∧ (0 ≤ R.2.2.1 ∧ R.2.2.1 ≤ n) ∧ TKC τ t n R.2.2.1 ∧ DRC τ R.2.2.2.1 R.2.2.2.2 ∧ τ 142 0 = R.2.2.2.1 0 ∧ τ 140 6 = σ 140 6 ∧ τ 140 7 = σ 140 7) ∨ (R.1 ≠ 0 ∧ z = 0 ∧ τ 140 6 = R.1 ∧ τ 140 7 = R.2.1))
theorem DRC.up0 {v : Int} (D : DRC σ ρ ho) (O : RRO ρ) : DRC σ (up ρ 0 v) ho := D.row (fun j hj => up_ne (by omega)) (fun s a b => (rk_up (by omega) (O.1.2.2.2.1 s a b).1).2.1) (fun r a b => ⟨up_ne (by omega), fun i i0 i1 => (rk_up (by omega) ((O.1.2.2.2.2 r a b).2 i i0 i1).1).2.1⟩) (fun r a b => by have := (O.1.2.2.2.2 r a b).1; omega)
theorem l_ru_89 {σ' : jH} {R : RS} {z : Int} (hd : 15 ≤ d) (T : TP σ t n) (h : CRS σ σ' t n R z) (h0 : R.1 = 0 → σ 142 0 + 1 = R.2.2.2.1 0 ∧ 0 ≤ σ 142 0 ∧ σ 142 0 < 20) : Ev (l, (fun _ => 0), 0) d 0 0 m_RuleReader_readRule (RW fun z τ => CRT σ τ t n (rSem t n R) z) 89 [some (vR 141), some (vI z)] [] gW σ' 0 0 := by
  obtain ⟨F, h⟩ := h
  unfold rSem
  refine jwp_sound t_RuleReader_readRule _ (b_RuleReader_readRule_89 ?_)
  simp only [RW, true_and, and_true, and_self, true_or, or_true, Nat.reduceLeDiff, Nat.reduceEqDiff, Nat.reduceAdd, Int.reduceLE, Int.reduceLT, Int.reduceEq, Int.reduceNeg, Int.reduceNe, Nat.reduceSub, reduceIte, implies_true, gt_141, gr_141_0, gt_142, gr_141_1, gt_140]
  rcases h with ⟨g1, rfl, g3, g4, g5, g6, g7, g8⟩ | ⟨g1, rfl, g3, g4⟩
  · obtain ⟨c1, c2, c3⟩ := h0 g1
    rw [if_neg (fun x => x g1), g4.1.2.2.2]
    have T2 := T.eq (F.1 2 (by omega) (by omega))
    refine ⟨fun _ => ⟨fun q => ?_, fun q => ?_⟩, fun x => absurd x (by omega)⟩
    · rw [if_pos q]
      refine cN_w (c_advance T2 g4 g3) (by omega) (fun _ τ h => ?_)
      obtain ⟨F2, K2⟩ := h
      rw [F2.1 142 (by omega), g6, w32_of (by omega) (by omega)]
      have r : ∀ c, c ≠ 142 → ju τ 142 0 (σ 142 0 + 1) c = τ c := fun c hc => ju_row hc
      obtain ⟨⟨e1, e2, e3, e4⟩, e5⟩ := g5
      refine ⟨F.tr (F2.frd.tr (.kp (fun c a b => r c (by omega)) (fun c a b => r c (by omega)))), Or.inl ⟨rfl, rfl, tN_in g3, K2.eq (r 140 (by omega)), ⟨⟨?_, ?_, ?_, ?_⟩, ?_⟩, ?_, ?_, ?_⟩⟩
      · rw [ju_ne2 (by omega), F2.1 142 (by omega)]
        exact e1
      · rw [ju_ne2 (by omega), F2.1 142 (by omega)]
        exact e2
      · rw [ju_ne2 (by omega), F2.1 142 (by omega)]
        exact e3
      · rw [ju_ne2 (by omega), F2.1 142 (by omega)]
        exact e4
      · unfold KKV at e5 ⊢
        rw [r 143 (by omega), r 144 (by omega), r 155 (by omega), r (145 + 1) (by omega), r (145 + 2) (by omega), r 154 (by omega), r (148 + 1) (by omega), r (148 + 2) (by omega), r (151 + 1) (by omega), r (151 + 2) (by omega), F2.1 143 (by omega), F2.1 144 (by omega), F2.1 155 (by omega), F2.1 (145 + 1) (by omega), F2.1 (145 + 2) (by omega), F2.1 154 (by omega), F2.1 (148 + 1) (by omega), F2.1 (148 + 2) (by omega), F2.1 (151 + 1) (by omega), F2.1 (151 + 2) (by omega)]
        exact e5
      · rw [ju_self]
        exact c1
      · rw [r 140 (by omega), F2.2 6 (by omega) (by omega) (by omega) (by omega)]
        exact g7
      · rw [r 140 (by omega), F2.2 7 (by omega) (by omega) (by omega) (by omega)]
        exact g8
    · rw [if_neg q]
      refine cN_p (c_fail 1 g4) (by omega) ?_
      obtain ⟨F3, h3⟩ := crs_fail g4 1 (by omega)
      rcases h3 with ⟨b1, _⟩ | ⟨b1, b2, b3, b4⟩
      · exact absurd b1 (by show ¬ (1 : Int) = 0; omega)
      · exact ⟨Or.inl rfl, F.tr F3, Or.inr ⟨b1, rfl, b3, b4⟩⟩
  · rw [if_pos g1]
    exact ⟨fun x => absurd rfl x, fun _ => ⟨F, Or.inr ⟨g1, rfl, g3, g4⟩⟩⟩
theorem c_readRule (T : TP σ t n) (K : TKC σ t n p) (hp : 0 ≤ p ∧ p ≤ n) (D : DRC σ ρ ho) (V : RIV ρ) (h0 : σ 142 0 = ρ 0) (h20 : ρ 0 < 20) : Cw 15 m_RuleReader_readRule [vR 141] σ (fun z τ => CRT σ τ t n (rRule t n p ρ ho) z) := by
  obtain ⟨⟨O, v1, v2⟩, RK⟩ := V
  have r0 := O.1.1
  have O' := rro_up0 O ⟨r0.1, h20⟩
  have D' : DRC σ (up ρ 0 (ρ 0 + 1)) ho := D.up0 O
  have RK' : RKO (up ρ 0 (ρ 0 + 1)) := rko_eq (fun x a b => up_ne (by omega)) RK
  have u1 : up ρ 0 (ρ 0 + 1) 1 < 20 := by rw [up_ne (by omega)]; omega
  have u2 : up ρ 0 (ρ 0 + 1) 2 < 20 := by rw [up_ne (by omega)]; omega
  have kp := rInn_kp (t := t) (n := n) (p := p) (ho := ho) hp O' RK' u1 u2
  have cnt : (rInn t n p (up ρ 0 (ρ 0 + 1)) ho).1 = 0 → σ 142 0 + 1 = (rInn t n p (up ρ 0 (ρ 0 + 1)) ho).2.2.2.1 0 ∧ 0 ≤ σ 142 0 ∧ σ 142 0 < 20 := fun h => by
    have := (kp h).2.2.2.1
    rw [this, up_self]
    omega
  have ne20 : ¬ ρ 0 = 20 := by omega
  refine Cw_of o_RuleReader_readRule rfl fun l d hd => jwp_sound t_RuleReader_readRule _ (b_RuleReader_readRule_0 ?_)
  simp only [RW, true_and, and_true, and_self, true_or, or_true, Nat.reduceLeDiff, Nat.reduceEqDiff, Nat.reduceAdd, Int.reduceLE, Int.reduceLT, Int.reduceEq, Int.reduceNeg, Int.reduceNe, Nat.reduceSub, reduceIte, implies_true, gt_141, gr_141_0, gt_142, gr_141_1, gt_140]
  refine cN_p (c_is (w := 0) (by decide) T K hp) (by omega) ?_
  unfold rRule
  cases b0 : tI t n p (jtb 0) with
  | true =>
    have wh : rWh t n p = 0 := by
      unfold rWh
      rw [b0, if_pos rfl]
    rw [wh, if_neg (by omega), if_neg (by omega), if_neg ne20]
    refine ⟨fun x => absurd x (by decide), fun _ => ?_⟩
    refine cN_w (c_readFold T K hp D' O') (by omega) (fun z τ h => ?_)
    refine l_ru_89 hd T (by unfold rInn; rw [wh, if_pos rfl]; exact h) cnt
  | false =>
    refine ⟨fun _ => ?_, fun x => absurd rfl x⟩
    refine cN_p (c_is (w := 2) (by decide) T K hp) (by omega) ?_
    cases b1 : tI t n p (jtb 2) with
    | true =>
      have wh : rWh t n p = 1 := by
        unfold rWh
        rw [b0, b1, if_neg Bool.false_ne_true, if_pos rfl]
      rw [wh, if_neg (by omega), if_neg (by omega), if_neg ne20]
      refine ⟨fun x => absurd x (by decide), fun _ => ?_⟩
      refine cN_w (c_readStop T K hp D' O' u1) (by omega) (fun z τ h => ?_)
      refine l_ru_89 hd T (by unfold rInn; rw [wh, if_neg (by omega), if_pos rfl]; exact h) cnt
    | false =>
      refine ⟨fun _ => ?_, fun x => absurd rfl x⟩
      refine cN_p (c_is (w := 3) (by decide) T K hp) (by omega) ?_
      cases b2 : tI t n p (jtb 3) with
      | true =>
        have wh : rWh t n p = 2 := by
          unfold rWh
          rw [b0, b1, b2, if_neg Bool.false_ne_true, if_neg Bool.false_ne_true, if_pos rfl]
        rw [wh, if_neg (by omega), if_neg (by omega), if_neg ne20]
        refine ⟨fun x => absurd x (by decide), fun _ => ?_⟩
        refine cN_w (c_readRoot T K hp D' O' u2) (by omega) (fun z τ h => ?_)
        refine l_ru_89 hd T (by unfold rInn; rw [wh, if_neg (by omega), if_neg (by omega), if_pos rfl]; exact h) cnt
      | false =>
        refine ⟨fun _ => ?_, fun x => absurd rfl x⟩
        refine cN_p (c_is (w := 5) (by decide) T K hp) (by omega) ?_
        cases b3 : tI t n p (jtb 5) with
        | true =>
          have wh : rWh t n p = 3 := by
            unfold rWh
            rw [b0, b1, b2, b3, if_neg Bool.false_ne_true, if_neg Bool.false_ne_true, if_neg Bool.false_ne_true, if_pos rfl]
          rw [wh, if_neg (by omega)]
          refine ⟨fun x => absurd x (by decide), fun _ => ?_⟩
          refine cN_w (c_readOrder T K hp D' O') (by omega) (fun z τ h => ?_)
          cases hh : ho with
          | true =>
            rw [if_pos ⟨rfl, rfl⟩]
            rw [hh, if_pos rfl] at h
            have := l_ru_89 (l := l) hd T h (fun x => absurd x (by show ¬ (2 : Int) = 0; omega))
            unfold rSem at this
            rw [if_pos (show (rBD 2 (tS t n p)).1 ≠ 0 by show (2 : Int) ≠ 0; omega)] at this
            exact this
          | false =>
            rw [if_neg (fun x => by cases x.2), if_neg ne20]
            rw [hh] at h cnt
            refine l_ru_89 hd T (by unfold rInn; rw [wh, if_neg (by omega), if_neg (by omega), if_neg (by omega)]; exact h) cnt
        | false =>
          have wh : rWh t n p = 4 := by
            unfold rWh
            rw [b0, b1, b2, b3, if_neg Bool.false_ne_true, if_neg Bool.false_ne_true, if_neg Bool.false_ne_true, if_neg Bool.false_ne_true]
          rw [wh, if_pos rfl]
          refine ⟨fun _ => ?_, fun x => absurd rfl x⟩
          refine cN_p (c_fail 1 K) (by omega) ?_
          have := l_ru_89 (l := l) hd T (crs_fail K 1 (by omega)) (fun x => absurd x (by show ¬ (1 : Int) = 0; omega))
          unfold rSem at this
          rw [if_pos (show (rBD 1 (tS t n p)).1 ≠ 0 by show (1 : Int) ≠ 0; omega)] at this
          exact this
end R5
