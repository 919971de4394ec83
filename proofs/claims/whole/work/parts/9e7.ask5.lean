/-! ASKS: the class reads a row of words -/
theorem tK_n0 {t : Int → Int} {n p : Int} (hp : p ≤ n) (h : tK t n p ≠ 0) : tS t n p < n ∧ p + 1 ≤ tN t n p := by
  have r := tS_r (t := t) hp
  have r2 := tN_r (t := t) hp
  have : tS t n p < n := by
    unfold tK tKs at h
    by_cases q : n ≤ tS t n p
    · rw [if_pos q] at h
      exact absurd rfl h
    · omega
  exact ⟨this, by omega⟩
theorem kP_r {ω t : Int → Int} {n p : Int} (h : okρ (fo ω)) : 0 ≤ kP ω t n p ∧ kP ω t n p < 1267650600228229401496703205376 := km_r h _
section AQ
variable {l : Launch} {d : Nat} {ω t : Int → Int} {σ : jH} {e n p c : Int}
theorem cN_key {Q : Int → jH → Prop} (hd1 : 11 < d) (hd2 : 11 < d) (A : AEN σ ω e t n) (fk : okρ (fo ω)) (K : TKC σ t n p) (hp : 0 ≤ p ∧ p ≤ n) (q : tK t n p = 1) (h : ∀ z χ, (∀ c', c' ≠ 158 → χ c' = σ c') → χ 158 0 = kP ω t n p / 1125899906842624 → χ 158 1 = kP ω t n p % 1125899906842624 → Q z χ) : cN l d m_Tokens_readInto [vR 140, vR 158] gW σ (fun _ σ1 => cN l d m_Key_map [vR 158, vR 5] gW σ1 (fun z χ => Q z χ)) := by
  have w := wrd_at (ρ := fun _ => 0) (A := 0) hp q
  have rr := rk_r w.1
  rw [w.2.1] at rr
  refine cN_w (c_readInto (o := 158) gt_158 ⟨by omega, by omega⟩ A.1 K hp q) hd1 (fun _ τ hh => ?_)
  obtain ⟨⟨k1, k2, k3, k4, k5, k6, k7⟩, F⟩ := hh
  have e5 : τ 5 = σ 5 := F 5 (by omega)
  have ok5 : okρ (τ 5) := fun x a b => by
    rw [e5, A.2.2.2.1 x a b]
    exact fk x a b
  refine cN_w (c_Key_map (o := 158) gt_158 gt_5 (by omega) ok5 (by rw [k5]; omega) (by rw [k6]; omega)) hd2 (fun z χ hh => ?_)
  subst hh
  obtain ⟨d1, d2⟩ := km_div fk (wK t n p).1
  have eq : ∀ x, 0 ≤ x → x < 26 → τ 5 x = fo ω x := fun x a b => by
    rw [e5, A.2.2.2.1 x a b]
  refine h z _ (fun c' hc' => by rw [ju_row hc', ju_row hc', F c' hc']) ?_ ?_
  · unfold kP
    rw [ju_ne2 (by omega), ju_self, k5, d1, hm_eq eq]
  · unfold kP
    rw [ju_self, k6, d2, hm_eq eq]
theorem l_rp_96 {W u : Int} {S : Int → Bool} {τ : jH} (hd : 13 ≤ d) (T : TP τ t n) (hc : isSet c) (hp : 0 ≤ p ∧ p ≤ n) (F : ASF c σ τ) (K : TKC τ t n p) (G : τ 157 5 = u ∧ τ 140 6 = σ 140 6 ∧ τ 140 7 = σ 140 7) (V : SET τ c W S) :
    Ev (l, (fun _ => 0), 0) d 0 0 m_Asker_readPhrase (RW fun z τ => CAS c σ τ t n W (if tK t n p = 34 then aOK (tN t n p) u S else aBD 1 (tS t n p)) z) 96 [some (vR 157), none, none] [] gW τ 0 0 := by
  have hcc := hc
  unfold isSet at hcc
  refine jwp_sound t_Asker_readPhrase _ (b_Asker_readPhrase_96 ?_)
  simp only [RW, true_and, and_true, and_self, true_or, or_true, Nat.reduceLeDiff, Nat.reduceEqDiff, Nat.reduceAdd, Int.reduceLE, Int.reduceLT, Int.reduceEq, Int.reduceNeg, Int.reduceNe, Nat.reduceSub, reduceIte, implies_true, gt_157, gr_157_0, gt_140, gr_157_1, gt_4, gr_157_3, gt_158, gr_4_1, gt_5]
  rw [K.1.2.2.2]
  refine ⟨fun q => ?_, fun q => ?_⟩
  · rw [if_pos q]
    refine cN_w (c_advance T K hp) (by omega) (fun _ υ h => ?_)
    obtain ⟨F2, K2⟩ := h
    refine ⟨F.tr ⟨fun c' a _ _ _ => F2.1 c' a, fun j _ => by rw [F2.1 157 (by omega)]⟩, Or.inl ⟨rfl, rfl, tN_in hp, K2, ?_, ?_, ?_, ?_⟩⟩
    · rw [F2.1 157 (by omega)]
      exact G.1
    · intro q' a b
      rw [F2.1 c (by omega)]
      exact V q' a b
    · rw [F2.2 6 (by omega) (by omega) (by omega) (by omega)]
      exact G.2.1
    · rw [F2.2 7 (by omega) (by omega) (by omega) (by omega)]
      exact G.2.2
  · rw [if_neg q]
    refine cN_p (c_fail 1 K) (by omega) ?_
    exact ⟨Or.inl rfl, CAS.pre F G.2.1 G.2.2 (cas_fail K 1 (by omega) hc)⟩
theorem l_rp_34 {u : Int} (hd : 13 ≤ d) (A : AEN σ ω e t n) (W : OKW ω) (he : 0 ≤ e ∧ e ≤ 1) (hc : isSet c) : ∀ (k i : Nat) (p : Int) (τ : jH) (S : Int → Bool), i + k = 401 → (i : Int) + 1 ≤ p → (0 ≤ p ∧ p ≤ n) → ASF c σ τ → TKC τ t n p → (τ 157 5 = u ∧ τ 140 6 = σ 140 6 ∧ τ 140 7 = σ 140 7) → SET τ c (wW ω e).1 S →
    Ev (l, (fun _ => 0), 0) d 0 0 m_Asker_readPhrase (RW fun z τ => CAS c σ τ t n (wW ω e).1 (aPh ω t e n u k i p S) z) 34 [some (vR 157), some (vR c), some (vI i)] [] gW τ 0 0
  | 0, i, p, τ, S, hi, ip, hp, F, K, G, V => by
    have := A.1.1
    omega
  | k + 1, i, p, τ, S, hi, ip, hp, F, K, G, V => by
    have hcc := hc
    unfold isSet at hcc
    have n4 := A.1.1
    have Aτ := A.of hc F
    simp only [aPh]
    refine jwp_sound t_Asker_readPhrase _ (b_Asker_readPhrase_34 ?_)
    simp only [RW, true_and, and_true, and_self, true_or, or_true, Nat.reduceLeDiff, Nat.reduceEqDiff, Nat.reduceAdd, Int.reduceLE, Int.reduceLT, Int.reduceEq, Int.reduceNeg, Int.reduceNe, Nat.reduceSub, reduceIte, implies_true, gt_157, gr_157_0, gt_140, gr_157_1, gt_4, gr_157_3, gt_158, gr_4_1, gt_5]
    rw [K.1.2.2.2]
    have L96 := l_rp_96 (l := l) (d := d) (σ := σ) (c := c) (p := p) (W := (wW ω e).1) hd Aτ.1 hc hp F K G V
    refine ⟨fun _ => ?_, fun _ => ⟨fun q => ?_, fun q => ?_⟩⟩
    · have q : tK t n p ≠ 1 := fun x => by
        have := tK_n0 hp.2 (show tK t n p ≠ 0 by omega)
        have := tS_r (t := t) hp.2
        omega
      rw [if_neg q]
      exact L96
    · rw [if_neg q]
      exact L96
    · rw [if_pos q]
      have g1 := tK_n0 hp.2 (show tK t n p ≠ 0 by omega)
      have g2 := tS_r (t := t) hp.2
      refine cN_key (by omega) (by omega) Aτ W.2.2.1 K hp q (fun z χ Fχ k0 k1 => ?_)
      have Hχ : CDR χ ω := CDR_eq (fun c' a b => Fχ c' (by omega)) Aτ.2.1
      refine cN_w (c_keepFollowed (b := i) Hχ W he (by rw [Fχ 157 (by omega)]; exact Aτ.2.2.1) hc ⟨k0, k1⟩ ⟨by omega, by omega⟩) (by omega) (fun _ ξ h => ?_)
      obtain ⟨F3, V3⟩ := h
      have Kξ : TKC ξ t n p := K.eq (by rw [F3 140 (by omega), Fχ 140 (by omega)])
      have Tξ : TP ξ t n := Aτ.1.eq (by rw [F3 2 (by omega), Fχ 2 (by omega)])
      refine cN_w (c_advance Tξ Kξ hp) (by omega) (fun _ υ h => ?_)
      obtain ⟨F4, K4⟩ := h
      rw [w32_of (x := (i : Int) + 1) (by omega) (by omega)]
      have G2 : υ 157 5 = u ∧ υ 140 6 = σ 140 6 ∧ υ 140 7 = σ 140 7 := ⟨by rw [F4.1 157 (by omega), F3 157 (by omega), Fχ 157 (by omega)]; exact G.1, by rw [F4.2 6 (by omega) (by omega) (by omega) (by omega), F3 140 (by omega), Fχ 140 (by omega)]; exact G.2.1, by rw [F4.2 7 (by omega) (by omega) (by omega) (by omega), F3 140 (by omega), Fχ 140 (by omega)]; exact G.2.2⟩
      have IH := l_rp_34 hd A W he hc k (i + 1) (tN t n p) υ (fun q => S q && decide (q + i < (wW ω e).1 ∧ KEY ω e (q + i) = kP ω t n p)) (by omega) (by omega) (tN_in hp) (F.tr ⟨fun c' a b f g => by rw [F4.1 c' a, F3 c' (by omega), Fχ c' f], fun j _ => by rw [F4.1 157 (by omega), F3 157 (by omega), Fχ 157 (by omega)]⟩) K4 G2 (fun q' a b => by
        show υ c q' = b2i (S q' && decide (q' + (i : Int) < (wW ω e).1 ∧ KEY ω e (q' + i) = kP ω t n p))
        rw [F4.1 c (by omega), V3 q' a b, Fχ c (by omega), V q' a b]
        by_cases g : q' + (i : Int) < (wW ω e).1 ∧ KEY ω e (q' + i) = kP ω t n p
        · rw [if_pos g, decide_eq_true g, Bool.and_true]
        · rw [if_neg g, decide_eq_false g, Bool.and_false]
          rfl)
      rw [show ((i + 1 : Nat) : Int) = (i : Int) + 1 by omega] at IH
      exact IH
theorem c_readPhrase {u : Int} (A : AEN σ ω e t n) (W : OKW ω) (he : 0 ≤ e ∧ e ≤ 1) (hc : isSet c) (K : TKC σ t n p) (hp : 0 ≤ p ∧ p ≤ n) (q34 : tK t n p = 34) (hu : σ 157 5 = u) : Cw 13 m_Asker_readPhrase [vR 157, vR c] σ (fun z τ => CAS c σ τ t n (wW ω e).1 (if tK t n (tN t n p) ≠ 1 then aBD 1 (tS t n (tN t n p)) else aPh ω t e n u 401 0 (tN t n p) (fun _ => true)) z) := by
  have hcc := hc
  unfold isSet at hcc
  have w := W.n he
  have g1 := tK_n0 hp.2 (show tK t n p ≠ 0 by omega)
  have p1 := tN_in (t := t) hp
  refine Cw_of o_Asker_readPhrase rfl fun l d hd => jwp_sound t_Asker_readPhrase _ (b_Asker_readPhrase_0 ?_)
  simp only [RW, true_and, and_true, and_self, true_or, or_true, Nat.reduceLeDiff, Nat.reduceEqDiff, Nat.reduceAdd, Int.reduceLE, Int.reduceLT, Int.reduceEq, Int.reduceNeg, Int.reduceNe, Nat.reduceSub, reduceIte, implies_true, gt_157, gr_157_0, gt_140, gr_157_1, gt_4, gr_157_3, gt_158, gr_4_1, gt_5]
  refine cN_v (c_Arrays_fill2 (n := 300) 1 _ (gt_set hc) (by omega) (by omega) (by decide)) (by omega) (fun _ => ?_)
  have fr : ∀ c', c' ≠ c → jfill σ c 0 300 1 c' = σ c' := fun c' h => jfill_row h
  have F0 : ASF c σ (jfill σ c 0 300 1) := ⟨fun c' _ _ _ h => fr c' (by omega), fun j _ => by rw [fr 157 (by omega)]⟩
  have T0 : TP (jfill σ c 0 300 1) t n := A.1.eq (fr 2 (by omega))
  have K0 : TKC (jfill σ c 0 300 1) t n p := K.eq (fr 140 (by omega))
  refine cN_w (c_advance T0 K0 hp) (by omega) (fun _ τ h => ?_)
  obtain ⟨F1, K1⟩ := h
  have F01 : ASF c σ τ := F0.tr ⟨fun c' a _ _ _ => F1.1 c' a, fun j _ => by rw [F1.1 157 (by omega)]⟩
  have G : τ 157 5 = u ∧ τ 140 6 = σ 140 6 ∧ τ 140 7 = σ 140 7 := ⟨by rw [F1.1 157 (by omega), fr 157 (by omega)]; exact hu, by rw [F1.2 6 (by omega) (by omega) (by omega) (by omega), fr 140 (by omega)], by rw [F1.2 7 (by omega) (by omega) (by omega) (by omega), fr 140 (by omega)]⟩
  rw [K1.1.2.2.2]
  refine ⟨fun q => ?_, fun q => ?_⟩
  · rw [if_neg (fun x => x q)]
    have go := l_rp_34 (l := l) (σ := σ) (u := u) hd A W he hc 401 0 (tN t n p) τ (fun _ => true) rfl (by omega) p1 F01 K1 G (fun q' a b => by
      rw [F1.1 c (by omega), jfill_in a (by omega)]
      rfl)
    exact go
  · rw [if_pos q]
    refine cN_p (c_fail 1 K1) (by omega) ?_
    exact ⟨Or.inl rfl, CAS.pre F01 G.2.1 G.2.2 (cas_fail K1 1 (by omega) hc)⟩
end AQ
