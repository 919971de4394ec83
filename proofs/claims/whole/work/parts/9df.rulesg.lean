/-! RULES are read: the reference, ORDER -/
section RH
variable {l : Launch} {d : Nat} {t : Int → Int} {σ : jH} {n p : Int} {ρ : Int → Int} {ho : Bool}
theorem l_mro_44b {τ : jH} {R : RS} {x y : Int} (hd : 12 ≤ d) (B : BDS σ τ R) : Ev (l, (fun _ => 0), 0) d 0 0 m_Model_readOrder (RW fun _ τ => MRS σ τ t n R) 44 [some (vR 189), some (vI x), some (vI y), none] [] gW τ 0 0 := by
  refine jwp_sound t_Model_readOrder _ (b_Model_readOrder_44 ?_)
  simp only [RW, true_and, and_true, and_self, true_or, or_true, Nat.reduceLeDiff, Nat.reduceEqDiff, Nat.reduceAdd, Int.reduceLE, Int.reduceLT, Int.reduceEq, Int.reduceNeg, Int.reduceNe, Nat.reduceSub, reduceIte, implies_true, gt_189, gr_189_14, gt_202, gr_189_24, gt_204]
  refine cN_p (c_good _) (by omega) ?_
  rw [if_neg B.n0]
  refine ⟨fun _ => ?_, fun x => absurd rfl x⟩
  refine cN_p (c_good _) (by omega) ?_
  rw [if_neg B.n0]
  exact ⟨fun x => absurd rfl x, fun _ => B.mrs⟩
theorem l_mro_15 {P : Int → jH → Prop} (hd : 12 ≤ d) (N : ∀ τ : jH, (∀ c, c ≠ 204 → τ c = σ c) → (∀ j, τ 204 j = if 31 ≤ j ∧ j < 57 then -1 else σ 204 j) → Ev (l, (fun _ => 0), 0) d 0 0 m_Model_readOrder (RW P) 44 [some (vR 189), some (vI 0), some (vI (σ 189 19)), none] [] gW τ 0 0) : ∀ (k i : Nat) (τ : jH), i + k = 26 → (∀ c, c ≠ 204 → τ c = σ c) → (∀ j, τ 204 j = if 31 ≤ j ∧ j < 31 + (i : Int) then -1 else σ 204 j) →
    Ev (l, (fun _ => 0), 0) d 0 0 m_Model_readOrder (RW P) 15 [some (vR 189), some (vI i), none, none] [] gW τ 0 0
  | 0, i, τ, hk, F, V => by
    have e : i = 26 := by omega
    subst e
    have := N τ F V
    refine jwp_sound t_Model_readOrder _ (b_Model_readOrder_15 ?_)
    simp only [RW, true_and, and_true, and_self, true_or, or_true, Nat.reduceLeDiff, Nat.reduceEqDiff, Nat.reduceAdd, Int.reduceLE, Int.reduceLT, Int.reduceEq, Int.reduceNeg, Int.reduceNe, Nat.reduceSub, reduceIte, implies_true, gt_189, gr_189_14, gt_202, gr_189_24, gt_204]
    rw [F 189 (by omega)]
    exact ⟨fun _ => this, fun x => absurd x (by omega)⟩
  | k + 1, i, τ, hk, F, V => by
    refine jwp_sound t_Model_readOrder _ (b_Model_readOrder_15 ?_)
    simp only [RW, true_and, and_true, and_self, true_or, or_true, Nat.reduceLeDiff, Nat.reduceEqDiff, Nat.reduceAdd, Int.reduceLE, Int.reduceLT, Int.reduceEq, Int.reduceNeg, Int.reduceNe, Nat.reduceSub, reduceIte, implies_true, gt_189, gr_189_14, gt_202, gr_189_24, gt_204]
    rw [w32_of (x := 31 + (i : Int)) (by omega) (by omega), w32_of (x := (i : Int) + 1) (by omega) (by omega)]
    refine ⟨fun x => absurd x (by omega), fun _ => ⟨by omega, by omega, ?_⟩⟩
    have IH := l_mro_15 hd N k (i + 1) (ju τ 204 (31 + i) (-1)) (by omega) (fun c hc => by rw [ju_row hc, F c hc]) (fun j => by
      by_cases q : j = 31 + i
      · rw [q, ju_self, if_pos (by omega)]
      · rw [ju_ne2 q, V j]
        by_cases x : 31 ≤ j ∧ j < 31 + (i : Int)
        · rw [if_pos x, if_pos (by omega)]
        · rw [if_neg x, if_neg (by omega)])
    rw [show ((i + 1 : Nat) : Int) = (i : Int) + 1 by omega] at IH
    exact IH
theorem l_mro_119 {c : Int} {W : Int → Int} (hd : 12 ≤ d) (T : TP2 σ t n) (hp : 0 ≤ p ∧ p ≤ n) (O : ONJ W c) : ∀ (k i : Nat) (τ : jH), i + k = 26 → FMR σ τ → τ 189 22 = 0 → τ 189 23 = σ 189 23 → TKR τ t n p → EQR (τ 204) (rOth c W i).2 →
    Ev (l, (fun _ => 0), 0) d 0 0 m_Model_readOrder (RW fun _ τ => MRS σ τ t n (rOK (tN t n p) (rOth c W 26).2 true)) 119 [some (vR 189), some (vI (rOth c W i).1), some (vI i), none] [] gW τ 0 0
  | 0, i, τ, hk, F, g, g23, K, E => by
    have e : i = 26 := by omega
    subst e
    have p1 := tN_in (t := t) hp
    refine jwp_sound t_Model_readOrder _ (b_Model_readOrder_119 ?_)
    simp only [RW, true_and, and_true, and_self, true_or, or_true, Nat.reduceLeDiff, Nat.reduceEqDiff, Nat.reduceAdd, Int.reduceLE, Int.reduceLT, Int.reduceEq, Int.reduceNeg, Int.reduceNe, Nat.reduceSub, reduceIte, implies_true, gt_189, gr_189_14, gt_202, gr_189_24, gt_204]
    refine ⟨fun _ => ?_, fun x => absurd x (by omega)⟩
    have K2 : TKR (ju τ 189 25 1) t n p := by
      unfold TKR
      simp (disch := omega) only [ju_ne2]
      exact K
    have T2 : TP2 (ju τ 189 25 1) t n := by
      unfold TP2
      rw [ju_row (by omega)]
      exact T.fmr F
    have F2 : FMR τ (ju τ 189 25 1) := ⟨fun c a _ => ju_row a, fun j hj => ju_ne2 (by omega)⟩
    refine cN_w (c_step T2 K2 hp) (by omega) (fun _ υ h => ?_)
    obtain ⟨F3, K3⟩ := h
    refine ⟨F.tr (F2.tr F3.fmr), Or.inl ⟨rfl, ?_, ?_, p1, K3, ?_, ?_⟩⟩
    · rw [F3.2 22 (by omega) (by omega) (by omega) (by omega), ju_ne2 (by omega)]
      exact g
    · rw [F3.2 23 (by omega) (by omega) (by omega) (by omega), ju_ne2 (by omega)]
      exact g23
    · rw [F3.1 204 (by omega), ju_row (by omega)]
      exact E
    · rw [F3.2 25 (by omega) (by omega) (by omega) (by omega), ju_self]
      rfl
  | k + 1, i, τ, hk, F, g, g23, K, E => by
    obtain ⟨h1, h2, h3, h4⟩ := rOth_ok O i (by omega)
    have IH := fun υ a b c e f => l_mro_119 hd T hp O k (i + 1) υ (by omega) a b c e f
    rw [show ((i + 1 : Nat) : Int) = (i : Int) + 1 by omega] at IH
    refine jwp_sound t_Model_readOrder _ (b_Model_readOrder_119 ?_)
    simp only [RW, true_and, and_true, and_self, true_or, or_true, Nat.reduceLeDiff, Nat.reduceEqDiff, Nat.reduceAdd, Int.reduceLE, Int.reduceLT, Int.reduceEq, Int.reduceNeg, Int.reduceNe, Nat.reduceSub, reduceIte, implies_true, gt_189, gr_189_14, gt_202, gr_189_24, gt_204]
    rw [w32_of (x := 31 + (i : Int)) (by omega) (by omega), w32_of (x := (i : Int) + 1) (by omega) (by omega), E (31 + i) (by omega) (by omega) (by omega) (by omega)]
    refine ⟨fun x => absurd x (by omega), fun _ => ⟨by omega, by omega, fun q => ?_, fun q => ?_⟩⟩
    · have e : rOth c W (i + 1) = ((rOth c W i).1 + 1, up (rOth c W i).2 (31 + i) (rOth c W i).1) := if_pos q
      obtain ⟨s1, s2, s3⟩ := onj_s (x := i) (by omega) (by omega) q h1
      rw [e] at IH
      rw [w32_of (x := (rOth c W i).1 + 1) (by omega) (by omega)]
      refine ⟨by omega, by omega, IH _ (F.tr ⟨fun c _ b => ju_row b, fun j _ => by rw [ju_row (by omega)]⟩) (by rw [ju_row (by omega)]; exact g) (by rw [ju_row (by omega)]; exact g23) (by
        unfold TKR
        rw [ju_row (by omega)]
        exact K) (by rw [ju_upr]; exact E.upd)⟩
    · have e : rOth c W (i + 1) = rOth c W i := if_neg q
      rw [e] at IH
      exact IH τ F g g23 K E
theorem l_mro_44 (hd : 12 ≤ d) (T : TP2 σ t n) (hp : 0 ≤ p ∧ p ≤ n) (q1 : tK t n p = 1) : ∀ (k i : Nat) (W : Int → Int) (τ : jH), (i : Int) + k = tN t n p - tS t n p → FMR σ τ → τ 189 22 = 0 → τ 189 23 = σ 189 23 → TKR τ t n p → EQR (τ 204) W → ONJ W i →
    Ev (l, (fun _ => 0), 0) d 0 0 m_Model_readOrder (RW fun _ τ => MRS σ τ t n (rLet t n p k i W)) 44 [some (vR 189), some (vI i), some (vI (tS t n p + i)), none] [] gW τ 0 0
  | 0, i, W, τ, hk, F, g, g23, K, E, O => by
    refine jwp_sound t_Model_readOrder _ (b_Model_readOrder_44 ?_)
    simp only [RW, true_and, and_true, and_self, true_or, or_true, Nat.reduceLeDiff, Nat.reduceEqDiff, Nat.reduceAdd, Int.reduceLE, Int.reduceLT, Int.reduceEq, Int.reduceNeg, Int.reduceNe, Nat.reduceSub, reduceIte, implies_true, gt_189, gr_189_14, gt_202, gr_189_24, gt_204]
    refine cN_p (c_good _) (by omega) ?_
    rw [if_pos g, K.1.2.2.1]
    refine ⟨fun x => absurd x (by omega), fun _ => ⟨fun _ => ?_, fun x => absurd x (by omega)⟩⟩
    refine cN_p (c_good _) (by omega) ?_
    rw [if_pos g]
    refine ⟨fun _ => ?_, fun x => absurd x (by omega)⟩
    exact l_mro_119 hd T hp O 26 0 τ rfl F g g23 K E
  | k + 1, i, W, τ, hk, F, g, g23, K, E, O => by
    have r := tS_r (t := t) hp.2
    have r2 := tN_r (t := t) hp.2
    have Tτ := T.fmr F
    have gl := tK_l hp.2 q1 (tS t n p + i) (by omega) (by omega)
    have tv := (Tτ.2 (tS t n p + i) (by omega) (by omega)).1
    have n4 := Tτ.1
    refine jwp_sound t_Model_readOrder _ (b_Model_readOrder_44 ?_)
    simp only [RW, true_and, and_true, and_self, true_or, or_true, Nat.reduceLeDiff, Nat.reduceEqDiff, Nat.reduceAdd, Int.reduceLE, Int.reduceLT, Int.reduceEq, Int.reduceNeg, Int.reduceNe, Nat.reduceSub, reduceIte, implies_true, gt_189, gr_189_14, gt_202, gr_189_24, gt_204]
    refine cN_p (c_good _) (by omega) ?_
    rw [if_pos g, K.1.2.2.1, tv, w32_of (x := t (tS t n p + i) - 97) (by omega) (by omega), w32_of (x := 31 + (t (tS t n p + i) - 97)) (by omega) (by omega), w32_of (x := (i : Int) + 1) (by omega) (by omega), w32_of (x := tS t n p + (i : Int) + 1) (by omega) (by omega), E (31 + (t (tS t n p + i) - 97)) (by omega) (by omega) (by omega) (by omega)]
    simp only [rLet]
    refine ⟨fun x => absurd x (by omega), fun _ => ⟨fun x => absurd x (by omega), fun _ => ⟨by omega, by omega, by omega, by omega, fun q => ⟨by omega, by omega, ?_⟩, fun q => ?_⟩⟩⟩
    · obtain ⟨s1, s2, s3⟩ := onj_s (x := t (tS t n p + i) - 97) (by omega) (by omega) q O
      rw [if_neg (fun x => x q)]
      have IH := l_mro_44 hd T hp q1 k (i + 1) (up W (31 + (t (tS t n p + i) - 97)) i) (ju τ 204 (31 + (t (tS t n p + i) - 97)) i) (by omega) (F.tr ⟨fun c _ b => ju_row b, fun j _ => by rw [ju_row (by omega)]⟩) (by rw [ju_row (by omega)]; exact g) (by rw [ju_row (by omega)]; exact g23) (by
        unfold TKR
        rw [ju_row (by omega)]
        exact K) (by rw [ju_upr]; exact E.upd) (by rw [show ((i + 1 : Nat) : Int) = (i : Int) + 1 by omega]; exact s1)
      rw [show ((i + 1 : Nat) : Int) = (i : Int) + 1 by omega, show tS t n p + ((i : Int) + 1) = tS t n p + (i : Int) + 1 by omega] at IH
      exact IH
    · rw [if_pos q]
      refine cN_v (c_wrong_g 2 g K) (by omega) (fun _ => ?_)
      exact l_mro_44b hd (bds_wr (by omega) F)
theorem c_mreadOrder (g : σ 189 22 = 0) (T : TP2 σ t n) (K : TKR σ t n p) (hp : 0 ≤ p ∧ p ≤ n) (E : EQR (σ 204) ρ) : Cw 12 m_Model_readOrder [vR 189] σ (fun _ τ => MRS σ τ t n (if tK t n p ≠ 1 then rBD 1 (tS t n p) else rLet t n p (tN t n p - tS t n p).toNat 0 (rCl ρ))) := by
  have r2 := tN_r (t := t) hp.2
  have tr := (tK_r (t := t) (n := n) (p := p)).2
  refine Cw_of o_Model_readOrder rfl fun l d hd => jwp_sound t_Model_readOrder _ (b_Model_readOrder_0 ?_)
  simp only [RW, true_and, and_true, and_self, true_or, or_true, Nat.reduceLeDiff, Nat.reduceEqDiff, Nat.reduceAdd, Int.reduceLE, Int.reduceLT, Int.reduceEq, Int.reduceNeg, Int.reduceNe, Nat.reduceSub, reduceIte, implies_true, gt_189, gr_189_14, gt_202, gr_189_24, gt_204]
  rw [K.1.2.2.2]
  refine ⟨fun y => ?_, fun y => ?_⟩
  · have y1 := (tokc_1 tr).mp y
    rw [if_neg (fun x => x y1)]
    refine l_mro_15 (σ := σ) hd (fun τ F V => ?_) 26 0 σ rfl (fun _ _ => rfl) (fun j => by rw [if_neg (by omega)])
    rw [K.1.2.1]
    have go := l_mro_44 (l := l) (σ := σ) hd T hp y1 (tN t n p - tS t n p).toNat 0 (rCl ρ) τ (by omega) ⟨fun c _ b => F c b, fun j _ => by rw [F 189 (by omega)]⟩ (by rw [F 189 (by omega)]; exact g) (by rw [F 189 (by omega)]) (by
      unfold TKR
      rw [F 189 (by omega)]
      exact K) (fun j a b c e => by
        rw [V j]
        unfold rCl
        by_cases q : 31 ≤ j ∧ j < 57
        · rw [if_pos q, if_pos q]
        · rw [if_neg q, if_neg q]
          exact E j a b c e) (onj_0 (fun x a b => rCl_in a b))
    rw [show tS t n p + ((0 : Nat) : Int) = tS t n p by omega] at go
    exact go
  · have y1 : tK t n p ≠ 1 := fun x => y ((tokc_1 tr).mpr x)
    rw [if_pos y1]
    refine cN_v (c_wrong_g 1 g K) (by omega) (fun _ => ?_)
    refine l_mro_15 (σ := WR σ 1 (tS t n p)) hd (fun τ F V => ?_) 26 0 _ rfl (fun _ _ => rfl) (fun j => by rw [if_neg (by omega)])
    exact l_mro_44b hd ((bds_wr (by omega) ⟨fun _ _ _ => rfl, fun _ _ => rfl⟩).row F)
end RH
