/-! RULES are read: the class, one after another -/
section R9
variable {l : Launch} {d : Nat} {t : Int → Int} {σ : jH} {n p : Int} {ρ ρ0 : Int → Int} {ho : Bool}
theorem l_rd_48 {τ : jH} (hd : 16 ≤ d) (T : TP σ t n) (B : KBD σ) (hp : 0 ≤ p ∧ p ≤ n) (F : FRD σ τ) (G : τ 140 6 = σ 140 6 ∧ τ 140 7 = σ 140 7) (K : TKC τ t n p) (D : DRC τ ρ ho) (V : RIV ρ) (h0 : τ 142 0 = ρ 0) (X : RFX ρ0 ρ) (h : tK t n p ≠ 0 → ρ 0 = 20) :
    Ev (l, (fun _ => 0), 0) d 0 0 m_RuleReader_read (RW fun z τ => CRA σ τ ρ0 (if tK t n p = 0 then rOK p ρ ho else rRule t n p ρ ho) z) 48 [some (vR 141), none, none] [] gW τ 0 0 := by
  have Tτ := T.eq (F.1 2 (by omega) (by omega))
  refine jwp_sound t_RuleReader_read _ (b_RuleReader_read_48 ?_)
  simp only [RW, true_and, and_true, and_self, true_or, or_true, Nat.reduceLeDiff, Nat.reduceEqDiff, Nat.reduceAdd, Int.reduceLE, Int.reduceLT, Int.reduceEq, Int.reduceNeg, Int.reduceNe, Nat.reduceSub, reduceIte, implies_true, gt_141, gr_141_0, gt_142, gr_141_1, gt_140]
  rw [K.1.2.2.2]
  refine ⟨fun q => ?_, fun q => ?_⟩
  · rw [if_pos q]
    refine cN_w (c_foldAll D (F.kb B) V h0) (by omega) (fun _ υ h => ?_)
    obtain ⟨r1, r2, r3, r4⟩ := h
    exact ⟨⟨fun c a b => by rw [r4 c (by omega), F.1 c a b], fun _ => r3⟩, Or.inl ⟨rfl, rfl, r1, r2, V, X, by rw [r4 140 (by omega)]; exact G.1, by rw [r4 140 (by omega)]; exact G.2⟩⟩
  · rw [if_neg q]
    refine cN_w (c_refuseFurther Tτ K hp D.1.2.2.2 (h q)) (by omega) (fun _ υ h => ?_)
    obtain ⟨F2, r1, rfl, r3, r4⟩ := h
    exact ⟨Or.inl rfl, F.tr F2, Or.inr ⟨r1, rfl, r3, r4⟩⟩
theorem l_rd_17 (hd : 16 ≤ d) (T : TP σ t n) (B : KBD σ) : ∀ (k i : Nat) (p : Int) (τ : jH) (ρ : Int → Int) (ho : Bool), i + k = 20 → (0 ≤ p ∧ p ≤ n) → FRD σ τ → (τ 140 6 = σ 140 6 ∧ τ 140 7 = σ 140 7) → TKC τ t n p → DRC τ ρ ho → RIV ρ → τ 142 0 = ρ 0 → ρ 0 = i → RFX ρ0 ρ →
    Ev (l, (fun _ => 0), 0) d 0 0 m_RuleReader_read (RW fun z τ => CRA σ τ ρ0 (rAll t n (k + 1) p ρ ho) z) 17 [some (vR 141), none, some (vI i)] [] gW τ 0 0
  | 0, i, p, τ, ρ, ho, hk, hp, F, G, K, D, V, h0, hi, X => by
    have e : (if tK t n p = 0 then rOK p ρ ho else rRule t n p ρ ho) = rAll t n (0 + 1) p ρ ho := by
      simp only [rAll]
      by_cases q : tK t n p = 0
      · rw [if_pos q, if_pos q]
      · rw [if_neg q, if_neg q]
        have : (rRule t n p ρ ho).1 ≠ 0 := fun x => by
          have := (rRule_kp hp V x).2.2.2
          omega
        rw [if_pos this]
    refine jwp_sound t_RuleReader_read _ (b_RuleReader_read_17 ?_)
    simp only [RW, true_and, and_true, and_self, true_or, or_true, Nat.reduceLeDiff, Nat.reduceEqDiff, Nat.reduceAdd, Int.reduceLE, Int.reduceLT, Int.reduceEq, Int.reduceNeg, Int.reduceNe, Nat.reduceSub, reduceIte, implies_true, gt_141, gr_141_0, gt_142, gr_141_1, gt_140]
    refine ⟨fun _ => ?_, fun q => absurd q (by omega)⟩
    have go := l_rd_48 (l := l) hd T B hp F G K D V h0 X (fun _ => by omega)
    rw [e] at go
    exact go
  | k + 1, i, p, τ, ρ, ho, hk, hp, F, G, K, D, V, h0, hi, X => by
    have Tτ := T.eq (F.1 2 (by omega) (by omega))
    refine jwp_sound t_RuleReader_read _ (b_RuleReader_read_17 ?_)
    simp only [RW, true_and, and_true, and_self, true_or, or_true, Nat.reduceLeDiff, Nat.reduceEqDiff, Nat.reduceAdd, Int.reduceLE, Int.reduceLT, Int.reduceEq, Int.reduceNeg, Int.reduceNe, Nat.reduceSub, reduceIte, implies_true, gt_141, gr_141_0, gt_142, gr_141_1, gt_140]
    rw [K.1.2.2.2, w32_of (x := (i : Int) + 1) (by omega) (by omega)]
    refine ⟨fun q => absurd q (by omega), fun _ => ⟨fun q => ?_, fun q => ?_⟩⟩
    · have go := l_rd_48 (l := l) hd T B hp F G K D V h0 X (fun x => absurd q x)
      rw [if_pos q] at go
      have e : rAll t n (k + 1 + 1) p ρ ho = rOK p ρ ho := by
        rw [rAll, if_pos q]
      rw [e]
      exact go
    · have e : rAll t n (k + 1 + 1) p ρ ho = if (rRule t n p ρ ho).1 ≠ 0 then rRule t n p ρ ho else rAll t n (k + 1) (rRule t n p ρ ho).2.2.1 (rRule t n p ρ ho).2.2.2.1 (rRule t n p ρ ho).2.2.2.2 := by
        rw [rAll, if_neg q]
      rw [e]
      refine cN_w (c_readRule Tτ K hp D V h0 (by omega)) (by omega) (fun z υ h => ?_)
      obtain ⟨F2, h⟩ := h
      rcases h with ⟨g1, rfl, g3, g4, g5, g6, g7, g8⟩ | ⟨g1, rfl, g3, g4⟩
      · obtain ⟨k1, k2, k3, k4⟩ := rRule_kp hp V g1
        rw [if_neg (fun x => x g1)]
        refine ⟨fun _ => ?_, fun x => absurd x (by omega)⟩
        have IH := l_rd_17 hd T B k (i + 1) _ υ _ _ (by omega) g3 (F.tr F2) ⟨g7.trans G.1, g8.trans G.2⟩ g4 g5 k1 g6 (by omega) (X.tr k2)
        rw [show ((i + 1 : Nat) : Int) = (i : Int) + 1 by omega] at IH
        exact IH
      · rw [if_pos g1]
        exact ⟨fun x => absurd rfl x, fun _ => ⟨F.tr F2, Or.inr ⟨g1, rfl, g3, g4⟩⟩⟩
theorem c_readRules (T : TP σ t n) (B : KBD σ) (ρ0 : Int → Int) : Cw 16 m_RuleReader_read [vR 141, vI n] σ (fun z τ => (∀ c, c ≠ 140 → (c < 142 ∨ 156 < c) → τ c = σ c) ∧ KBD τ ∧ (((rAll t n 21 0 (plainR ρ0) false).1 = 0 ∧ z = 1 ∧ RLS τ 142 (rAll t n 21 0 (plainR ρ0) false).2.2.2.1 ∧ DRL τ (rAll t n 21 0 (plainR ρ0) false).2.2.2.1 (rAll t n 21 0 (plainR ρ0) false).2.2.2.2 ∧ RIV (rAll t n 21 0 (plainR ρ0) false).2.2.2.1 ∧ RFX ρ0 (rAll t n 21 0 (plainR ρ0) false).2.2.2.1 ∧ τ 140 6 = 0 ∧ τ 140 7 = -1) ∨ ((rAll t n 21 0 (plainR ρ0) false).1 ≠ 0 ∧ z = 0 ∧ τ 140 6 = (rAll t n 21 0 (plainR ρ0) false).1 ∧ τ 140 7 = (rAll t n 21 0 (plainR ρ0) false).2.1))) := by
  refine Cw_of o_RuleReader_read rfl fun l d hd => jwp_sound t_RuleReader_read _ (b_RuleReader_read_0 ?_)
  simp only [RW, true_and, and_true, and_self, true_or, or_true, Nat.reduceLeDiff, Nat.reduceEqDiff, Nat.reduceAdd, Int.reduceLE, Int.reduceLT, Int.reduceEq, Int.reduceNeg, Int.reduceNe, Nat.reduceSub, reduceIte, implies_true, gt_141, gr_141_0, gt_142, gr_141_1, gt_140]
  refine cN_w (c_open T) (by omega) (fun _ τ1 h1 => ?_)
  obtain ⟨F1, K1, g6, g7⟩ := h1
  refine cN_w (c_Rules_clear τ1 ρ0) (by omega) (fun _ τ2 h2 => ?_)
  obtain ⟨D2, z2, F2⟩ := h2
  have B2 : KBD τ2 := B.eq (fun c a b => by rw [F2 c (by omega), F1 c (by omega)])
  have T2 : TP τ2 t n := T.eq (by rw [F2 2 (by omega), F1 2 (by omega)])
  have K2 : TKC τ2 t n 0 := K1.eq (F2 140 (by omega))
  have z0 : plainR ρ0 0 = 0 := by
    unfold plainR
    rw [if_neg (by omega), if_neg (by omega), if_pos (by omega), if_neg (by omega)]
  have e6 : τ2 140 6 = 0 := by rw [F2 140 (by omega)]; exact g6
  have e7 : τ2 140 7 = -1 := by rw [F2 140 (by omega)]; exact g7
  have go := l_rd_17 (l := l) (σ := τ2) (ρ0 := ρ0) hd T2 B2 20 0 0 τ2 (plainR ρ0) false rfl ⟨by omega, T.1.1⟩ (.kp (fun _ _ _ => rfl) (fun _ _ _ => rfl)) ⟨rfl, rfl⟩ K2 D2 plainR_riv (by rw [z2, z0]) z0 plainR_rfx
  refine Ev_post go (fun z υ h => ?_)
  obtain ⟨F3, h⟩ := h
  rw [e6, e7] at h
  refine ⟨fun c a b => by rw [F3.1 c a b, F2 c (by omega), F1 c a], F3.kb B2, ?_⟩
  rcases h with ⟨a1, a2, a3, a4, a5, a6, a7, a8⟩ | h
  · exact Or.inl ⟨a1, a2, a3, a4, a5, a6, a7, a8⟩
  · exact Or.inr h
end R9
