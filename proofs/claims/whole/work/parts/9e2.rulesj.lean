/-! RULES are read: the reference's call -/
section RK2
variable {l : Launch} {d : Nat} {t : Int → Int} {σ : jH} {n p : Int} {ρ ω : Int → Int} {ho : Bool}
def MRU (σ τ : jH) (ω : Int → Int) (R : RS) (z : Int) : Prop := (∀ c, (c < 189 ∨ c = 191 ∨ c = 192 ∨ 199 < c) → c ≠ 204 → τ c = σ c) ∧ (τ 189 15 = 0 ∧ ∀ j, (j < 15 ∨ 25 < j) → j ≠ 10 → τ 189 j = σ 189 j) ∧ ((R.1 = 0 ∧ z = R.2.2.2.1 0 ∧ RFR τ R.2.2.2.1 ∧ τ 189 22 = 0 ∧ τ 189 23 = -1) ∨ (R.1 ≠ 0 ∧ z = -4 ∧ RFR τ ω ∧ τ 189 22 = R.1 ∧ τ 189 23 = R.2.1))
def FLQ (σ τ : jH) : Prop := (∀ c, (c < 189 ∨ c = 191 ∨ c = 192 ∨ 199 < c) → τ c = σ c) ∧ ∀ j, j ≠ 10 → τ 189 j = σ 189 j
theorem l_mrs_49 {P : Int → jH → Prop} {ω' : Int → Int} (hd : 16 ≤ d) (E : EQR (σ 204) ω') (X : RFX ω ω') (h190 : σ 190 = ω) (W : OKW ω') (hal : ALP σ) (N : ∀ τ : jH, RFR τ ω' → FLQ σ τ → P (ω' 0) τ) : ∀ (k i : Nat) (τ : jH), i + k = 2597 → (∀ c, c ≠ 190 → τ c = σ c) → (∀ j, τ 190 j = if 0 ≤ j ∧ j < (i : Int) ∧ j ≠ 3 ∧ j ≠ 4 then ω' j else ω j) →
    Ev (l, (fun _ => 0), 0) d 0 0 m_Model_rules (RW P) 49 [some (vR 189), some (vI i)] [] gW τ 0 0
  | 0, i, τ, hk, F, V => by
    have e : i = 2597 := by omega
    subst e
    refine jwp_sound t_Model_rules _ (b_Model_rules_49 ?_)
    simp only [RW, true_and, and_true, and_self, true_or, or_true, Nat.reduceLeDiff, Nat.reduceEqDiff, Nat.reduceAdd, Int.reduceLE, Int.reduceLT, Int.reduceEq, Int.reduceNeg, Int.reduceNe, Nat.reduceSub, reduceIte, implies_true, gt_189, gr_189_1, gt_190, gr_189_24, gt_204]
    refine ⟨fun _ => ?_, fun x => absurd x (by omega)⟩
    have z : τ 190 = ω' := by
      funext j
      rw [V j]
      by_cases q : 0 ≤ j ∧ j < ((2597 : Nat) : Int) ∧ j ≠ 3 ∧ j ≠ 4
      · rw [if_pos q]
      · rw [if_neg q]
        exact (X j (by omega)).symm
    have M := mok_of z W (fun x a b => by rw [F 200 (by omega)]; exact hal x a b)
    refine cN_w (c_Model_makes _ M.1 M.2) (by omega) (fun _ υ h => ?_)
    have D := h.rdr M.1 M.2
    rw [z] at D
    have K := h.fmk
    have R : RFR υ ω' := ⟨W, D⟩
    rw [R.2.2.2.1]
    exact N υ R ⟨fun c a => by rw [K.1 c (by omega) (by omega), F c (by omega)], fun j hj => by rw [K.2 j hj, F 189 (by omega)]⟩
  | k + 1, i, τ, hk, F, V => by
    have go : ∀ v, v = (if (i : Int) ≠ 3 ∧ (i : Int) ≠ 4 then ω' i else ω i) → Ev (l, (fun _ => 0), 0) d 0 0 m_Model_rules (RW P) 49 [some (vR 189), some (vI (i + 1))] [] gW (ju τ 190 i v) 0 0 := fun v hv => by
      have IH := l_mrs_49 hd E X h190 W hal N k (i + 1) (ju τ 190 i v) (by omega) (fun c hc => by rw [ju_row hc, F c hc]) (fun j => by
        by_cases q : j = i
        · rw [q, ju_self, hv]
          by_cases y : (i : Int) ≠ 3 ∧ (i : Int) ≠ 4
          · rw [if_pos y, if_pos (by omega)]
          · rw [if_neg y, if_neg (by omega)]
        · rw [ju_ne2 q, V j]
          by_cases y : 0 ≤ j ∧ j < (i : Int) ∧ j ≠ 3 ∧ j ≠ 4
          · rw [if_pos y, if_pos (by omega)]
          · rw [if_neg y, if_neg (by omega)])
      rw [show ((i + 1 : Nat) : Int) = (i : Int) + 1 by omega] at IH
      exact IH
    refine jwp_sound t_Model_rules _ (b_Model_rules_49 ?_)
    simp only [RW, true_and, and_true, and_self, true_or, or_true, Nat.reduceLeDiff, Nat.reduceEqDiff, Nat.reduceAdd, Int.reduceLE, Int.reduceLT, Int.reduceEq, Int.reduceNeg, Int.reduceNe, Nat.reduceSub, reduceIte, implies_true, gt_189, gr_189_1, gt_190, gr_189_24, gt_204]
    rw [w32_of (x := (i : Int) + 1) (by omega) (by omega), F 204 (by omega)]
    refine ⟨fun x => absurd x (by omega), fun _ => ⟨fun a => ⟨by omega, by omega, by omega, by omega, go _ ?_⟩, fun a => ⟨fun b => ⟨by omega, by omega, by omega, by omega, go _ ?_⟩, fun b => ⟨by omega, by omega, by omega, by omega, go _ ?_⟩⟩⟩⟩
    · rw [if_pos (by omega)]
      exact E i (by omega) (by omega) (by omega) (by omega)
    · rw [if_pos (by omega)]
      exact E i (by omega) (by omega) (by omega) (by omega)
    · rw [if_neg (by omega), V i, if_neg (by omega)]
/-- the reference's call; what holds of the row is told by the class's side -/
theorem CRU.ok {τ : jH} {R : RS} {z : Int} (h : CRU σ τ ω R z) : R.1 = 0 → RIV R.2.2.2.1 ∧ RFX ω R.2.2.2.1 := fun q => by
  rcases h.2.2.2 with ⟨_, _, _, _, a, b, _⟩ | ⟨x, _⟩
  · exact ⟨a, b⟩
  · exact absurd q x
theorem c_Model_rules (h15 : σ 189 15 = n) (T : TP2 σ t n) (R : RFR σ ω) (W : OMG ω) (hal : ALP σ) (H : (rul t n ω).1 = 0 → RIV (rul t n ω).2.2.2.1 ∧ RFX ω (rul t n ω).2.2.2.1) : Cw 16 m_Model_rules [vR 189] σ (fun z τ => MRU σ τ ω (rul t n ω) z) := by
  refine Cw_of o_Model_rules rfl fun l d hd => jwp_sound t_Model_rules _ (b_Model_rules_0 ?_)
  simp only [RW, true_and, and_true, and_self, true_or, or_true, Nat.reduceLeDiff, Nat.reduceEqDiff, Nat.reduceAdd, Int.reduceLE, Int.reduceLT, Int.reduceEq, Int.reduceNeg, Int.reduceNe, Nat.reduceSub, reduceIte, implies_true, gt_189, gr_189_1, gt_190, gr_189_24, gt_204]
  refine cN_w (c_begin h15 T) (by omega) (fun _ τ1 h1 => ?_)
  obtain ⟨F1, K1, ⟨g22, g23, g15⟩, G1⟩ := h1
  refine cN_w (c_Model_plain ω τ1) (by omega) (fun _ τ2 h2 => ?_)
  obtain ⟨F2, E2⟩ := h2
  generalize hχ : ju τ2 189 25 0 = χ
  have xr : ∀ c, c ≠ 189 → c ≠ 204 → χ c = σ c := fun c a b => by rw [← hχ, ju_row a, F2 c b, F1 c a]
  have x189 : ∀ j, j ≠ 25 → χ 189 j = τ1 189 j := fun j hj => by rw [← hχ, ju_ne2 hj, F2 189 (by omega)]
  have x25 : χ 189 25 = b2i false := by
    rw [← hχ, ju_self]
    rfl
  have Tχ : TP2 χ t n := by
    unfold TP2
    rw [xr 202 (by omega) (by omega)]
    exact T
  have Kχ : TKR χ t n 0 := by
    unfold TKR
    rw [x189 17 (by omega), x189 18 (by omega), x189 19 (by omega), x189 20 (by omega), x189 21 (by omega)]
    exact K1
  have Eχ : EQR (χ 204) (plainR ω) := by
    rw [← hχ, ju_row (by omega)]
    exact E2
  have z0 : plainR ω 0 = 0 := by
    unfold plainR
    rw [if_neg (by omega), if_neg (by omega), if_pos (by omega), if_neg (by omega)]
  have c15 : χ 189 15 = 0 := by rw [x189 15 (by omega)]; exact g15
  have cj : ∀ j, (j < 15 ∨ 25 < j) → χ 189 j = σ 189 j := fun j hj => by rw [x189 j (by omega), G1 j (by omega)]
  have χ22 : χ 189 22 = 0 := by rw [x189 22 (by omega)]; exact g22
  have χ23 : χ 189 23 = -1 := by rw [x189 23 (by omega)]; exact g23
  refine l_mrs_16 (σ := χ) hd Tχ 20 0 0 χ (plainR ω) false rfl ⟨by omega, T.1.1⟩ .rf χ22 rfl Kχ Eχ x25 plainR_riv z0 (fun τ M => ?_)
  show Ev (l, (fun _ => 0), 0) d 0 0 m_Model_rules _ 37 [some (vR 189), none] [] gW τ 0 0
  have M' : MRS χ τ t n (rul t n ω) := M
  generalize rul t n ω = Q at *
  obtain ⟨F, M'⟩ := M'
  refine jwp_sound t_Model_rules _ (b_Model_rules_37 ?_)
  simp only [RW, true_and, and_true, and_self, true_or, or_true, Nat.reduceLeDiff, Nat.reduceEqDiff, Nat.reduceAdd, Int.reduceLE, Int.reduceLT, Int.reduceEq, Int.reduceNeg, Int.reduceNe, Nat.reduceSub, reduceIte, implies_true, gt_189, gr_189_1, gt_190, gr_189_24, gt_204]
  refine cN_p (c_good _) (by omega) ?_
  rcases M' with ⟨q0, g, g23', hp, K, E, h25⟩ | ⟨q0, g, g23'⟩
  · rw [if_pos g]
    obtain ⟨V, X⟩ := H q0
    refine ⟨fun _ => ?_, fun x => absurd x (by omega)⟩
    refine l_mrs_49 (σ := τ) hd E X (by rw [F.1 190 (by omega) (by omega), xr 190 (by omega) (by omega)]; exact R.2.2.2.1) (rfx_omg X V W).1.1 (fun x a b => by rw [F.1 200 (by omega) (by omega), xr 200 (by omega) (by omega)]; exact hal x a b) (fun υ R2 F2 => ?_) 2597 0 τ rfl (fun _ _ => rfl) (fun j => by
      rw [if_neg (by omega), F.1 190 (by omega) (by omega), xr 190 (by omega) (by omega), R.2.2.2.1])
    refine ⟨fun c a b => by rw [F2.1 c a, F.1 c (by omega) b, xr c (by omega) b], ⟨?_, fun j hj h10 => by rw [F2.2 j h10, F.2 j (by omega), cj j hj]⟩, Or.inl ⟨q0, rfl, R2, ?_, ?_⟩⟩
    · rw [F2.2 15 (by omega), F.2 15 (by omega)]
      exact c15
    · rw [F2.2 22 (by omega)]
      exact g
    · rw [F2.2 23 (by omega), g23', χ23]
  · rw [if_neg (by rw [g]; exact q0)]
    refine ⟨fun x => absurd rfl x, fun _ => ?_⟩
    refine ⟨fun c a b => by rw [F.1 c (by omega) b, xr c (by omega) b], ⟨?_, fun j hj h10 => by rw [F.2 j (by omega), cj j hj]⟩, Or.inr ⟨q0, rfl, ?_, g, g23'⟩⟩
    · rw [F.2 15 (by omega)]
      exact c15
    · exact R.of2 (fun c a b => by rw [F.1 c (by omega) (by omega), xr c (by omega) (by omega)]) (by rw [F.2 10 (by omega), cj 10 (by omega)])
end RK2
