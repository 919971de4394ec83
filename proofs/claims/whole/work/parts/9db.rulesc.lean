/-! RULES are read: the class, whole -/
section RD
variable {l : Launch} {d : Nat} {t : Int → Int} {σ : jH} {n : Int} {ω : Int → Int}
theorem rls_copy {τ : jH} {a b : Int} (W : RLO ω) (R : RLS σ b ω) (Q : REQ τ a σ b) : RLS τ a ω := by
  obtain ⟨R1, R2, R3⟩ := R
  obtain ⟨Q1, Q2⟩ := Q
  obtain ⟨q0, q3, q5, q7, q11⟩ := Q1
  obtain ⟨r0, r1, r2, r3, r4⟩ := W
  refine ⟨⟨q0.trans R1.1, q3.trans R1.2.1, q5.trans R1.2.2.1, q7.trans R1.2.2.2⟩, fun s s0 s1 => ?_, fun t t0 t1 => ?_⟩
  · obtain ⟨k1, k2⟩ := R2 s s0 s1
    have a1 := Q2 4 20 (by omega) s s0 (by omega)
    have a2 := Q2 5 20 (by omega) s s0 (by omega)
    unfold KKV
    rw [show a + 3 + 1 = a + 4 by omega, show a + 3 + 2 = a + 5 by omega, a1, a2]
    rw [show b + 3 + 1 = b + 4 by omega] at k1
    rw [show b + 3 + 2 = b + 5 by omega] at k2
    exact ⟨k1, k2⟩
  · obtain ⟨k0, ⟨k1, k2⟩, k3⟩ := R3 t t0 t1
    have rr := (r4 t t0 t1).1
    have a1 := Q2 7 20 (by omega) t t0 (by omega)
    have a2 := Q2 8 20 (by omega) t t0 (by omega)
    have a3 := Q2 12 20 (by omega) t t0 (by omega)
    refine ⟨by rw [a3]; exact k0, ⟨?_, ?_⟩, fun i i0 i1 => ?_⟩
    · rw [show a + 6 + 1 = a + 7 by omega, a1]
      rwa [show b + 6 + 1 = b + 7 by omega] at k1
    · rw [show a + 6 + 2 = a + 8 by omega, a2]
      rwa [show b + 6 + 2 = b + 8 by omega] at k2
    · obtain ⟨x1, x2⟩ := k3 i i0 i1
      have a1 := Q2 10 80 (by omega) (4 * t + i) (by omega) (by omega)
      have a2 := Q2 11 80 (by omega) (4 * t + i) (by omega) (by omega)
      refine ⟨?_, ?_⟩
      · rw [show a + 9 + 1 = a + 10 by omega, a1]
        rwa [show b + 9 + 1 = b + 10 by omega] at x1
      · rw [show a + 9 + 2 = a + 11 by omega, a2]
        rwa [show b + 9 + 2 = b + 11 by omega] at x2
/-- a row with other rules -/
theorem rfx_omg {ω' : Int → Int} (X : RFX ω ω') (V : RIV ω') (W : OMG ω) : OMG ω' ∧ LSM ω ω' := by
  obtain ⟨⟨w1, w2, w3, w4, w5, w6⟩, wr, ws⟩ := W
  have H : LSM ω ω' := fun j hj => X j (by omega)
  obtain ⟨a1, a2, _⟩ := H.lw (e := 0) ⟨by omega, by omega⟩ w1
  obtain ⟨b1, b2, _⟩ := H.lw (e := 1) ⟨by omega, by omega⟩ w2
  refine ⟨⟨⟨a1, b1, fo_ok V.1.1, V.2, by rw [a2]; exact w5, by rw [b2]; exact w6⟩, V.1.1.1, fun q q0 q1 => ?_⟩, H⟩
  have e : ∀ j, 7477 ≤ j → ω' j = ω j := fun j hj => X j (by omega)
  obtain ⟨v1, v2, v3⟩ := ws q q0 q1
  refine ⟨by rw [e _ (by omega)]; exact v1, by rw [e _ (by omega)]; exact v2, fun j x y => ?_⟩
  rw [e _ (by omega)] at y
  rw [e _ (by omega)]
  exact v3 j x y
theorem img_rules {τ χ : jH} {ω' : Int → Int} {ho : Bool} (X : RFX ω ω') (V : RIV ω') (W : OMG ω) (H : IMG σ 3 ω) (R : RLS χ 142 ω') (L : DRL χ ω' ho) (Q : REQ τ (3 + 1) χ 142) (F : ∀ c, 18 ≤ c → c ≤ 25 → τ c = σ c) : IMG τ 3 ω' := by
  obtain ⟨W', S⟩ := rfx_omg X V W
  obtain ⟨⟨h1, h2, h3, h4⟩, _, h5, _⟩ := H
  obtain ⟨L1, L2, L3⟩ := L
  refine ⟨⟨?_, ?_, fun x a b => ?_, fun x a b => ?_⟩, rls_copy W'.2.1 R Q, fun q q0 q1 => ?_, ?_⟩
  · exact LIN_eq (fun c a b => F c (by omega) (by omega)) (S.lin ⟨by omega, by omega⟩ W.1.1 h1)
  · exact LIN_eq (fun c a b => F c (by omega) (by omega)) (S.lin ⟨by omega, by omega⟩ W.1.2.1 h2)
  · exact (Q.2 1 26 (by omega) x a b).trans (L1 x a b)
  · exact (Q.2 13 26 (by omega) x a b).trans (L2 x a b)
  · have k := h5 q q0 q1
    have e : rk ω' (7477 + 21 * q) = rk ω (7477 + 21 * q) := by
      refine rk_eq (X _ (by omega)) (fun j x y => X _ (by omega))
    rw [e]
    unfold KKV at k ⊢
    rw [F _ (by omega) (by omega), F _ (by omega) (by omega)]
    exact k
  · rw [Q.1.2.2.2.2, L3]
    unfold b2i
    split
    · exact Or.inr rfl
    · exact Or.inl rfl
def rul (t : Int → Int) (n : Int) (ω : Int → Int) : RS := rAll t n 21 0 (plainR ω) false
/-- what the call leaves behind -/
def CRU (σ τ : jH) (ω : Int → Int) (R : RS) (z : Int) : Prop := (∀ c, c ≠ 1 → c ≠ 140 → c ≠ 97 → c ≠ 135 → (c < 3 ∨ 25 < c) → (c < 142 ∨ 156 < c) → τ c = σ c) ∧ KBD τ ∧ (τ 1 1 = 0 ∧ (∀ j, j ≠ 1 → τ 1 j = σ 1 j) ∧ ∀ j, j ≠ 0 → τ 97 j = σ 97 j ∧ τ 135 j = σ 135 j) ∧ ((R.1 = 0 ∧ z = R.2.2.2.1 0 ∧ (τ 97 0 = 0 ∧ τ 135 0 = 0) ∧ IMG τ 3 R.2.2.2.1 ∧ RIV R.2.2.2.1 ∧ RFX ω R.2.2.2.1 ∧ OMG R.2.2.2.1 ∧ τ 140 6 = 0 ∧ τ 140 7 = -1) ∨ (R.1 ≠ 0 ∧ z = -4 ∧ (τ 97 = σ 97 ∧ τ 135 = σ 135 ∧ ∀ c, 3 ≤ c → c ≤ 25 → τ c = σ c) ∧ τ 140 6 = R.1 ∧ τ 140 7 = R.2.1))
theorem c_WordPlaces_rules (P : TPC σ n t) (T : TP σ t n) (B : KBD σ) (W : OMG ω) (H : IMG σ 3 ω) : Cw 17 m_WordPlaces_rules [vR 1] σ (fun z τ => CRU σ τ ω (rul t n ω) z) := by
  refine Cw_of o_WordPlaces_rules rfl fun l d hd => jwp_sound t_WordPlaces_rules _ (b_WordPlaces_rules_0 ?_)
  simp only [RW, true_and, and_true, and_self, true_or, or_true, Nat.reduceLeDiff, Nat.reduceEqDiff, Nat.reduceAdd, Int.reduceLE, Int.reduceLT, Int.reduceEq, Int.reduceNeg, Int.reduceNe, Nat.reduceSub, reduceIte, implies_true, gt_1, gr_1_2, gt_3, gr_1_8, gt_141, gr_141_0, gt_142, gr_3_0, gt_4]
  refine cN_p (c_takeTape P) (by omega) ?_
  generalize hχ : ju σ 1 1 0 = χ
  have Fχ : ∀ c, c ≠ 1 → χ c = σ c := fun c h => by rw [← hχ, ju_row h]
  refine cN_w (c_readRules (T.eq (Fχ 2 (by omega))) (B.eq (fun c a b => Fχ c (by omega))) ω) (by omega) (fun z τ h => ?_)
  unfold rul CRU
  generalize rAll t n 21 0 (plainR ω) false = R at *
  obtain ⟨F, Bτ, h⟩ := h
  rcases h with ⟨a1, rfl, a3, a4, a5, a6, a7, a8⟩ | ⟨a1, rfl, a3, a4⟩
  · refine ⟨fun _ => ?_, fun x => absurd x (by omega)⟩
    have b11 : τ 142 11 = 0 ∨ τ 142 11 = 1 := by
      rw [a4.2.2]
      unfold b2i
      split
      · exact Or.inr rfl
      · exact Or.inl rfl
    refine cN_w (c_Rules_copyFrom (a := 4) τ (isImage_r isI3) isU (by omega) b11) (by omega) (fun _ υ h => ?_)
    obtain ⟨Q, F2⟩ := h
    refine cN_v (c_forgetBook υ) (by omega) (fun _ => ?_)
    have fr : ∀ c, c ≠ 97 → c ≠ 135 → ju (ju υ 97 0 0) 135 0 0 c = υ c := fun c a b => by rw [ju_row b, ju_row a]
    have F3 : ∀ c, c ≠ 1 → c ≠ 140 → c ≠ 97 → c ≠ 135 → (c < 4 ∨ 17 < c) → (c < 142 ∨ 156 < c) → ju (ju υ 97 0 0) 135 0 0 c = σ c := fun c x1 x2 x3 x4 x5 x6 => by rw [fr c x3 x4, F2 c (by omega), F c x2 x6, Fχ c x1]
    have QQ : REQ (ju (ju υ 97 0 0) 135 0 0) (3 + 1) τ 142 := REQ_eq (fun c a b => fr c (by omega) (by omega)) Q
    have M := img_rules a6 a5 W H a3 a4 QQ (fun c a b => F3 c (by omega) (by omega) (by omega) (by omega) (by omega) (by omega))
    refine ⟨fun c x1 x2 x3 x4 x5 x6 => F3 c x1 x2 x3 x4 (by omega) x6, Bτ.eq (fun c a b => by rw [fr c (by omega) (by omega), F2 c (by omega)]), ⟨?_, fun j hj => ?_, fun j hj => ⟨?_, ?_⟩⟩, Or.inl ⟨a1, ?_, ⟨?_, ?_⟩, M, a5, a6, (rfx_omg a6 a5 W).1, ?_, ?_⟩⟩
    · rw [fr 1 (by omega) (by omega), F2 1 (by omega), F 1 (by omega) (by omega), ← hχ, ju_self]
    · rw [fr 1 (by omega) (by omega), F2 1 (by omega), F 1 (by omega) (by omega), ← hχ, ju_ne2 hj]
    · rw [ju_row (by omega), ju_ne2 hj, F2 97 (by omega), F 97 (by omega) (by omega), Fχ 97 (by omega)]
    · rw [ju_ne2 hj, ju_row (by omega), F2 135 (by omega), F 135 (by omega) (by omega), Fχ 135 (by omega)]
    · exact M.2.1.1.1
    · rw [ju_row (by omega), ju_self]
    · rw [ju_self]
    · rw [fr 140 (by omega) (by omega), F2 140 (by omega)]
      exact a7
    · rw [fr 140 (by omega) (by omega), F2 140 (by omega)]
      exact a8
  · refine ⟨fun x => absurd rfl x, fun _ => ?_⟩
    refine ⟨fun c x1 x2 x3 x4 x5 x6 => by rw [F c x2 x6, Fχ c x1], Bτ, ⟨?_, fun j hj => ?_, fun j hj => ⟨?_, ?_⟩⟩, Or.inr ⟨a1, rfl, ⟨?_, ?_, fun c a b => ?_⟩, a3, a4⟩⟩
    · rw [F 1 (by omega) (by omega), ← hχ, ju_self]
    · rw [F 1 (by omega) (by omega), ← hχ, ju_ne2 hj]
    · rw [F 97 (by omega) (by omega), Fχ 97 (by omega)]
    · rw [F 135 (by omega) (by omega), Fχ 135 (by omega)]
    · rw [F 97 (by omega) (by omega), Fχ 97 (by omega)]
    · rw [F 135 (by omega) (by omega), Fχ 135 (by omega)]
    · rw [F c (by omega) (by omega), Fχ c (by omega)]
end RD
