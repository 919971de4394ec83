/-! ASKS: the class reads a unit: a word, a root -/
theorem aPh_u {ω t : Int → Int} {e n u : Int} : ∀ (k : Nat) (i p : Int) (S : Int → Bool), (aPh ω t e n u k i p S).1 = 0 → (aPh ω t e n u k i p S).2.2.2.1 = u
  | 0, i, p, S, h => absurd h (by show ¬ (1 : Int) = 0; omega)
  | k + 1, i, p, S, h => by
    simp only [aPh] at h ⊢
    split at h
    · rename_i g
      rw [if_pos g]
      exact aPh_u k _ _ _ h
    · rename_i g
      rw [if_neg g]
      split at h
      · rename_i g2
        rw [if_pos g2]
        rfl
      · exact absurd h (by show ¬ (1 : Int) = 0; omega)
theorem aX_u {ω t : Int → Int} {e n : Int} : ∀ (k : Nat) (m : Bool) (dep p u : Int) (S : Int → Bool), u ≤ 30 → (aX ω t e n k m dep p u S).1 = 0 → u + (if m = true then 0 else 1) ≤ (aX ω t e n k m dep p u S).2.2.2.1 ∧ (aX ω t e n k m dep p u S).2.2.2.1 ≤ 30
  | 0, m, dep, p, u, S, hu, h => absurd h (by
    show ¬ (3 : Int) = 0
    omega)
  | k + 1, false, dep, p, u, S, hu, h => by
    have b1 : ∀ {x s : Int}, x ≠ 0 → (aBD x s).1 = 0 → False := fun {x s} a b => a b
    rw [if_neg Bool.false_ne_true]
    simp only [aX] at h ⊢
    by_cases g1 : tK t n p ≠ 40 ∧ tK t n p ≠ 34 ∧ ¬ (tK t n p = 1 ∧ opW t n p = 0)
    · rw [if_pos g1] at h
      exact (b1 (by omega) h).elim
    · rw [if_neg g1] at h ⊢
      by_cases g2 : u = 30 ∨ (tK t n p = 40 ∧ dep = 6)
      · rw [if_pos g2] at h
        exact (b1 (by omega) h).elim
      · rw [if_neg g2] at h ⊢
        by_cases g3 : tK t n p = 40
        · rw [if_pos g3] at h ⊢
          have I1 := aX_u (ω := ω) (t := t) (e := e) (n := n) k false (dep + 1) (tN t n p) (u + 1) (fun _ => false) (by omega)
          rw [if_neg Bool.false_ne_true] at I1
          generalize aX ω t e n k false (dep + 1) (tN t n p) (u + 1) (fun _ => false) = R at *
          by_cases g4 : R.1 ≠ 0
          · rw [if_pos g4] at h
            exact absurd h g4
          · rw [if_neg g4] at h ⊢
            have i1 := I1 (Classical.not_not.mp g4)
            have I2 := aX_u (ω := ω) (t := t) (e := e) (n := n) k true (dep + 1) R.2.2.1 R.2.2.2.1 R.2.2.2.2 i1.2
            rw [if_pos rfl] at I2
            generalize aX ω t e n k true (dep + 1) R.2.2.1 R.2.2.2.1 R.2.2.2.2 = M at *
            by_cases g5 : M.1 ≠ 0
            · rw [if_pos g5] at h
              exact absurd h g5
            · rw [if_neg g5] at h ⊢
              have i2 := I2 (Classical.not_not.mp g5)
              by_cases g6 : tK t n M.2.2.1 = 41
              · rw [if_pos g6]
                show u + 1 ≤ M.2.2.2.1 ∧ M.2.2.2.1 ≤ 30
                omega
              · rw [if_neg g6] at h
                exact (b1 (by omega) h).elim
        · rw [if_neg g3] at h ⊢
          by_cases g4 : tK t n p = 34
          · rw [if_pos g4] at h ⊢
            by_cases g5 : tK t n (tN t n p) ≠ 1
            · rw [if_pos g5] at h
              exact (b1 (by omega) h).elim
            · rw [if_neg g5] at h ⊢
              rw [aPh_u _ _ _ _ h]
              omega
          · rw [if_neg g4] at h ⊢
            by_cases g5 : tI t n p (jtb 3) = true
            · rw [if_pos g5] at h ⊢
              by_cases g6 : fwB t n (tN t n p) = false
              · rw [if_pos g6] at h
                exact (b1 (by omega) h).elim
              · rw [if_neg g6]
                show u + 1 ≤ u + 1 ∧ u + 1 ≤ 30
                omega
            · rw [if_neg g5]
              show u + 1 ≤ u + 1 ∧ u + 1 ≤ 30
              omega
  | k + 1, true, dep, p, u, S, hu, h => by
    have b1 : ∀ {x s : Int}, x ≠ 0 → (aBD x s).1 = 0 → False := fun {x s} a b => a b
    rw [if_pos rfl]
    simp only [aX] at h ⊢
    have fin : ∀ (q o m : Int), (if (aX ω t e n k false dep q u (fun _ => false)).1 ≠ 0 then aX ω t e n k false dep q u (fun _ => false) else aX ω t e n k true dep (aX ω t e n k false dep q u (fun _ => false)).2.2.1 (aX ω t e n k false dep q u (fun _ => false)).2.2.2.1 (joS (wW ω e).1 (wW ω e).2.2.1 o m S (aX ω t e n k false dep q u (fun _ => false)).2.2.2.2)).1 = 0 → u + 0 ≤ (if (aX ω t e n k false dep q u (fun _ => false)).1 ≠ 0 then aX ω t e n k false dep q u (fun _ => false) else aX ω t e n k true dep (aX ω t e n k false dep q u (fun _ => false)).2.2.1 (aX ω t e n k false dep q u (fun _ => false)).2.2.2.1 (joS (wW ω e).1 (wW ω e).2.2.1 o m S (aX ω t e n k false dep q u (fun _ => false)).2.2.2.2)).2.2.2.1 ∧ (if (aX ω t e n k false dep q u (fun _ => false)).1 ≠ 0 then aX ω t e n k false dep q u (fun _ => false) else aX ω t e n k true dep (aX ω t e n k false dep q u (fun _ => false)).2.2.1 (aX ω t e n k false dep q u (fun _ => false)).2.2.2.1 (joS (wW ω e).1 (wW ω e).2.2.1 o m S (aX ω t e n k false dep q u (fun _ => false)).2.2.2.2)).2.2.2.1 ≤ 30 := fun q o m h => by
      have I1 := aX_u (ω := ω) (t := t) (e := e) (n := n) k false dep q u (fun _ => false) hu
      rw [if_neg Bool.false_ne_true] at I1
      generalize aX ω t e n k false dep q u (fun _ => false) = R at *
      by_cases g4 : R.1 ≠ 0
      · rw [if_pos g4] at h
        exact absurd h g4
      · rw [if_neg g4] at h ⊢
        have i1 := I1 (Classical.not_not.mp g4)
        have I2 := aX_u (ω := ω) (t := t) (e := e) (n := n) k true dep R.2.2.1 R.2.2.2.1 (joS (wW ω e).1 (wW ω e).2.2.1 o m S R.2.2.2.2) i1.2 h
        rw [if_pos rfl] at I2
        omega
    by_cases g1 : opW t n p = 0
    · rw [if_pos g1]
      show u + 0 ≤ u ∧ u ≤ 30
      omega
    · rw [if_neg g1] at h ⊢
      by_cases g2 : opW t n p ≤ 3
      · rw [if_pos g2] at h ⊢
        by_cases g3 : tK t n (tN t n p) ≠ 2
        · rw [if_pos g3] at h
          exact (b1 (by omega) h).elim
        · rw [if_neg g3] at h ⊢
          by_cases g4 : ¬ (1 ≤ tV t n (tN t n p) ∧ tV t n (tN t n p) ≤ 50)
          · rw [if_pos g4] at h
            exact (b1 (by omega) h).elim
          · rw [if_neg g4] at h ⊢
            exact fin _ _ _ h
      · rw [if_neg g2] at h ⊢
        exact fin _ _ _ h
section AY
variable {l : Launch} {d : Nat} {ω t : Int → Int} {σ : jH} {e n p c : Int}
/-- how deep a unit of a level goes -/
def dpU (L : Nat) : Nat := 25 + 4 * (6 - L)
theorem l_ru_164 {u : Int} {rt : Bool} (hd : 25 ≤ d) (A : AEN σ ω e t n) (W : OKW ω) (U : RLO ω) (he : 0 ≤ e ∧ e ≤ 1) (hc : isSet c) (K : TKC σ t n p) (hp : 0 ≤ p ∧ p ≤ n) (q : tK t n p = 1) (hu : σ 157 5 = u) :
    Ev (l, (fun _ => 0), 0) d 0 0 m_Asker_readUnit (RW fun z τ => CAS c σ τ t n (wW ω e).1 (aOK (tN t n p) u (if rt = true then rS ω e (kP ω t n p) else wwS ω e (kP ω t n p))) z) 164 [some (vR 157), none, some (vR c), some (vI (b2i rt)), none] [] gW σ 0 0 := by
  have hcc := hc
  unfold isSet at hcc
  have w := W.n he
  have kr := kP_r (ω := ω) (t := t) (n := n) (p := p) W.2.2.1
  refine jwp_sound t_Asker_readUnit _ (b_Asker_readUnit_164 ?_)
  simp only [RW, true_and, and_true, and_self, true_or, or_true, Nat.reduceLeDiff, Nat.reduceEqDiff, Nat.reduceAdd, Int.reduceLE, Int.reduceLT, Int.reduceEq, Int.reduceNeg, Int.reduceNe, Nat.reduceSub, reduceIte, implies_true, gt_157, gr_157_0, gt_140, gr_157_1, gt_4, gr_157_3, gt_158, gr_4_1, gt_5]
  refine cN_key (by omega) (by omega) A W.2.2.1 K hp q (fun z χ Fχ k0 k1 => ?_)
  have Kχ : TKC χ t n p := K.eq (Fχ 140 (by omega))
  refine cN_w (c_advance (A.1.eq (Fχ 2 (by omega))) Kχ hp) (by omega) (fun _ υ h => ?_)
  obtain ⟨F2, K2⟩ := h
  refine cN_v (c_Arrays_fill2 (n := 300) 0 _ (gt_set hc) (by omega) (by omega) (by decide)) (by omega) (fun _ => ?_)
  have fr : ∀ c', c' ≠ c → jfill υ c 0 300 0 c' = υ c' := fun c' h => jfill_row h
  generalize hξ : jfill υ c 0 300 0 = ξ at fr
  have Fξ : ASF c σ ξ := ⟨fun c' a b f g => by rw [fr c' (by omega), F2.1 c' a, Fχ c' f], fun j _ => by rw [fr 157 (by omega), F2.1 157 (by omega), Fχ 157 (by omega)]⟩
  have Aξ := A.of hc Fξ
  have Z : SET ξ c (wW ω e).1 (fun _ => false) := fun q' a b => by
    rw [← hξ, jfill_in a (by omega)]
    rfl
  have y0 : ξ 158 0 = kP ω t n p / 1125899906842624 := by rw [fr 158 (by omega), F2.1 158 (by omega)]; exact k0
  have y1 : ξ 158 1 = kP ω t n p % 1125899906842624 := by rw [fr 158 (by omega), F2.1 158 (by omega)]; exact k1
  have done : ∀ (τ : jH) (S : Int → Bool), (∀ c', c' ≠ c → τ c' = ξ c') → SET τ c (wW ω e).1 S → CAS c σ τ t n (wW ω e).1 (aOK (tN t n p) u S) 1 := fun τ S F V => by
    refine ⟨Fξ.tr ⟨fun c' a b f g => F c' (by omega), fun j _ => by rw [F 157 (by omega)]⟩, Or.inl ⟨rfl, rfl, tN_in hp, K2.eq (by rw [F 140 (by omega), fr 140 (by omega)]), ?_, V, ?_, ?_⟩⟩
    · rw [F 157 (by omega), fr 157 (by omega), F2.1 157 (by omega), Fχ 157 (by omega)]
      exact hu
    · rw [F 140 (by omega), fr 140 (by omega), F2.2 6 (by omega) (by omega) (by omega) (by omega), Fχ 140 (by omega)]
    · rw [F 140 (by omega), fr 140 (by omega), F2.2 7 (by omega) (by omega) (by omega) (by omega), Fχ 140 (by omega)]
  refine ⟨fun x => ?_, fun x => ?_⟩
  · have rf : rt = false := by
      cases rt with
      | false => rfl
      | true => exact absurd x (by decide)
    rw [rf, if_neg Bool.false_ne_true, y0, y1]
    refine cN_p (c_isStop (kP ω t n p) is4 U Aξ.2.2.2.2) (by omega) ?_
    refine ⟨fun s => ?_, fun s => ?_⟩
    · have st : stopB ω (kP ω t n p) = true := by
        cases g : stopB ω (kP ω t n p) with
        | true => rfl
        | false =>
          rw [g] at s
          exact absurd rfl s
      refine done ξ _ (fun _ _ => rfl) (fun q' a b => ?_)
      rw [Z q' a b]
      unfold wwS
      rw [st]
      rfl
    · have st : stopB ω (kP ω t n p) = false := by
        cases g : stopB ω (kP ω t n p) with
        | false => rfl
        | true =>
          rw [g] at s
          exact absurd s (by decide)
      rw [y0, y1]
      refine cN_w (c_amark Aξ.2.1 W he Aξ.2.2.1 hc kr) (by omega) (fun _ τ h => ?_)
      obtain ⟨F, V⟩ := h
      refine done τ _ F (fun q' a b => ?_)
      rw [V q' a b]
      unfold wwS
      rw [st]
      by_cases g : KEY ω e q' = kP ω t n p
      · rw [if_pos g, decide_eq_true g]
        rfl
      · rw [if_neg g, decide_eq_false g, Z q' a b]
        rfl
  · have rf : rt = true := by
      cases rt with
      | true => rfl
      | false => exact absurd rfl x
    rw [rf, if_pos rfl]
    refine cN_w (c_amarkRoot Aξ.2.1 W U Aξ.2.2.2.2 he Aξ.2.2.1 hc kr ⟨y0, y1⟩ Z) (by omega) (fun _ τ h => ?_)
    obtain ⟨F, V⟩ := h
    exact done τ _ F V
end AY
