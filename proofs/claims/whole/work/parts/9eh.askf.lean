/-! ASKS: the class's call -/
def aQ (ω t : Int → Int) (e n : Int) : AS := if (aA ω t e n 31 0 0 0).1 ≠ 0 then aA ω t e n 31 0 0 0 else if tK t n (aA ω t e n 31 0 0 0).2.2.1 = 0 then aA ω t e n 31 0 0 0 else aBD 1 (tS t n (aA ω t e n 31 0 0 0).2.2.1)
def aN0 (ω : Int → Int) (e : Int) (S : Int → Bool) : Int := cq (sI S) (wW ω e).1.toNat 1
def ANQ (τ : jH) (ω : Int → Int) (e : Int) (S : Int → Bool) : Prop := ANC τ (aN0 ω e S) (anF (wW ω e).1 S) (fun i => (wW ω e).2.2.1 (anF (wW ω e).1 S i)) (fun i => anO ω e (anF (wW ω e).1 S i))
def CSL (σ τ : jH) (ω : Int → Int) (e : Int) (Q : AS) (z : Int) : Prop := (∀ c', c' ≠ 140 → (c' < 157 ∨ 178 < c') → τ c' = σ c') ∧ ((Q.1 = 0 ∧ z = 1 ∧ ANQ τ ω e Q.2.2.2.2 ∧ τ 140 6 = 0 ∧ τ 140 7 = -1) ∨ (Q.1 ≠ 0 ∧ z = 0 ∧ (τ 157 9 = σ 157 9 ∧ τ 176 = σ 176 ∧ τ 177 = σ 177 ∧ τ 178 = σ 178) ∧ τ 140 6 = Q.1 ∧ τ 140 7 = Q.2.1))
def CAK (σ τ : jH) (ω t : Int → Int) (e n z : Int) : Prop := (¬ (0 ≤ e ∧ e ≤ 1) ∧ z = -2 ∧ τ = σ) ∨ ((0 ≤ e ∧ e ≤ 1) ∧ (∀ c', c' ≠ 1 → c' ≠ 140 → (c' < 97 ∨ 134 < c') → (c' < 157 ∨ 178 < c') → τ c' = σ c') ∧ (τ 1 1 = 0 ∧ ∀ j, j ≠ 1 → τ 1 j = σ 1 j) ∧ (τ 97 0 ≠ 0 ∧ CDR τ ω) ∧ (((aQ ω t e n).1 = 0 ∧ z = aN0 ω e (aQ ω t e n).2.2.2.2 ∧ ANQ τ ω e (aQ ω t e n).2.2.2.2 ∧ τ 140 6 = 0 ∧ τ 140 7 = -1) ∨ ((aQ ω t e n).1 ≠ 0 ∧ z = -4 ∧ (τ 157 9 = σ 157 9 ∧ τ 176 = σ 176 ∧ τ 177 = σ 177 ∧ τ 178 = σ 178) ∧ τ 140 6 = (aQ ω t e n).1 ∧ τ 140 7 = (aQ ω t e n).2.1)))
section BD
variable {l : Launch} {d : Nat} {ω t : Int → Int} {σ : jH} {e n : Int}
theorem c_solve (W : OKW ω) (U : RLO ω) (he : 0 ≤ e ∧ e ≤ 1) (T : TP σ t n) (H : CDR σ ω) (h5 : ∀ x, 0 ≤ x → x < 26 → σ 5 x = fo ω x) (S4 : RLS σ 4 ω) : Cw 61 m_Asker_solve [vR 157, vI e, vI n] σ (fun z τ => CSL σ τ ω e (aQ ω t e n) z) := by
  have wbe : (if e = 0 then (105 : Int) else 120) = wb e := by
    unfold wb
    split <;> omega
  have w := W.n he
  refine Cw_of o_Asker_solve rfl fun l d hd => jwp_sound t_Asker_solve _ (b_Asker_solve_0 ?_)
  simp only [RW, true_and, and_true, and_self, true_or, or_true, Nat.reduceLeDiff, Nat.reduceEqDiff, Nat.reduceAdd, Int.reduceLE, Int.reduceLT, Int.reduceEq, Int.reduceNeg, Int.reduceNe, Nat.reduceSub, reduceIte, implies_true, gt_157, gr_157_0, gt_140, gr_157_2, gt_97, gr_157_6, gt_159, gr_159_0, gt_160]
  refine cN_p (c_wordsOf e σ) (by omega) ?_
  rw [wbe]
  generalize hχ : ju (ju σ 157 4 (wb e)) 157 5 0 = χ
  have r : ∀ c', c' ≠ 157 → χ c' = σ c' := fun c' h => by rw [← hχ, ju_row h, ju_row h]
  have χ4 : χ 157 4 = wb e := by rw [← hχ, ju_ne2 (by omega), ju_self]
  have χ5 : χ 157 5 = 0 := by rw [← hχ, ju_self]
  have χj : ∀ j, j ≠ 4 → j ≠ 5 → χ 157 j = σ 157 j := fun j a b => by rw [← hχ, ju_ne2 b, ju_ne2 a]
  refine cN_w (c_open (T.eq (r 2 (by omega)))) (by omega) (fun _ τ h => ?_)
  obtain ⟨F1, K1, t6, t7⟩ := h
  have A : AEN τ ω e t n := ⟨T.eq (by rw [F1 2 (by omega), r 2 (by omega)]), CDR_eq (fun c' a b => by rw [F1 c' (by omega), r c' (by omega)]) H, by rw [F1 157 (by omega)]; exact χ4, fun x a b => by rw [F1 5 (by omega), r 5 (by omega)]; exact h5 x a b, RLS_eq S4 (fun c' a b => by rw [F1 c' (by omega), r c' (by omega)])⟩
  refine cN_w (c_readAsk W U he A K1 ⟨by omega, T.1.1⟩ (by rw [F1 157 (by omega)]; exact χ5)) (by omega) (fun z ξ h => ?_)
  obtain ⟨F2, h⟩ := h
  unfold aQ CSL
  generalize aA ω t e n 31 0 0 0 = R at *
  have FF : ∀ c', c' ≠ 140 → (c' < 157 ∨ 178 < c') → ξ c' = σ c' := fun c' a b => by rw [F2.1 c' a (by omega) (by omega) (by omega), F1 c' a, r c' (by omega)]
  have keep : ξ 157 9 = σ 157 9 ∧ ξ 176 = σ 176 ∧ ξ 177 = σ 177 ∧ ξ 178 = σ 178 := ⟨by rw [F2.2 9 (by omega), F1 157 (by omega), χj 9 (by omega) (by omega)], by rw [F2.1 176 (by omega) (by omega) (by omega) (by omega), F1 176 (by omega), r 176 (by omega)], by rw [F2.1 177 (by omega) (by omega) (by omega) (by omega), F1 177 (by omega), r 177 (by omega)], by rw [F2.1 178 (by omega) (by omega) (by omega) (by omega), F1 178 (by omega), r 178 (by omega)]⟩
  rcases h with ⟨r1, rfl, r3, r4, r5, r6, r7, r8⟩ | ⟨r1, rfl, r3, r4⟩
  · rw [if_neg (fun x => x r1), r4.1.2.2.2]
    refine ⟨fun _ => ⟨fun q => ?_, fun q => ?_⟩, fun x => absurd x (by omega)⟩
    · rw [if_pos q]
      have Aξ := A.of (c := 160) (by unfold isSet; omega) F2
      refine cN_w (c_putDown Aξ.2.1 W he Aξ.2.2.1 r6) (by omega) (fun _ υ h => ?_)
      obtain ⟨F3, F4, N⟩ := h
      refine ⟨fun c' a b => by rw [F3 c' (by omega) (by omega) (by omega) (by omega), FF c' a b], Or.inl ⟨r1, rfl, N, ?_, ?_⟩⟩
      · rw [F3 140 (by omega) (by omega) (by omega) (by omega), r7]
        exact t6
      · rw [F3 140 (by omega) (by omega) (by omega) (by omega), r8]
        exact t7
    · rw [if_neg q]
      refine cN_p (c_fail 1 r4) (by omega) ?_
      refine ⟨Or.inl rfl, fun c' a b => by rw [ju_row a, ju_row a, FF c' a b], Or.inr ⟨(by show (1 : Int) ≠ 0; omega), rfl, ?_, ?_, ?_⟩⟩
      · rw [ju_row (by omega), ju_row (by omega), ju_row (by omega), ju_row (by omega), ju_row (by omega), ju_row (by omega), ju_row (by omega), ju_row (by omega)]
        exact keep
      · rw [ju_ne2 (by omega), ju_self]
        rfl
      · rw [ju_self]
        rfl
  · rw [if_pos r1]
    exact ⟨fun x => absurd rfl x, fun _ => ⟨FF, Or.inr ⟨r1, rfl, keep, r3, r4⟩⟩⟩
theorem c_WordPlaces_ask (C : CFR σ ω) (U : RLO ω) (S4 : RLS σ 4 ω) (P : TPC σ n t) (T : TP σ t n) : Cw 62 m_WordPlaces_ask [vR 1, vI e] σ (fun z τ => CAK σ τ ω t e n z) := by
  have W := C.1
  refine Cw_of o_WordPlaces_ask rfl fun l d hd => jwp_sound t_WordPlaces_ask _ (b_WordPlaces_ask_0 ?_)
  simp only [RW, true_and, and_true, and_self, true_or, or_true, Nat.reduceLeDiff, Nat.reduceEqDiff, Nat.reduceAdd, Int.reduceLE, Int.reduceLT, Int.reduceEq, Int.reduceNeg, Int.reduceNe, Nat.reduceSub, reduceIte, implies_true, gt_1, gr_1_2, gt_3, gr_1_5, gt_97, gr_1_9, gt_157]
  refine cN_p (c_isEdition e σ) (by omega) ?_
  by_cases he : 0 ≤ e ∧ e ≤ 1
  · rw [if_pos he]
    refine ⟨fun _ => ?_, fun x => absurd x (by omega)⟩
    refine cN_w (c_refresh i3 C.1 C.2.1) (by omega) (fun _ τ h => ?_)
    obtain ⟨⟨F1, _⟩, n0, H⟩ := fresh_of C h
    have Pτ : TPC τ n t := by
      obtain ⟨p1, p2, p3⟩ := P
      exact ⟨by rw [F1 1 (by omega)]; exact p1, p2, fun j a b => by rw [F1 2 (by omega)]; exact p3 j a b⟩
    refine cN_p (c_takeTape Pτ) (by omega) ?_
    generalize hχ : ju τ 1 1 0 = χ
    have r : ∀ c', c' ≠ 1 → χ c' = τ c' := fun c' h => by rw [← hχ, ju_row h]
    have Hχ : CDR χ ω := CDR_eq (fun c' a b => r c' (by omega)) H
    refine cN_w (c_solve W U he (T.eq (by rw [r 2 (by omega), F1 2 (by omega)])) Hχ (fun x a b => by rw [r 5 (by omega), F1 5 (by omega)]; exact C.2.1.2.2.1 x a b) (RLS_eq S4 (fun c' a b => by rw [r c' (by omega), F1 c' (by omega)]))) (by omega) (fun z υ h => ?_)
    obtain ⟨F3, h⟩ := h
    have fr : ∀ c', c' ≠ 1 → c' ≠ 140 → (c' < 97 ∨ 134 < c') → (c' < 157 ∨ 178 < c') → υ c' = σ c' := fun c' a b f g => by rw [F3 c' b g, r c' a, F1 c' f]
    have one : υ 1 1 = 0 ∧ ∀ j, j ≠ 1 → υ 1 j = σ 1 j := by
      rw [F3 1 (by omega) (by omega)]
      exact ⟨by rw [← hχ, ju_self], fun j hj => by rw [← hχ, ju_ne2 hj, F1 1 (by omega)]⟩
    have bk : υ 97 0 ≠ 0 ∧ CDR υ ω := ⟨by rw [F3 97 (by omega) (by omega), r 97 (by omega)]; exact n0, CDR_eq (fun c' a b => F3 c' (by omega) (by omega)) Hχ⟩
    have x157 : χ 157 = σ 157 ∧ χ 176 = σ 176 ∧ χ 177 = σ 177 ∧ χ 178 = σ 178 := ⟨by rw [r 157 (by omega), F1 157 (by omega)], by rw [r 176 (by omega), F1 176 (by omega)], by rw [r 177 (by omega), F1 177 (by omega)], by rw [r 178 (by omega), F1 178 (by omega)]⟩
    unfold CAK
    rcases h with ⟨q1, rfl, q3, q4, q5⟩ | ⟨q1, rfl, ⟨q3, q4, q5, q6⟩, q7, q8⟩
    · refine ⟨fun x => absurd x (by omega), fun _ => ?_⟩
      exact Or.inr ⟨he, fr, one, bk, Or.inl ⟨q1, q3.1, q3, q4, q5⟩⟩
    · refine ⟨fun _ => ?_, fun x => absurd rfl x⟩
      exact Or.inr ⟨he, fr, one, bk, Or.inr ⟨q1, rfl, ⟨by rw [q3, x157.1], by rw [q4, x157.2.1], by rw [q5, x157.2.2.1], by rw [q6, x157.2.2.2]⟩, q7, q8⟩⟩
  · rw [if_neg he]
    exact ⟨fun x => absurd rfl x, fun _ => Or.inl ⟨he, rfl, rfl⟩⟩
end BD
