/-! ASKS: the class puts two sets together -/
section AT
variable {l : Launch} {d : Nat} {ω t : Int → Int} {σ : jH} {e n p c b : Int} {A B : Int → Bool}
/-- one of the set is in the line -/
def lnB (W : Int) (ln : Int → Int) (B : Int → Bool) (j : Int) (m : Nat) : Bool := anB (fun q => B q && decide (ln q = j)) m
theorem l_ms_52 (hd : 11 ≤ d) (H : CDR σ ω) (W : OKW ω) (he : 0 ≤ e ∧ e ≤ 1) (h4 : σ 157 4 = wb e) : ∀ (k i : Nat) (τ : jH), (i : Int) + k = (wW ω e).1 → (∀ c', c' ≠ 174 → c' ≠ 175 → τ c' = σ c') → (∀ j, 0 ≤ j → j < 40 → τ 175 j = b2i (lnB (wW ω e).1 (wW ω e).2.2.1 B j (wW ω e).1.toNat)) → (∀ q : Int, 0 ≤ q → q < i → τ 174 q = b2i (lnB (wW ω e).1 (wW ω e).2.2.1 B ((wW ω e).2.2.1 q) (wW ω e).1.toNat)) →
    Ev (l, (fun _ => 0), 0) d 0 0 m_Asker_markSameLine (RW fun _ τ => (∀ c', c' ≠ 174 → c' ≠ 175 → τ c' = σ c') ∧ ∀ q, 0 ≤ q → q < (wW ω e).1 → τ 174 q = b2i (lnB (wW ω e).1 (wW ω e).2.2.1 B ((wW ω e).2.2.1 q) (wW ω e).1.toNat)) 66 [some (vR 157), none, some (vI (wW ω e).1), some (vI i), none] [] gW τ 0 0
  | 0, i, τ, hi, F, V5, V4 => by
    refine jwp_sound t_Asker_markSameLine _ (b_Asker_markSameLine_66 ?_)
    exact ⟨fun _ => ⟨rfl, F, fun q a b => V4 q a (by omega)⟩, fun x => absurd x (by omega)⟩
  | k + 1, i, τ, hi, F, V5, V4 => by
    have w := W.n he
    have l40 := w.2.2.2.1
    have hW := wb_i he
    have wbr : wb e = 105 ∨ wb e = 120 := hW
    have lr := (W_lines (ω := ω) (e := e) (p := i) w.2.2.1 (by omega) (by omega)).1
    have cl := ((H.W he).1.2.1 i (by omega) (by omega)).1
    refine jwp_sound t_Asker_markSameLine _ (b_Asker_markSameLine_66 ?_)
    simp only [RW, true_and, and_true, and_self, true_or, or_true, Nat.reduceLeDiff, Nat.reduceEqDiff, Nat.reduceAdd, Int.reduceLE, Int.reduceLT, Int.reduceEq, Int.reduceNeg, Int.reduceNe, Nat.reduceSub, reduceIte, implies_true, gt_157, gr_157_7, gt_174, gr_157_8, gt_175]
    rw [F 157 (by omega) (by omega), h4]
    simp only [wd_t hW, wd_r2 hW, wd_t2 hW, true_and]
    refine ⟨fun x => absurd x (by omega), fun _ => ⟨fun x => absurd x (by omega), fun _ => ?_⟩⟩
    have Hτ : CDR τ ω := CDR_eq (fun c' x y => F c' (by omega) (by omega)) H
    refine cN_p (c_lineOfPlace Hτ W he ⟨by omega, by omega⟩) (by omega) ?_
    have w8b : ∀ z : Bool, w8 (b2i z) = b2i z := fun z => by cases z <;> decide
    rw [V5 _ lr.1 (by omega), w32_of (x := (i : Int) + 1) (by omega) (by omega), w8b]
    refine ⟨fun x => absurd x (by omega), fun _ => ⟨fun x => absurd x (by omega), fun _ => ?_⟩⟩
    repeat (refine And.intro (by omega) ?_)
    have IH := l_ms_52 hd H W he h4 k (i + 1) (ju τ 174 i (b2i (lnB (wW ω e).1 (wW ω e).2.2.1 B ((wW ω e).2.2.1 i) (wW ω e).1.toNat))) (by omega) (fun c' x y => by rw [ju_row x, F c' x y]) (fun j x y => by rw [ju_row (by omega)]; exact V5 j x y) (fun q x y => by
      by_cases g : q = i
      · rw [g, ju_self]
      · rw [ju_ne2 g]
        exact V4 q x (by omega))
    rw [show ((i + 1 : Nat) : Int) = (i : Int) + 1 by omega] at IH
    exact IH
theorem l_ms_10 (hd : 11 ≤ d) (H : CDR σ ω) (W : OKW ω) (he : 0 ≤ e ∧ e ≤ 1) (h4 : σ 157 4 = wb e) (hb : isSet b) (S : SET σ b (wW ω e).1 B) : ∀ (k i : Nat) (τ : jH), (i : Int) + k = (wW ω e).1 → (∀ c', c' ≠ 174 → c' ≠ 175 → τ c' = σ c') → (∀ j, 0 ≤ j → j < 40 → τ 175 j = b2i (lnB (wW ω e).1 (wW ω e).2.2.1 B j i)) →
    Ev (l, (fun _ => 0), 0) d 0 0 m_Asker_markSameLine (RW fun _ τ => (∀ c', c' ≠ 174 → c' ≠ 175 → τ c' = σ c') ∧ ∀ q, 0 ≤ q → q < (wW ω e).1 → τ 174 q = b2i (lnB (wW ω e).1 (wW ω e).2.2.1 B ((wW ω e).2.2.1 q) (wW ω e).1.toNat)) 10 [some (vR 157), some (vR b), some (vI (wW ω e).1), some (vI i), none] [] gW τ 0 0
  | 0, i, τ, hi, F, V5 => by
    have go := l_ms_52 (l := l) (σ := σ) (B := B) hd H W he h4 (wW ω e).1.toNat 0 τ (by omega) F (fun j x y => by rw [V5 j x y, show (wW ω e).1.toNat = i by omega]) (fun q x y => by omega)
    refine jwp_sound t_Asker_markSameLine _ (b_Asker_markSameLine_10 ?_)
    exact ⟨fun _ => go, fun x => absurd x (by omega)⟩
  | k + 1, i, τ, hi, F, V5 => by
    have hbb := hb
    unfold isSet at hbb
    have gs := gt_set hb
    have w := W.n he
    have l40 := w.2.2.2.1
    have hW := wb_i he
    have wbr : wb e = 105 ∨ wb e = 120 := hW
    have lr := (W_lines (ω := ω) (e := e) (p := i) w.2.2.1 (by omega) (by omega)).1
    have cl := ((H.W he).1.2.1 i (by omega) (by omega)).1
    have IH := l_ms_10 hd H W he h4 hb S k (i + 1)
    rw [show ((i + 1 : Nat) : Int) = (i : Int) + 1 by omega] at IH
    have s1 := set_1 S (q := i) (by omega) (by omega)
    refine jwp_sound t_Asker_markSameLine _ (b_Asker_markSameLine_10 ?_)
    simp only [RW, true_and, and_true, and_self, true_or, or_true, Nat.reduceLeDiff, Nat.reduceEqDiff, Nat.reduceAdd, Int.reduceLE, Int.reduceLT, Int.reduceEq, Int.reduceNeg, Int.reduceNe, Nat.reduceSub, reduceIte, implies_true, gt_157, gr_157_7, gt_174, gr_157_8, gt_175, gs]
    rw [F 157 (by omega) (by omega), h4]
    simp only [wd_t hW, true_and]
    refine ⟨fun x => absurd x (by omega), fun _ => ⟨fun x => absurd x (by omega), fun _ => ?_⟩⟩
    have Hτ : CDR τ ω := CDR_eq (fun c' x y => F c' (by omega) (by omega)) H
    refine cN_p (c_lineOfPlace Hτ W he ⟨by omega, by omega⟩) (by omega) ?_
    rw [F b (by omega) (by omega), w32_of (x := (i : Int) + 1) (by omega) (by omega), show w8 1 = 1 by decide]
    refine ⟨fun x => absurd x (by omega), fun _ => ⟨fun x => absurd x (by omega), fun _ => ⟨by omega, by omega, fun y => ?_, fun y => ?_⟩⟩⟩
    · refine IH τ (by omega) F (fun j x z => ?_)
      rw [V5 j x z]
      unfold lnB
      simp only [anB]
      have nb : B i = false := by
        cases g : B i with
        | false => rfl
        | true => exact absurd (s1.mpr g) y
      rw [nb, Bool.false_and, Bool.or_false]
    · have yb := s1.mp y
      repeat (refine And.intro (by omega) ?_)
      refine IH _ (by omega) (fun c' x z => by rw [ju_row z, F c' x z]) (fun j x z => ?_)
      unfold lnB
      simp only [anB]
      rw [yb, Bool.true_and]
      by_cases g : j = (wW ω e).2.2.1 i
      · rw [g, ju_self, decide_eq_true rfl, Bool.or_true]
        rfl
      · rw [ju_ne2 g, V5 j x z, decide_eq_false (fun x => g x.symm), Bool.or_false]
        rfl
theorem c_markSameLine (H : CDR σ ω) (W : OKW ω) (he : 0 ≤ e ∧ e ≤ 1) (h4 : σ 157 4 = wb e) (hb : isSet b) (S : SET σ b (wW ω e).1 B) : Cw 11 m_Asker_markSameLine [vR 157, vR b, vI (wW ω e).1] σ (fun _ τ => (∀ c', c' ≠ 174 → c' ≠ 175 → τ c' = σ c') ∧ ∀ q, 0 ≤ q → q < (wW ω e).1 → τ 174 q = b2i (lnB (wW ω e).1 (wW ω e).2.2.1 B ((wW ω e).2.2.1 q) (wW ω e).1.toNat)) := by
  have hbb := hb
  unfold isSet at hbb
  have w := W.n he
  refine Cw_of o_Asker_markSameLine rfl fun l d hd => jwp_sound t_Asker_markSameLine _ (b_Asker_markSameLine_0 ?_)
  simp only [RW, true_and, and_true, and_self, true_or, or_true, Nat.reduceLeDiff, Nat.reduceEqDiff, Nat.reduceAdd, Int.reduceLE, Int.reduceLT, Int.reduceEq, Int.reduceNeg, Int.reduceNe, Nat.reduceSub, reduceIte, implies_true, gt_157, gr_157_7, gt_174, gr_157_8, gt_175]
  refine cN_v (c_Arrays_fill2 (n := 40) 0 _ gt_175 (by omega) (by omega) (by decide)) (by omega) (fun _ => ?_)
  have fr : ∀ c', c' ≠ 175 → jfill σ 175 0 40 0 c' = σ c' := fun c' h => jfill_row h
  have go := l_ms_10 (l := l) (σ := jfill σ 175 0 40 0) (B := B) (b := b) hd (CDR_eq (fun c' x y => fr c' (by omega)) H) W he (by rw [fr 157 (by omega)]; exact h4) hb (fun q x y => by rw [fr b (by omega)]; exact S q x y) (wW ω e).1.toNat 0 _ (by omega) (fun _ _ _ => rfl) (fun j x y => by
    rw [jfill_in x y]
    rfl)
  exact Ev_post go (fun _ τ h => ⟨fun c' x y => by rw [h.1 c' x y, fr c' y], h.2⟩)
end AT
