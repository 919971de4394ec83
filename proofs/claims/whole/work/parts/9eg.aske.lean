/-! ASKS: the class's answers -/
def sI (S : Int → Bool) : Int → Int := fun q => b2i (S q)
/-- so many answers, and which -/
def ANC (σ : jH) (N : Int) (f g h : Int → Int) : Prop := σ 157 9 = N ∧ (0 ≤ N ∧ N ≤ 300) ∧ ∀ i, 0 ≤ i → i < N → σ 176 i = f i ∧ σ 177 i = g i ∧ σ 178 i = h i
def anF (W : Int) (S : Int → Bool) (i : Int) : Int := fnd (sI S) 1 i W.toNat
def anO (ω : Int → Int) (e p : Int) : Int := cq (wW ω e).2.2.1 p.toNat ((wW ω e).2.2.1 p)
section BC
variable {l : Launch} {d : Nat} {ω t : Int → Int} {σ : jH} {e n p c : Int}
theorem sI_1 {S : Int → Bool} {q : Int} : sI S q = 1 ↔ S q = true := by
  unfold sI b2i
  cases S q <;> decide
theorem l_pd_7 {S : Int → Bool} (hd : 11 ≤ d) (H : CDR σ ω) (W : OKW ω) (he : 0 ≤ e ∧ e ≤ 1) (h4 : σ 157 4 = wb e) (V : SET σ 160 (wW ω e).1 S) : ∀ (k i : Nat) (τ : jH), (i : Int) + k = (wW ω e).1 → (∀ c', c' ≠ 157 → c' ≠ 176 → c' ≠ 177 → c' ≠ 178 → τ c' = σ c') → (∀ j, j ≠ 9 → τ 157 j = σ 157 j) → τ 157 9 = cq (sI S) i 1 → (∀ q : Int, 0 ≤ q → q < i → S q = true → τ 176 (cq (sI S) q.toNat 1) = q ∧ τ 177 (cq (sI S) q.toNat 1) = (wW ω e).2.2.1 q ∧ τ 178 (cq (sI S) q.toNat 1) = anO ω e q) →
    Ev (l, (fun _ => 0), 0) d 0 0 m_Asker_putDown (RW fun _ τ => (∀ c', c' ≠ 157 → c' ≠ 176 → c' ≠ 177 → c' ≠ 178 → τ c' = σ c') ∧ (∀ j, j ≠ 9 → τ 157 j = σ 157 j) ∧ ANC τ (cq (sI S) (wW ω e).1.toNat 1) (anF (wW ω e).1 S) (fun i => (wW ω e).2.2.1 (anF (wW ω e).1 S i)) (fun i => anO ω e (anF (wW ω e).1 S i))) 7 [some (vR 157), some (vR 160), some (vI i)] [] gW τ 0 0
  | 0, i, τ, hi, F, F2, C, Q => by
    have w := W.n he
    have hW := wb_i he
    have wbr : wb e = 105 ∨ wb e = 120 := hW
    have cnt : τ (wb e) 0 = (wW ω e).1 := by rw [F (wb e) (by omega) (by omega) (by omega) (by omega)]; exact (H.W he).1.1
    have ei : (wW ω e).1.toNat = i := by omega
    refine jwp_sound t_Asker_putDown _ (b_Asker_putDown_7 ?_)
    simp only [RW, true_and, and_true, and_self, true_or, or_true, Nat.reduceLeDiff, Nat.reduceEqDiff, Nat.reduceAdd, Int.reduceLE, Int.reduceLT, Int.reduceEq, Int.reduceNeg, Int.reduceNe, Nat.reduceSub, reduceIte, implies_true, gt_157, gr_157_10, gt_176, gr_157_11, gt_177, gr_157_12, gt_178, gt_160]
    rw [F2 4 (by omega), h4]
    simp only [wd_t hW, true_and]
    refine cN_p (c_has hW cnt w.2.1 (i : Int)) (by omega) ?_
    rw [if_neg (show ¬ (0 ≤ (i : Int) ∧ (i : Int) < (wW ω e).1) by omega)]
    refine ⟨fun _ => ⟨F, F2, ?_⟩, fun x => absurd rfl x⟩
    have r := cq_r (sI S) 1 (wW ω e).1.toNat
    refine ⟨by rw [ei]; exact C, ⟨r.1, by omega⟩, fun j a b => ?_⟩
    have y := fnd_yes (w := sI S) (f := 1) (n := (wW ω e).1.toNat) a b
    rcases fnd_r (w := sI S) (f := 1) (i := j) (wW ω e).1.toNat with r0 | ⟨r1, r2, r3, r4⟩
    · omega
    · have q := Q _ r1 (by omega) (sI_1.mp r3)
      rw [r4] at q
      exact q
  | k + 1, i, τ, hi, F, F2, C, Q => by
    have w := W.n he
    have hW := wb_i he
    have wbr : wb e = 105 ∨ wb e = 120 := hW
    have cnt : τ (wb e) 0 = (wW ω e).1 := by rw [F (wb e) (by omega) (by omega) (by omega) (by omega)]; exact (H.W he).1.1
    obtain ⟨c4, c5, c6⟩ := (H.W he).1.2.1 i (by omega) (by omega)
    have r := cq_r (sI S) 1 i
    have cs : cq (sI S) (i + 1) 1 = cq (sI S) i 1 + (if S i = true then 1 else 0) := by
      have := cq_s (w := sI S) (p := (i : Int)) (by omega) 1
      rw [show ((i : Int) + 1).toNat = i + 1 by omega, show ((i : Int)).toNat = i by omega] at this
      rw [this]
      by_cases g : S i = true
      · rw [if_pos g, if_pos (sI_1.mpr g)]
      · rw [if_neg g, if_neg (fun x => g (sI_1.mp x))]
    have s1 := set_1 V (q := i) (by omega) (by omega)
    have IH := l_pd_7 hd H W he h4 V k (i + 1)
    rw [show ((i + 1 : Nat) : Int) = (i : Int) + 1 by omega, cs] at IH
    refine jwp_sound t_Asker_putDown _ (b_Asker_putDown_7 ?_)
    simp only [RW, true_and, and_true, and_self, true_or, or_true, Nat.reduceLeDiff, Nat.reduceEqDiff, Nat.reduceAdd, Int.reduceLE, Int.reduceLT, Int.reduceEq, Int.reduceNeg, Int.reduceNe, Nat.reduceSub, reduceIte, implies_true, gt_157, gr_157_10, gt_176, gr_157_11, gt_177, gr_157_12, gt_178, gt_160]
    rw [F2 4 (by omega), h4]
    simp only [wd_t hW, true_and]
    refine cN_p (c_has hW cnt w.2.1 (i : Int)) (by omega) ?_
    rw [if_pos (show 0 ≤ (i : Int) ∧ (i : Int) < (wW ω e).1 by omega), F 160 (by omega) (by omega) (by omega) (by omega), C, w32_of (x := (i : Int) + 1) (by omega) (by omega)]
    refine ⟨fun x => by omega, fun _ => ⟨fun x => absurd x (by omega), fun _ => ⟨fun x => absurd x (by omega), fun _ => ⟨by omega, by omega, fun y => ?_, fun y => ?_⟩⟩⟩⟩
    · have nb : ¬ S i = true := fun g => y (s1.mpr g)
      refine IH τ (by omega) F F2 (by rw [if_neg nb, C]; omega) (fun q a b g => ?_)
      by_cases z : q = i
      · rw [z] at g
        exact absurd g nb
      · exact Q q a (by omega) g
    · have yb := s1.mp y
      have e157 : ∀ (υ : jH) a v, (a = 176 ∨ a = 177 ∨ a = 178) → ∀ x, ju υ a x v 157 = υ 157 := fun υ a v h x => ju_row (by omega)
      simp (disch := omega) only [e157, ju_row]
      rw [F2 4 (by omega), h4, C]
      simp only [wd_t hW, wd_r2 hW, wd_t2 hW, wd_r3 hW, wd_t3 hW, true_and]
      simp (disch := omega) only [ju_row]
      rw [F (wb e + 4) (by omega) (by omega) (by omega) (by omega), F (wb e + 5) (by omega) (by omega) (by omega) (by omega), c4, c5, w32_of (x := cq (sI S) i 1 + 1) (by omega) (by omega)]
      repeat (refine And.intro (by omega) ?_)
      refine IH _ (by omega) (fun c' a b f g => by rw [ju_row a, ju_row g, ju_row f, ju_row b, F c' a b f g]) (fun j hj => by rw [ju_ne2 hj, ju_row (by omega), ju_row (by omega), ju_row (by omega), F2 j hj]) (by rw [if_pos yb, ju_self]) (fun q a b g => ?_)
      by_cases z : q = i
      · rw [z, show ((i : Int)).toNat = i by omega]
        refine ⟨?_, ?_, ?_⟩
        · rw [ju_row (by omega), ju_row (by omega), ju_row (by omega), ju_self]
        · rw [ju_row (by omega), ju_row (by omega), ju_self]
        · rw [ju_row (by omega), ju_self]
          unfold anO
          rw [show ((i : Int)).toNat = i by omega]
      · have lt := cq_lt2 (w := sI S) (p := q) (q := i) a (by omega) (by rw [sI_1.mpr g, sI_1.mpr yb])
        rw [sI_1.mpr g, sI_1.mpr yb, show ((i : Int)).toNat = i by omega] at lt
        obtain ⟨q1, q2, q3⟩ := Q q a (by omega) g
        refine ⟨?_, ?_, ?_⟩
        · rw [ju_row (by omega), ju_row (by omega), ju_row (by omega), ju_ne2 (by omega)]
          exact q1
        · rw [ju_row (by omega), ju_row (by omega), ju_ne2 (by omega), ju_row (by omega)]
          exact q2
        · rw [ju_row (by omega), ju_ne2 (by omega), ju_row (by omega), ju_row (by omega)]
          exact q3
theorem c_putDown {S : Int → Bool} (H : CDR σ ω) (W : OKW ω) (he : 0 ≤ e ∧ e ≤ 1) (h4 : σ 157 4 = wb e) (V : SET σ 160 (wW ω e).1 S) : Cw 11 m_Asker_putDown [vR 157, vR 160] σ (fun _ τ => (∀ c', c' ≠ 157 → c' ≠ 176 → c' ≠ 177 → c' ≠ 178 → τ c' = σ c') ∧ (∀ j, j ≠ 9 → τ 157 j = σ 157 j) ∧ ANC τ (cq (sI S) (wW ω e).1.toNat 1) (anF (wW ω e).1 S) (fun i => (wW ω e).2.2.1 (anF (wW ω e).1 S i)) (fun i => anO ω e (anF (wW ω e).1 S i))) := by
  have w := W.n he
  refine Cw_of o_Asker_putDown rfl fun l d hd => jwp_sound t_Asker_putDown _ (b_Asker_putDown_0 ?_)
  simp only [RW, true_and, and_true, and_self, true_or, or_true, Nat.reduceLeDiff, Nat.reduceEqDiff, Nat.reduceAdd, Int.reduceLE, Int.reduceLT, Int.reduceEq, Int.reduceNeg, Int.reduceNe, Nat.reduceSub, reduceIte, implies_true, gt_157, gr_157_10, gt_176, gr_157_11, gt_177, gr_157_12, gt_178]
  have go := l_pd_7 (l := l) (σ := ju σ 157 9 0) (S := S) hd (CDR_eq (fun c' a b => ju_row (by omega)) H) W he (by rw [ju_ne2 (by omega)]; exact h4) (fun q a b => by rw [ju_row (by omega)]; exact V q a b) (wW ω e).1.toNat 0 _ (by omega) (fun _ _ _ _ _ => rfl) (fun _ _ => rfl) (by rw [ju_self]; rfl) (fun q a b => by omega)
  exact Ev_post go (fun _ τ h => ⟨fun c' a b f g => by rw [h.1 c' a b f g, ju_row a], fun j hj => by rw [h.2.1 j hj, ju_ne2 hj], h.2.2⟩)
end BC
