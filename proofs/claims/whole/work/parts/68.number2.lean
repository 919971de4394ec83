/-! The class: number, fillLists -/
section NU
variable {l : Launch} {d : Nat} {b : Int} {φ : Int → Int} {s : wS} {σ : jH} {n : Int}
def FRN (σ τ : jH) (b : Int) : Prop := (∀ c, c ≠ b → c ≠ b + 7 → c ≠ b + 8 → c ≠ b + 9 → c ≠ b + 10 → τ c = σ c) ∧ ∀ j, j ≠ 9 → τ b j = σ b j
theorem FRN.rf : FRN σ σ b := ⟨fun _ _ _ _ _ _ => rfl, fun _ _ => rfl⟩
theorem FRN.tr {τ υ : jH} (h : FRN σ τ b) (h' : FRN τ υ b) : FRN σ υ b := ⟨fun c a1 a2 a3 a4 a5 => (h'.1 c a1 a2 a3 a4 a5).trans (h.1 c a1 a2 a3 a4 a5), fun j hj => (h'.2 j hj).trans (h.2 j hj)⟩
/-- each word's form -/
def WFC (σ τ : jH) (b : Int) (φ : Int → Int) (s : wS) (n p : Int) : Prop := ∀ q, 0 ≤ q → q < p → 0 ≤ τ (b + 7) q ∧ τ (b + 7) q < n ∧ kk σ 98 (τ (b + 7) q) = km φ (s.2.2.2.2.1 q)
/-- forms' lists -/
def LST (σ τ : jH) (b : Int) (φ : Int → Int) (s : wS) (n : Int) : Prop := WFC σ τ b φ s n s.1 ∧ (∀ f, 0 ≤ f → f < 600 → τ (b + 8) f = cq (τ (b + 7)) s.1.toNat f) ∧ (∀ f, 0 ≤ f → f < 600 → τ (b + 10) f = sq (cq (τ (b + 7)) s.1.toNat) f.toNat) ∧ (∀ p, 0 ≤ p → p < s.1 → τ (b + 9) (lpl (τ (b + 7)) s.1.toNat p) = p) ∧ τ b 9 = sq (fun f => if 0 < cq (τ (b + 7)) s.1.toNat f then 1 else 0) 600
theorem l_fillLists (hd : 10 ≤ d) (hW : isWords b) (h0 : 0 ≤ s.1) (h3 : s.1 ≤ 300) (hn : n ≤ 600) : ∀ (k : Nat) (τ : jH), (k : Int) ≤ s.1 → FRN σ τ b → WFC σ τ b φ s n s.1 → (∀ f, 0 ≤ f → f < 600 → τ (b + 8) f = cq (τ (b + 7)) s.1.toNat f) → (∀ f, 0 ≤ f → f < 600 → τ (b + 10) f = sq (cq (τ (b + 7)) s.1.toNat) f.toNat + cq (τ (b + 7)) k f) → (∀ p : Int, k ≤ p → p < s.1 → τ (b + 9) (lpl (τ (b + 7)) s.1.toNat p) = p) → τ b 9 = sq (fun f => if 0 < cq (τ (b + 7)) s.1.toNat f then 1 else 0) 600 →
    Ev (l, (fun _ => 0), 0) d 0 0 m_Words_fillLists (RW fun _ τ => LST σ τ b φ s n ∧ FRN σ τ b) 13 [some (vR b), some (vI ((k : Int) - 1)), none] [] gW τ 0 0
  | 0, τ, hk, F, w1, w2, w3, w4, w5 => by
    refine jwp_sound t_Words_fillLists _ (b_Words_fillLists_13 ?_)
    simp only [RW, true_and, and_true, and_self, true_or, or_true, Nat.reduceLeDiff, Nat.reduceEqDiff, Nat.reduceAdd, Int.reduceLE, Int.reduceLT, Int.reduceEq, Int.reduceNeg, Int.reduceNe, Nat.reduceSub, reduceIte, implies_true, wd_t hW, wd_r1 hW, wd_t1 hW, wd_r2 hW, wd_t2 hW, wd_r3 hW, wd_t3 hW, wd_r4 hW, wd_t4 hW, wd_r5 hW, wd_t5 hW, wd_r6 hW, wd_t6 hW, wd_r7 hW, wd_t7 hW, wd_r8 hW, wd_t8 hW, wd_r10 hW, wd_t10 hW, wd_r11 hW, wd_t11 hW, wd_r12 hW, wd_t12 hW, wd_r13 hW, wd_t13 hW]
    refine ⟨fun _ => ⟨⟨w1, w2, fun f f0 f1 => ?_, fun p p0 p1 => w4 p (by omega) p1, w5⟩, F⟩, fun q => absurd q (by omega)⟩
    rw [w3 f f0 f1]
    simp [cq]
  | k + 1, τ, hk, F, w1, w2, w3, w4, w5 => by
    have hw : ∀ p : Int, 0 ≤ p → p < s.1.toNat → 0 ≤ τ (b + 7) p ∧ τ (b + 7) p < (600 : Nat) := fun p a c => by
      have := w1 p a (by omega)
      omega
    obtain ⟨x1, x2, x3⟩ := w1 k (by omega) (by omega)
    have e1 : ((k + 1 : Nat) : Int) - 1 = k := by omega
    have st := w3 (τ (b + 7) k) x1 (by omega)
    have lp := lpl_lt hw (p := (k : Int)) (by omega) (by omega)
    have elp : lpl (τ (b + 7)) s.1.toNat (k : Int) = sq (cq (τ (b + 7)) s.1.toNat) (τ (b + 7) k).toNat + cq (τ (b + 7)) k (τ (b + 7) k) := by
      unfold lpl
      rw [show ((k : Int)).toNat = k by omega]
    have ck : cq (τ (b + 7)) (k + 1) (τ (b + 7) k) = cq (τ (b + 7)) k (τ (b + 7) k) + 1 := by
      show cq (τ (b + 7)) k (τ (b + 7) k) + (if τ (b + 7) k = τ (b + 7) k then 1 else 0) = _
      rw [if_pos rfl]
    have st2 : τ (b + 10) (τ (b + 7) k) = lpl (τ (b + 7)) s.1.toNat (k : Int) + 1 := by omega
    refine jwp_sound t_Words_fillLists _ (b_Words_fillLists_13 ?_)
    simp only [RW, true_and, and_true, and_self, true_or, or_true, Nat.reduceLeDiff, Nat.reduceEqDiff, Nat.reduceAdd, Int.reduceLE, Int.reduceLT, Int.reduceEq, Int.reduceNeg, Int.reduceNe, Nat.reduceSub, reduceIte, implies_true, wd_t hW, wd_r1 hW, wd_t1 hW, wd_r2 hW, wd_t2 hW, wd_r3 hW, wd_t3 hW, wd_r4 hW, wd_t4 hW, wd_r5 hW, wd_t5 hW, wd_r6 hW, wd_t6 hW, wd_r7 hW, wd_t7 hW, wd_r8 hW, wd_t8 hW, wd_r10 hW, wd_t10 hW, wd_r11 hW, wd_t11 hW, wd_r12 hW, wd_t12 hW, wd_r13 hW, wd_t13 hW]
    rw [e1, st2, w32_of (x := (k : Int) + -1) (by omega) (by omega), w32_of (x := lpl (τ (b + 7)) s.1.toNat (k : Int) + 1 - 1) (by omega) (by omega), ju_self, show lpl (τ (b + 7)) s.1.toNat (k : Int) + 1 - 1 = lpl (τ (b + 7)) s.1.toNat (k : Int) by omega]
    refine ⟨fun q => absurd q (by omega), fun _ => ⟨by omega, by omega, fun q => absurd q (by omega), fun _ => ⟨fun q => absurd q (by omega), fun _ => ⟨by omega, by omega, fun q => absurd q (by omega), fun _ => ⟨by omega, by omega, fun q => absurd q (by omega), fun _ => ?_⟩⟩⟩⟩⟩
    repeat (refine And.intro (by omega) ?_)
    have r7 : ∀ v i2 v2, ju (ju τ (b + 10) (τ (b + 7) k) v) (b + 9) i2 v2 (b + 7) = τ (b + 7) := fun v i2 v2 => by rw [ju_row (by omega), ju_row (by omega)]
    have r8 : ∀ v i2 v2, ju (ju τ (b + 10) (τ (b + 7) k) v) (b + 9) i2 v2 (b + 8) = τ (b + 8) := fun v i2 v2 => by rw [ju_row (by omega), ju_row (by omega)]
    have := l_fillLists hd hW h0 h3 hn k (ju (ju τ (b + 10) (τ (b + 7) k) (lpl (τ (b + 7)) s.1.toNat (k : Int))) (b + 9) (lpl (τ (b + 7)) s.1.toNat (k : Int)) k) (by omega) (F.tr ⟨fun c a1 a2 a3 a4 a5 => by rw [ju_row a4, ju_row a5], fun j hj => by rw [ju_row (by omega), ju_row (by omega)]⟩) ?_ ?_ ?_ ?_ ?_
    · rw [show (k : Int) + -1 = (k : Int) - 1 by omega]
      exact this
    · unfold WFC
      rw [r7]
      exact w1
    · rw [r7, r8]
      exact w2
    · intro f f0 f1
      rw [r7, ju_row (by omega : b + 10 ≠ b + 9)]
      by_cases hf : f = τ (b + 7) k
      · rw [hf, ju_self]
        omega
      · rw [ju_ne2 hf, w3 f f0 f1]
        show _ + (cq (τ (b + 7)) k f + (if τ (b + 7) k = f then 1 else 0)) = _
        rw [if_neg (fun x => hf x.symm)]
        omega
    · intro p p0 p1
      rw [r7]
      by_cases hp : p = k
      · rw [hp, ju_self]
      · rw [ju_ne2 (lpl_inj hw (by omega) (by omega) (by omega) (by omega) hp), ju_row (by omega)]
        exact w4 p (by omega) p1
    · rw [r7, ju_row (by omega), ju_row (by omega)]
      exact w5
theorem l_num_98 (hd : 12 ≤ d) (hW : isWords b) (h0 : 0 ≤ s.1) (h3 : s.1 ≤ 300) (hn : n ≤ 600) (hb0 : σ b 0 = s.1) : ∀ (k f : Nat) (τ : jH), f + k = 600 → FRN σ τ b → WFC σ τ b φ s n s.1 → (∀ f, 0 ≤ f → f < 600 → τ (b + 8) f = cq (τ (b + 7)) s.1.toNat f) → (∀ g : Int, 0 ≤ g → g < f → τ (b + 10) g = sq (cq (τ (b + 7)) s.1.toNat) (g + 1).toNat) → τ b 9 = sq (fun f => if 0 < cq (τ (b + 7)) s.1.toNat f then 1 else 0) f →
    Ev (l, (fun _ => 0), 0) d 0 0 m_Words_number (RW fun _ τ => LST σ τ b φ s n ∧ FRN σ τ b) 98 [some (vR b), none, none, some (vI (sq (cq (τ (b + 7)) s.1.toNat) f)), some (vI f)] [] gW τ 0 0
  | 0, f, τ, hk, F, w1, w2, w3, w5 => by
    refine jwp_sound t_Words_number _ (b_Words_number_98 ?_)
    simp only [RW, true_and, and_true, and_self, true_or, or_true, Nat.reduceLeDiff, Nat.reduceEqDiff, Nat.reduceAdd, Int.reduceLE, Int.reduceLT, Int.reduceEq, Int.reduceNeg, Int.reduceNe, Nat.reduceSub, reduceIte, implies_true, wd_t hW, wd_r1 hW, wd_t1 hW, wd_r2 hW, wd_t2 hW, wd_r3 hW, wd_t3 hW, wd_r4 hW, wd_t4 hW, wd_r5 hW, wd_t5 hW, wd_r6 hW, wd_t6 hW, wd_r7 hW, wd_t7 hW, wd_r8 hW, wd_t8 hW, wd_r10 hW, wd_t10 hW, wd_r11 hW, wd_t11 hW, wd_r12 hW, wd_t12 hW, wd_r13 hW, wd_t13 hW]
    refine ⟨fun _ => ?_, fun q => absurd q (by omega)⟩
    refine cN_w (D := 10) (P := fun _ τ => LST σ τ b φ s n ∧ FRN σ τ b) ?_ (by omega) (fun _ υ U => U)
    refine Cw_of o_Words_fillLists rfl fun l d hd => jwp_sound t_Words_fillLists _ (b_Words_fillLists_0 ?_)
    simp only [RW, true_and, and_true, and_self, true_or, or_true, Nat.reduceLeDiff, Nat.reduceEqDiff, Nat.reduceAdd, Int.reduceLE, Int.reduceLT, Int.reduceEq, Int.reduceNeg, Int.reduceNe, Nat.reduceSub, reduceIte, implies_true, wd_t hW, wd_r1 hW, wd_t1 hW, wd_r2 hW, wd_t2 hW, wd_r3 hW, wd_t3 hW, wd_r4 hW, wd_t4 hW, wd_r5 hW, wd_t5 hW, wd_r6 hW, wd_t6 hW, wd_r7 hW, wd_t7 hW, wd_r8 hW, wd_t8 hW, wd_r10 hW, wd_t10 hW, wd_r11 hW, wd_t11 hW, wd_r12 hW, wd_t12 hW, wd_r13 hW, wd_t13 hW]
    rw [F.2 0 (by omega), hb0, show min s.1 300 = s.1 by omega, w32_of (by omega) (by omega)]
    refine ⟨by omega, ?_⟩
    have := l_fillLists (l := l) (d := d) (φ := φ) (σ := σ) (n := n) hd hW h0 h3 hn s.1.toNat τ (by omega) F w1 w2 (fun f f0 f1 => ?_) (fun p p0 p1 => by omega) (by rw [w5, show f = 600 by omega])
    · rw [show ((s.1.toNat : Nat) : Int) = s.1 by omega] at this
      exact this
    · rw [w3 f f0 (by omega), show (f + 1).toNat = f.toNat + 1 by omega]
      show sq (cq (τ (b + 7)) s.1.toNat) f.toNat + cq (τ (b + 7)) s.1.toNat ((f.toNat : Nat) : Int) = _
      rw [show ((f.toNat : Nat) : Int) = f by omega]
  | k + 1, f, τ, hk, F, w1, w2, w3, w5 => by
    have hw : ∀ p : Int, 0 ≤ p → p < s.1.toNat → 0 ≤ τ (b + 7) p ∧ τ (b + 7) p < (600 : Nat) := fun p a c => by
      have := w1 p a (by omega)
      omega
    have c0 : ∀ k, 0 ≤ cq (τ (b + 7)) s.1.toNat k := fun k => (cq_r _ k _).1
    have tot := sq_cq (w := τ (b + 7)) (N := 600) s.1.toNat hw
    have m := sq_mono c0 (f + 1) (600 - (f + 1))
    rw [show f + 1 + (600 - (f + 1)) = 600 by omega, tot] at m
    have z := sq_0 c0 f
    have c0f := c0 f
    have m2 : sq (cq (τ (b + 7)) s.1.toNat) (f + 1) = sq (cq (τ (b + 7)) s.1.toNat) f + cq (τ (b + 7)) s.1.toNat f := rfl
    have of := w2 f (by omega) (by omega)
    have d0 : ∀ m : Nat, 0 ≤ sq (fun f => if 0 < cq (τ (b + 7)) s.1.toNat f then 1 else 0) m ∧ sq (fun f => if 0 < cq (τ (b + 7)) s.1.toNat f then 1 else 0) m ≤ m := by
      intro m
      induction m with
      | zero => exact ⟨Int.le_refl _, Int.le_refl _⟩
      | succ m ih =>
        simp only [sq]
        split <;> omega
    have df := d0 f
    have step : ∀ v : Int, v = (if 0 < cq (τ (b + 7)) s.1.toNat f then 1 else 0) → Ev (l, (fun _ => 0), 0) d 0 0 m_Words_number (RW fun _ τ => LST σ τ b φ s n ∧ FRN σ τ b) 126 [some (vR b), none, none, some (vI (sq (cq (τ (b + 7)) s.1.toNat) f)), some (vI f)] [vI v, vI (τ b 9), vR b] gW τ 0 0 := by
      intro v hv
      have hv2 : 0 ≤ v ∧ v ≤ 1 := by rw [hv]; split <;> omega
      refine jwp_sound t_Words_number _ (b_Words_number_126 ?_)
      simp only [RW, true_and, and_true, and_self, true_or, or_true, Nat.reduceLeDiff, Nat.reduceEqDiff, Nat.reduceAdd, Int.reduceLE, Int.reduceLT, Int.reduceEq, Int.reduceNeg, Int.reduceNe, Nat.reduceSub, reduceIte, implies_true, wd_t hW, wd_r1 hW, wd_t1 hW, wd_r2 hW, wd_t2 hW, wd_r3 hW, wd_t3 hW, wd_r4 hW, wd_t4 hW, wd_r5 hW, wd_t5 hW, wd_r6 hW, wd_t6 hW, wd_r7 hW, wd_t7 hW, wd_r8 hW, wd_t8 hW, wd_r10 hW, wd_t10 hW, wd_r11 hW, wd_t11 hW, wd_r12 hW, wd_t12 hW, wd_r13 hW, wd_t13 hW]
      rw [ju_row (by omega : b + 8 ≠ b), of, ← m2, w5, w32_of (x := _ + v) (by omega) (by omega), w32_of (x := sq _ _) (by omega) (by omega), w32_of (x := (f : Int) + 1) (by omega) (by omega)]
      have r7 : ∀ v i2 v2, ju (ju τ b 9 v) (b + 10) i2 v2 (b + 7) = τ (b + 7) := fun v i2 v2 => by rw [ju_row (by omega), ju_row (by omega)]
      have r8 : ∀ v i2 v2, ju (ju τ b 9 v) (b + 10) i2 v2 (b + 8) = τ (b + 8) := fun v i2 v2 => by rw [ju_row (by omega), ju_row (by omega)]
      refine ⟨by omega, by omega, by omega, by omega, ?_⟩
      have := l_num_98 hd hW h0 h3 hn hb0 k (f + 1) (ju (ju τ b 9 (sq (fun f => if 0 < cq (τ (b + 7)) s.1.toNat f then 1 else 0) f + v)) (b + 10) f (sq (cq (τ (b + 7)) s.1.toNat) (f + 1))) (by omega) (F.tr ⟨fun c a1 a2 a3 a4 a5 => by rw [ju_row a5, ju_row a1], fun j hj => by rw [ju_row (by omega), ju_ne2 hj]⟩) ?_ ?_ ?_ ?_
      · rw [r7] at this
        exact this
      · unfold WFC
        rw [r7]
        exact w1
      · rw [r7, r8]
        exact w2
      · intro g g0 g1
        rw [r7]
        by_cases hg : g = f
        · rw [hg, ju_self, show ((f : Int) + 1).toNat = f + 1 by omega]
        · rw [ju_ne2 hg, ju_row (by omega)]
          exact w3 g g0 (by omega)
      · rw [r7, ju_row (by omega), ju_self, hv]
        rfl
    refine jwp_sound t_Words_number _ (b_Words_number_98 ?_)
    simp only [RW, true_and, and_true, and_self, true_or, or_true, Nat.reduceLeDiff, Nat.reduceEqDiff, Nat.reduceAdd, Int.reduceLE, Int.reduceLT, Int.reduceEq, Int.reduceNeg, Int.reduceNe, Nat.reduceSub, reduceIte, implies_true, wd_t hW, wd_r1 hW, wd_t1 hW, wd_r2 hW, wd_t2 hW, wd_r3 hW, wd_t3 hW, wd_r4 hW, wd_t4 hW, wd_r5 hW, wd_t5 hW, wd_r6 hW, wd_t6 hW, wd_r7 hW, wd_t7 hW, wd_r8 hW, wd_t8 hW, wd_r10 hW, wd_t10 hW, wd_r11 hW, wd_t11 hW, wd_r12 hW, wd_t12 hW, wd_r13 hW, wd_t13 hW]
    rw [of]
    refine ⟨fun q => absurd q (by omega), fun _ => ⟨by omega, by omega, fun q => step 0 (by rw [if_neg (by omega)]), fun q => step 1 (by rw [if_pos q])⟩⟩
theorem l_num_10 (hd : 12 ≤ d) (hW : isWords b) (hφ : okρ φ) (C : CWD σ b φ s s.1) (h0 : 0 ≤ s.1) (h3 : s.1 ≤ 300) (F : FC σ n) (hset : ∀ p, 0 ≤ p → p < s.1 → FSC σ n (km φ (s.2.2.2.2.1 p))) : ∀ (k : Nat) (p : Int) (τ : jH), p + k = s.1 → 0 ≤ p → FRN σ τ b → WFC σ τ b φ s n p → (∀ f, 0 ≤ f → f < 600 → τ (b + 8) f = cq (τ (b + 7)) p.toNat f) →
    Ev (l, (fun _ => 0), 0) d 0 0 m_Words_number (RW fun _ τ => LST σ τ b φ s n ∧ FRN σ τ b) 10 [some (vR b), some (vR 98), some (vI n), some (vI p), none] [] gW τ 0 0
  | 0, p, τ, hk, hp, X, w1, w2 => by
    have hb : 102 < b := by unfold isWords at hW; omega
    have ep : p = s.1 := by omega
    rw [ep] at w1 w2
    refine jwp_sound t_Words_number _ (b_Words_number_10 ?_)
    simp only [RW, true_and, and_true, and_self, true_or, or_true, Nat.reduceLeDiff, Nat.reduceEqDiff, Nat.reduceAdd, Int.reduceLE, Int.reduceLT, Int.reduceEq, Int.reduceNeg, Int.reduceNe, Nat.reduceSub, reduceIte, implies_true, wd_t hW, wd_r1 hW, wd_t1 hW, wd_r2 hW, wd_t2 hW, wd_r3 hW, wd_t3 hW, wd_r4 hW, wd_t4 hW, wd_r5 hW, wd_t5 hW, wd_r6 hW, wd_t6 hW, wd_r7 hW, wd_t7 hW, wd_r8 hW, wd_t8 hW, wd_r10 hW, wd_t10 hW, wd_r11 hW, wd_t11 hW, wd_r12 hW, wd_t12 hW, wd_r13 hW, wd_t13 hW]
    rw [X.2 0 (by omega), C.1]
    refine ⟨fun _ => ?_, fun q => absurd q (by omega)⟩
    have r7 : ju τ b 9 0 (b + 7) = τ (b + 7) := ju_row (by omega)
    have := l_num_98 (l := l) (d := d) (φ := φ) (σ := σ) (n := n) hd hW h0 h3 F.2.1 C.1 600 0 (ju τ b 9 0) (by omega) (X.tr ⟨fun c a1 a2 a3 a4 a5 => ju_row a1, fun j hj => ju_ne2 hj⟩) (by unfold WFC; rw [r7]; exact w1) (by rw [r7, ju_row (by omega)]; exact w2) (fun g g0 g1 => by omega) (by rw [ju_self]; rfl)
    exact this
  | k + 1, p, τ, hk, hp, X, w1, w2 => by
    have hb : 102 < b := by unfold isWords at hW; omega
    obtain ⟨F1, F2, F3, F4, F5⟩ := F
    have kv := C.2.2.1 p hp (by omega)
    have kv1 : τ (b + 1 + 1) p = km φ (s.2.2.2.2.1 p) / 1125899906842624 := by rw [X.1 _ (by omega) (by omega) (by omega) (by omega) (by omega)]; exact kv.1
    have kv2 : τ (b + 1 + 2) p = km φ (s.2.2.2.2.1 p) % 1125899906842624 := by rw [X.1 _ (by omega) (by omega) (by omega) (by omega) (by omega)]; exact kv.2
    have kr := km_r hφ (s.2.2.2.2.1 p)
    have kr0 := kr_Words_1 hW
    unfold KR at kr0
    obtain ⟨q1, q2, q3, q4, q5⟩ := kr0
    have st := hset p hp (by omega)
    have kk_ : ∀ f, kk τ 98 f = kk σ 98 f := fun f => by unfold kk; rw [X.1 _ (by omega) (by omega) (by omega) (by omega) (by omega), X.1 (98 + 2) (by omega) (by omega) (by omega) (by omega) (by omega)]
    refine jwp_sound t_Words_number _ (b_Words_number_10 ?_)
    simp only [RW, true_and, and_true, and_self, true_or, or_true, Nat.reduceLeDiff, Nat.reduceEqDiff, Nat.reduceAdd, Int.reduceLE, Int.reduceLT, Int.reduceEq, Int.reduceNeg, Int.reduceNe, Nat.reduceSub, reduceIte, implies_true, wd_t hW, wd_r1 hW, wd_t1 hW, wd_r2 hW, wd_t2 hW, wd_r3 hW, wd_t3 hW, wd_r4 hW, wd_t4 hW, wd_r5 hW, wd_t5 hW, wd_r6 hW, wd_t6 hW, wd_r7 hW, wd_t7 hW, wd_r8 hW, wd_t8 hW, wd_r10 hW, wd_t10 hW, wd_r11 hW, wd_t11 hW, wd_r12 hW, wd_t12 hW, wd_r13 hW, wd_t13 hW, gt_98, gr_98_0, gr_98_1, q2, q3, q4, q5]
    clear q1 q2 q3 q4 q5
    rw [X.2 0 (by omega), C.1, kv1, kv2, w32_of (x := p + 1) (by omega) (by omega)]
    refine ⟨fun q => absurd q (by omega), fun _ => ⟨fun q => absurd q (by omega), fun _ => ⟨by omega, by omega, by omega, by omega, ?_⟩⟩⟩
    refine cN_w (c_KeyRow_find kr_98 (by omega) (by omega) n _ _ τ F1 (by omega) (fun f f0 f1 => ?_) (fun f g f0 f1 f2 => by rw [kk_, kk_]; exact F5 f g f0 f1 (by omega))) (by omega) (fun z υ hz => ?_)
    · rw [X.1 (98 + 2) (by omega) (by omega) (by omega) (by omega) (by omega)]
      exact KKV_b (F4 f f0 (by omega)).1
    obtain ⟨hz, rfl⟩ := hz
    have eK2 : km φ (s.2.2.2.2.1 p) / 1125899906842624 * 1125899906842624 + km φ (s.2.2.2.2.1 p) % 1125899906842624 = km φ (s.2.2.2.2.1 p) := by omega
    rw [eK2, show min n 600 = n by omega] at hz
    have hz2 : 0 ≤ z ∧ z < n ∧ kk σ 98 z = km φ (s.2.2.2.2.1 p) := by
      rcases hz with ⟨a1, a2, a3⟩ | ⟨a1, a2, a3, a4⟩
      · exact ⟨a1, a2, by rw [← kk_]; exact a3⟩
      · obtain ⟨f, f0, f1, f2⟩ := st
        rw [← kk_] at f2
        by_cases h : f < -1 - z
        · have := a3 f f0 h
          omega
        · have := a4 f (by omega) f1
          omega
    have ez : ju υ (b + 7) p z (b + 8) z = cq (υ (b + 7)) p.toNat z := by rw [ju_row (by omega)]; exact w2 z hz2.1 (by omega)
    have cr := cq_r (υ (b + 7)) z p.toNat
    rw [ez, w32_of (x := _ + 1) (by omega) (by omega)]
    refine ⟨by omega, by omega, fun q => absurd q (by omega), fun _ => ⟨fun q => absurd q (by omega), fun _ => ?_⟩⟩
    repeat (refine And.intro (by omega) ?_)
    have r7 : ju (ju υ (b + 7) p z) (b + 8) z (cq (υ (b + 7)) p.toNat z + 1) (b + 7) = ju υ (b + 7) p z (b + 7) := ju_row (by omega)
    have cqu : ∀ f, cq (ju υ (b + 7) p z (b + 7)) p.toNat f = cq (υ (b + 7)) p.toNat f := fun f => cq_eq (fun q a c => ju_ne2 (by omega))
    refine l_num_10 hd hW hφ C h0 h3 ⟨F1, F2, F3, F4, F5⟩ hset k (p + 1) _ (by omega) (by omega) (X.tr ⟨fun c a1 a2 a3 a4 a5 => by rw [ju_row a3, ju_row a2], fun j hj => by rw [ju_row (by omega), ju_row (by omega)]⟩) ?_ ?_
    · intro q q0 q1
      rw [r7]
      by_cases hq : q = p
      · rw [hq, ju_self]
        exact hz2
      · rw [ju_ne2 hq]
        exact w1 q q0 (by omega)
    · intro f f0 f1
      rw [r7, cq_s hp, cqu, ju_self]
      by_cases hf : f = z
      · rw [hf, ju_self, if_pos rfl]
      · rw [ju_ne2 hf, if_neg (fun x => hf x.symm), ju_row (by omega), w2 f f0 f1]
        omega
theorem c_number (hW : isWords b) (hφ : okρ φ) (C : CWD σ b φ s s.1) (h0 : 0 ≤ s.1) (h3 : s.1 ≤ 300) (F : FC σ n) (hset : ∀ p, 0 ≤ p → p < s.1 → FSC σ n (km φ (s.2.2.2.2.1 p))) :
    Cw 12 m_Words_number [vR b, vR 98, vI n] σ (fun _ τ => LST σ τ b φ s n ∧ FRN σ τ b) := by
  refine Cw_of o_Words_number rfl fun l d hd => jwp_sound t_Words_number _ (b_Words_number_0 ?_)
  simp only [RW, true_and, and_true, and_self, true_or, or_true, Nat.reduceLeDiff, Nat.reduceEqDiff, Nat.reduceAdd, Int.reduceLE, Int.reduceLT, Int.reduceEq, Int.reduceNeg, Int.reduceNe, Nat.reduceSub, reduceIte, implies_true, wd_t hW, wd_r1 hW, wd_t1 hW, wd_r2 hW, wd_t2 hW, wd_r3 hW, wd_t3 hW, wd_r4 hW, wd_t4 hW, wd_r5 hW, wd_t5 hW, wd_r6 hW, wd_t6 hW, wd_r7 hW, wd_t7 hW, wd_r8 hW, wd_t8 hW, wd_r10 hW, wd_t10 hW, wd_r11 hW, wd_t11 hW, wd_r12 hW, wd_t12 hW, wd_r13 hW, wd_t13 hW]
  refine cN_v (c_Arrays_fill (a := b + 8) (n := 600) 0 _ (wd_t6 hW) (by omega) (by omega)) (by omega) (fun _ => ?_)
  refine l_num_10 hd hW hφ C h0 h3 F hset s.1.toNat 0 _ (by omega) (by omega) ⟨fun c a1 a2 a3 a4 a5 => ?_, fun j hj => ?_⟩ (fun q a c => absurd c (by omega)) (fun f f0 f1 => ?_)
  · funext j
    unfold jfill
    rw [if_neg (by omega)]
  · unfold jfill
    rw [if_neg (by omega)]
  · unfold jfill
    rw [if_pos ⟨rfl, f0, f1⟩]
    rfl
end NU
