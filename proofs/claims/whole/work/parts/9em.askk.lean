/-! ASKS: the reference reads a row of words -/
def RAF (c : Int) (σ τ : jH) : Prop := (∀ c', c' ≠ 189 → c' ≠ 201 → (c' < c ∨ 218 < c') → τ c' = σ c') ∧ ∀ j, (j < 18 ∨ (23 < j ∧ j ≠ 29)) → τ 189 j = σ 189 j
theorem RAF.tr {c : Int} {σ τ υ : jH} (h : RAF c σ τ) (h' : RAF c τ υ) : RAF c σ υ := ⟨fun c' a b f => (h'.1 c' a b f).trans (h.1 c' a b f), fun j hj => (h'.2 j hj).trans (h.2 j hj)⟩
theorem RAF.rf {c : Int} {σ : jH} : RAF c σ σ := ⟨fun _ _ _ _ => rfl, fun _ _ => rfl⟩
theorem RAF.up {c b : Int} {σ τ : jH} (h : RAF c σ τ) (hb : b ≤ c) : RAF b σ τ := ⟨fun c' a x f => h.1 c' a x (by omega), h.2⟩
theorem FTR2.raf {c : Int} {σ τ : jH} (h : FTR2 σ τ) : RAF c σ τ := ⟨fun c' a _ _ => h.1 c' a, fun j hj => h.2 j (by omega) (by omega) (by omega) (by omega)⟩
def MAS (c : Int) (σ τ : jH) (t : Int → Int) (n W : Int) (R : AS) : Prop := RAF c σ τ ∧ ((R.1 = 0 ∧ τ 189 22 = 0 ∧ τ 189 23 = σ 189 23 ∧ (0 ≤ R.2.2.1 ∧ R.2.2.1 ≤ n) ∧ TKR τ t n R.2.2.1 ∧ τ 189 29 = R.2.2.2.1 ∧ SET τ c W R.2.2.2.2) ∨ (R.1 ≠ 0 ∧ τ 189 22 = R.1 ∧ τ 189 23 = R.2.1))
def REN (σ : jH) (ω : Int → Int) (e : Int) (t : Int → Int) (n : Int) : Prop := RFR σ ω ∧ ALP σ ∧ TP2 σ t n ∧ σ 189 30 = e
section BI
variable {l : Launch} {d : Nat} {ω t : Int → Int} {σ : jH} {e n p c : Int}
theorem REN.of {τ : jH} (A : REN σ ω e t n) (hc : isRSet c) (F : RAF c σ τ) : REN τ ω e t n := by
  unfold isRSet at hc
  obtain ⟨a1, a2, a3, a4⟩ := A
  refine ⟨a1.of2 (fun c' x y => F.1 c' (by omega) (by omega) (by omega)) (F.2 10 (by omega)), fun x a b => by rw [F.1 200 (by omega) (by omega) (by omega)]; exact a2 x a b, ?_, by rw [F.2 30 (by omega)]; exact a4⟩
  unfold TP2
  rw [F.1 202 (by omega) (by omega) (by omega)]
  exact a3
theorem wr_raf {x s : Int} : RAF c σ (WR σ x s) := ⟨fun c' a _ _ => WR_row a, fun j hj => by
  unfold WR
  rw [ju_ne2 (by omega), ju_ne2 (by omega)]⟩
theorem mas_wr {τ : jH} {x s W : Int} (hx : x ≠ 0) (F : RAF c σ τ) : MAS c σ (WR τ x s) t n W (aBD x s) := ⟨F.tr wr_raf, Or.inr ⟨hx, wr_22, wr_23⟩⟩
theorem dw_iff {K f q : Int} (R : RFR σ ω) (ix : IXF ω K f) (he : 0 ≤ e ∧ e ≤ 1) (hq : 0 ≤ q ∧ q < (wW ω e).1) : dw ω e q = f ↔ KEY ω e q = K := by
  obtain ⟨d1, d2, d3⟩ := R.2.1.2.2.2.1 e q he.1 he.2 hq.1 hq.2
  have d1' : 0 ≤ dw ω e q := d1
  have d2' : dw ω e q < dn ω := d2
  have d3' : dF ω (dw ω e q) = KEY ω e q := d3
  rcases ix with ⟨f1, f2⟩ | ⟨f1, f2, f3⟩
  · constructor
    · intro x
      omega
    · intro x
      rw [← d3'] at x
      exact absurd x (f2 _ d1' d2')
  · constructor
    · intro x
      rw [← d3', x, f3]
    · intro x
      have inj : ∀ a b, 0 ≤ a → a < b → b < dn ω → dF ω a < dF ω b := fun a b x y z => R.2.1.2.1 a b x y z
      rcases Int.lt_trichotomy (dw ω e q) f with y | y | y
      · have := inj _ _ d1' y f2
        omega
      · exact y
      · have := inj _ _ f1 y d2'
        omega
/-- the set is cut down to those followed by the form -/
theorem l_mw_54 {P : Int → jH → Prop} {S : Int → Bool} {K f i : Int} (hd : 14 ≤ d) (A : REN σ ω e t n) (he : 0 ≤ e ∧ e ≤ 1) (hc : isRSet c) (hi : 0 ≤ i ∧ i ≤ 400) (ix : IXF ω K f) (V0 : SET σ c (wW ω e).1 S) (N : ∀ τ : jH, (∀ c', c' ≠ c → τ c' = σ c') → SET τ c (wW ω e).1 (fun q => S q && decide (q + i < (wW ω e).1 ∧ KEY ω e (q + i) = K)) → Ev (l, (fun _ => 0), 0) d 0 0 m_Model_readRow (RW P) 31 [some (vR 189), some (vR c), some (vI (i + 1)), none, none] [] gW τ 0 0) : ∀ (k x : Nat) (τ : jH), (x : Int) + k = (wW ω e).1 → (∀ c', c' ≠ c → τ c' = σ c') → (∀ q, 0 ≤ q → q < (wW ω e).1 → τ c q = if q < x then b2i (S q && decide (q + i < (wW ω e).1 ∧ KEY ω e (q + i) = K)) else σ c q) →
    Ev (l, (fun _ => 0), 0) d 0 0 m_Model_readRow (RW P) 54 [some (vR 189), some (vR c), some (vI i), some (vI f), some (vI x)] [] gW τ 0 0
  | 0, x, τ, hx, F, V => by
    have hcc := hc
    unfold isRSet at hcc
    have w := A.1.W he
    have go := N τ F (fun q a b => by rw [V q a b, if_pos (by omega)])
    refine jwp_sound t_Model_readRow _ (b_Model_readRow_54 ?_)
    simp only [RW, true_and, and_true, and_self, true_or, or_true, Nat.reduceLeDiff, Nat.reduceEqDiff, Nat.reduceAdd, Int.reduceLE, Int.reduceLT, Int.reduceEq, Int.reduceNeg, Int.reduceNe, Nat.reduceSub, reduceIte, implies_true, gt_189, gr_189_4, gt_193, gr_189_5, gt_194]
    rw [F 189 (by omega), A.2.2.2, F 193 (by omega), w.1, w32_of (x := i + 1) (by omega) (by omega)]
    exact ⟨by omega, by omega, fun _ => go, fun y => absurd y (by omega)⟩
  | k + 1, x, τ, hx, F, V => by
    have hcc := hc
    unfold isRSet at hcc
    have w := A.1.W he
    have gc := gt_rset hc
    have cx : τ c x = σ c x := by rw [V x (by omega) (by omega), if_neg (by omega)]
    have a0 : τ c x = 0 ↔ S x = false := by rw [cx]; exact set_0 V0 (by omega) (by omega)
    have go : ∀ v, v = b2i (S x && decide ((x : Int) + i < (wW ω e).1 ∧ KEY ω e ((x : Int) + i) = K)) → Ev (l, (fun _ => 0), 0) d 0 0 m_Model_readRow (RW P) 54 [some (vR 189), some (vR c), some (vI i), some (vI f), some (vI (x + 1))] [] gW (ju τ c x v) 0 0 := fun v hv => by
      have IH := l_mw_54 hd A he hc hi ix V0 N k (x + 1) (ju τ c x v) (by omega) (fun c' h => by rw [ju_row h, F c' h]) (fun q a b => by
        by_cases g : q = x
        · rw [g, ju_self, if_pos (by omega)]
          exact hv
        · rw [ju_ne2 g, V q a b]
          by_cases g2 : q < (x : Int)
          · rw [if_pos g2, if_pos (by omega)]
          · rw [if_neg g2, if_neg (by omega)])
      rw [show ((x + 1 : Nat) : Int) = (x : Int) + 1 by omega] at IH
      exact IH
    have x340 : (x : Int) < 340 := by omega
    have tr : ∀ {P : Prop}, P → ((3, (340 : Int)) : Nat × Int).1 = 3 ∧ 0 ≤ (x : Int) ∧ (x : Int) < ((3, (340 : Int)) : Nat × Int).2 ∧ P := fun {P} h => ⟨rfl, by omega, x340, h⟩
    refine jwp_sound t_Model_readRow _ (b_Model_readRow_54 ?_)
    simp only [RW, true_and, and_true, and_self, true_or, or_true, Nat.reduceLeDiff, Nat.reduceEqDiff, Nat.reduceAdd, Int.reduceLE, Int.reduceLT, Int.reduceEq, Int.reduceNeg, Int.reduceNe, Nat.reduceSub, reduceIte, implies_true, gt_189, gr_189_4, gt_193, gr_189_5, gt_194]
    rw [F 189 (by omega), A.2.2.2, F 193 (by omega), w.1, gc, w32_of (x := (x : Int) + 1) (by omega) (by omega), w32_of (x := (x : Int) + i) (by omega) (by omega), w32_of (x := 340 * e) (by omega) (by omega), w32_of (x := 340 * e + (x : Int)) (by omega) (by omega), w32_of (x := 340 * e + (x : Int) + i) (by omega) (by omega)]
    refine ⟨by omega, by omega, fun y => absurd y (by omega), fun _ => tr ⟨fun y => tr (go 0 ?_), fun y => ⟨by omega, by omega, fun z => tr (go 0 ?_), fun z => ?_⟩⟩⟩
    · rw [a0.mp y, Bool.false_and]
      rfl
    · rw [decide_eq_false (by omega), Bool.and_false]
      rfl
    · have st : S x = true := by
        cases g : S x with
        | true => rfl
        | false => exact absurd (a0.mpr g) y
      have dv : τ 194 (340 * e + (x : Int) + i) = dw ω e ((x : Int) + i) := by
        rw [F 194 (by omega), show 340 * e + (x : Int) + i = 340 * e + ((x : Int) + i) by omega]
        exact A.1.2.2.2.2.2.2.1 e _ he.1 he.2 (by omega) z
      have iff := dw_iff A.1 ix he (q := (x : Int) + i) ⟨by omega, z⟩
      rw [dv]
      refine ⟨by omega, by omega, fun v => tr (go 0 ?_), fun v => tr (go 1 ?_)⟩
      · rw [decide_eq_false (fun h => v (iff.mpr h.2)), Bool.and_false]
        rfl
      · rw [st, decide_eq_true ⟨z, iff.mp v⟩]
        rfl
end BI
