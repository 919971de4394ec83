/-! Likeness: the class's rows -/
def LKH (τ : jH) (H B : Int) : Prop := τ 135 4 = H ∧ τ 135 5 = B ∧ ((H = 138 ∧ B = 139) ∨ (H = 139 ∧ B = 138))
def BTS (τ : jH) (p q : Int) : Bool := btb (τ 137 (5 * p + q / 64)) (q % 64).toNat
def spP (w z : Int → Int) (n m p q p' q' : Int) : Bool := decide ((p' < n ∧ q' < m) ∧ (p < p' ∨ (p' = p ∧ q < q'))) && spB w z n m p' q'
def LKB (τ : jH) (f : Int → Int → Bool) : Prop := ∀ p q, 0 ≤ p → p < 300 → 0 ≤ q → q < 300 → BTS τ p q = f p q
def LKF (σ τ : jH) : Prop := (∀ c, (c < 135 ∨ 139 < c ∨ c = 136) → τ c = σ c) ∧ ∀ j, j ≠ 4 → j ≠ 5 → τ 135 j = σ 135 j
theorem LKF.tr {σ τ υ : jH} (h : LKF σ τ) (h' : LKF τ υ) : LKF σ υ := ⟨fun c hc => (h'.1 c hc).trans (h.1 c hc), fun j a b => (h'.2 j a b).trans (h.2 j a b)⟩
theorem LKF.rf {σ : jH} : LKF σ σ := ⟨fun _ _ => rfl, fun _ _ _ => rfl⟩
theorem bts_set {τ : jH} {p q : Int} {f g : Int → Int → Bool} (p0 : 0 ≤ p ∧ p < 300) (q0 : 0 ≤ q ∧ q < 300) (L : LKB τ f) (hg : ∀ p' q', 0 ≤ p' → p' < 300 → 0 ≤ q' → q' < 300 → g p' q' = (f p' q' || decide (p' = p ∧ q' = q))) : LKB (ju τ 137 (p * 5 + q / 64) (jor64 (τ 137 (p * 5 + q / 64)) (jshl64 1 (q % 64)))) g := fun p' q' a b c e => by
  rw [hg p' q' a b c e, ← L p' q' a b c e]
  unfold BTS
  by_cases x : 5 * p' + q' / 64 = p * 5 + q / 64
  · rw [x, ju_self]
    have en : q % 64 = (((q % 64).toNat : Nat) : Int) := by omega
    rw [en, btb_or (by omega) (by omega)]
    congr 1
    by_cases y : (q' % 64).toNat = (q % 64).toNat
    · rw [decide_eq_true y, decide_eq_true (by omega)]
    · rw [decide_eq_false y, decide_eq_false (by omega)]
  · rw [ju_ne2 x, decide_eq_false (by omega), Bool.or_false]
section LK
variable {l : Launch} {d : Nat} {w z : Int → Int} {σ : jH} {n m : Int}
theorem l_fr_26 {p H B : Int} (hd : 10 ≤ d) (hm : 0 ≤ m ∧ m ≤ 300) (hn : n ≤ 300) (hp : 0 ≤ p ∧ p < n) (hW : ∀ q, 0 ≤ q → q < m → σ 127 q = z q) (hB : ∀ q, 0 ≤ q → q ≤ m → σ B q = LQ w z n m (p + 1) q) : ∀ (k : Nat) (τ : jH), (k : Int) ≤ m → LKF σ τ → τ B = σ B → LKH τ H B → (∀ q, (k : Int) ≤ q → q ≤ m → τ H q = LQ w z n m p q) → LKB τ (spP w z n m p ((k : Int) - 1)) →
    Ev (l, (fun _ => 0), 0) d 0 0 m_Likeness_fillRow (RW fun _ υ => LKF σ υ ∧ LKH υ B H ∧ (∀ q, 0 ≤ q → q ≤ m → υ H q = LQ w z n m p q) ∧ LKB υ (spP w z n m p (-1))) 43 [some (vR 135), some (vI p), some (vI (w p)), some (vR 120), none, some (vI ((k : Int) - 1))] [] gW τ 0 0
  | 0, τ, hk, F, eB, K, V, L => by
    obtain ⟨K1, K2, K3⟩ := K
    refine jwp_sound t_Likeness_fillRow _ (b_Likeness_fillRow_43 ?_)
    simp only [RW, true_and, and_true, and_self, true_or, or_true, Nat.reduceLeDiff, Nat.reduceEqDiff, Nat.reduceAdd, Int.reduceLE, Int.reduceLT, Int.reduceEq, Int.reduceNeg, Int.reduceNe, Nat.reduceSub, reduceIte, implies_true, gt_135]
    rw [K1, K2]
    refine ⟨fun _ => ⟨⟨fun c hc => by rw [ju_row (by omega), ju_row (by omega)]; exact F.1 c hc, fun j a b => by rw [ju_ne2 b, ju_ne2 a]; exact F.2 j a b⟩, ⟨by rw [ju_ne2 (by omega), ju_self], ju_self, by omega⟩, fun q a b => ?_, fun p' q' a b c e => ?_⟩, fun x => absurd x (by omega)⟩
    · rw [ju_row (by omega), ju_row (by omega)]
      exact V q (by omega) b
    · have := L p' q' a b c e
      unfold BTS at this ⊢
      rw [ju_row (by omega), ju_row (by omega)]
      exact this
  | k + 1, τ, hk, F, eB, K, V, L => by
    have K' := K
    obtain ⟨K1, K2, K3⟩ := K'
    have e127 : τ 127 k = z k := by rw [F.1 127 (by omega)]; exact hW k (by omega) (by omega)
    have eb0 : τ B k = LQ w z n m (p + 1) k := by rw [eB]; exact hB k (by omega) (by omega)
    have eb1 : τ B ((k : Int) + 1) = LQ w z n m (p + 1) ((k : Int) + 1) := by rw [eB]; exact hB _ (by omega) (by omega)
    have eh1 : τ H ((k : Int) + 1) = LQ w z n m p ((k : Int) + 1) := V _ (by omega) (by omega)
    have ls := LQ_s (w := w) (z := z) hp.2 (show (k : Int) < m by omega)
    have r1 := LQ_r (w := w) (z := z) (m := m) (j := (k : Int) + 1) hn (show 0 ≤ p + 1 by omega)
    have tH : gW.2.1 H = (1, 301) := by
      rcases K3 with ⟨h, _⟩ | ⟨h, _⟩ <;> rw [h]
      · exact gt_138
      · exact gt_139
    have tB : gW.2.1 B = (1, 301) := by
      rcases K3 with ⟨_, h⟩ | ⟨_, h⟩ <;> rw [h]
      · exact gt_139
      · exact gt_138
    have step : ∀ (υ : jH), (∀ c, c ≠ 137 → υ c = ju τ H k (LQ w z n m p k) c) → LKB υ (spP w z n m p ((k : Int) - 1)) → Ev (l, (fun _ => 0), 0) d 0 0 m_Likeness_fillRow (RW fun _ υ => LKF σ υ ∧ LKH υ B H ∧ (∀ q, 0 ≤ q → q ≤ m → υ H q = LQ w z n m p q) ∧ LKB υ (spP w z n m p (-1))) 43 [some (vR 135), some (vI p), some (vI (w p)), some (vR 120), none, some (vI ((k : Int) - 1))] [] gW υ 0 0 := fun υ hυ L2 => by
      refine l_fr_26 hd hm hn hp hW hB k υ (by omega) ⟨fun c hc => by rw [hυ c (by omega), ju_row (by omega)]; exact F.1 c hc, fun j a b => by rw [hυ 135 (by omega), ju_row (by omega)]; exact F.2 j a b⟩ (by rw [hυ B (by omega), ju_row (by omega)]; exact eB) ⟨by rw [hυ 135 (by omega), ju_row (by omega)]; exact K1, by rw [hυ 135 (by omega), ju_row (by omega)]; exact K2, K3⟩ (fun q a b => ?_) L2
      rw [hυ H (by omega)]
      by_cases y : q = k
      · rw [y, ju_self]
      · rw [ju_ne2 y]
        exact V q (by omega) b
    have kE : ((k + 1 : Nat) : Int) - 1 = (k : Int) := by omega
    rw [kE] at L
    rw [kE]
    have same : (w p = z k ∨ ¬ LQ w z n m p ((k : Int) + 1) ≤ LQ w z n m (p + 1) k) → ∀ υ : jH, υ 137 = τ 137 → LKB υ (spP w z n m p ((k : Int) - 1)) := fun no υ e137 p' q' a b c e => by
      have := L p' q' a b c e
      unfold BTS at this ⊢
      rw [e137, this]
      unfold spP
      by_cases y : p' = p ∧ q' = k
      · have sb : spB w z n m p' q' = false := by
          unfold spB
          rw [y.1, y.2]
          rcases no with h | h
          · rw [decide_eq_false (fun x => x h), Bool.false_and]
          · rw [decide_eq_false h, Bool.and_false]
        rw [sb, Bool.and_false, Bool.and_false]
      · have : ((p' < n ∧ q' < m) ∧ (p < p' ∨ (p' = p ∧ (k : Int) < q'))) ↔ ((p' < n ∧ q' < m) ∧ (p < p' ∨ (p' = p ∧ (k : Int) - 1 < q'))) := by omega
        simp only [this]
    refine jwp_sound t_Likeness_fillRow _ (b_Likeness_fillRow_43 ?_)
    simp only [RW, true_and, and_true, and_self, true_or, or_true, Nat.reduceLeDiff, Nat.reduceEqDiff, Nat.reduceAdd, Int.reduceLE, Int.reduceLT, Int.reduceEq, Int.reduceNeg, Int.reduceNe, Nat.reduceSub, reduceIte, implies_true, gt_135, gt_120, gr_120_5, gt_127, gr_135_3, gt_137]
    rw [K1, K2, tH, tB, e127, w32_of (x := (k : Int) + 1) (by omega) (by omega), w32_of (x := (k : Int) + -1) (by omega) (by omega), show (k : Int) + -1 = (k : Int) - 1 by omega, eb0, eb1, eh1]
    refine ⟨fun x => absurd x (by omega), fun _ => ⟨by omega, by omega, fun x => ⟨rfl, by omega, by omega, rfl, by omega, by omega, fun y => ?_, fun y => ?_⟩, fun x => ?_⟩⟩
    · refine ⟨rfl, by omega, by omega, rfl, by omega, by omega, ?_⟩
      have v : LQ w z n m p ((k : Int) + 1) = LQ w z n m p k := by
        rw [ls, if_neg (fun h => x h.symm)]
        omega
      rw [v]
      exact step _ (fun _ _ => rfl) (same (Or.inr (by omega)) _ (ju_row (by omega)))
    · have v : LQ w z n m (p + 1) k = LQ w z n m p k := by
        rw [ls, if_neg (fun h => x h.symm)]
        omega
      rw [Int.tdiv_eq_ediv_of_nonneg (by omega), Int.tmod_eq_emod_of_nonneg (by omega), w32_of (x := p * 5) (by omega) (by omega), w32_of (x := (k : Int) / 64) (by omega) (by omega), w32_of (x := p * 5 + (k : Int) / 64) (by omega) (by omega)]
      refine ⟨rfl, by omega, by omega, rfl, by omega, by omega, ?_⟩
      repeat (refine And.intro (by omega) ?_)
      rw [v]
      refine step _ (fun c hc => ju_row hc) ?_
      refine bts_set (f := spP w z n m p k) ⟨hp.1, by omega⟩ ⟨by omega, by omega⟩ (fun p' q' a b c e => ?_) (fun p' q' a b c e => ?_)
      · have := L p' q' a b c e
        unfold BTS at this ⊢
        rw [ju_row (by omega)]
        exact this
      · unfold spP
        by_cases g : p' = p ∧ q' = k
        · have sb : spB w z n m p' q' = true := by
            unfold spB
            rw [g.1, g.2, decide_eq_true (show ¬ w p = z k from fun h => x h.symm), decide_eq_true (by omega)]
            rfl
          rw [sb, decide_eq_true g, decide_eq_true (by omega)]
          simp
        · have : ((p' < n ∧ q' < m) ∧ (p < p' ∨ (p' = p ∧ (k : Int) < q'))) ↔ ((p' < n ∧ q' < m) ∧ (p < p' ∨ (p' = p ∧ (k : Int) - 1 < q'))) := by omega
          rw [decide_eq_false g, Bool.or_false]
          simp only [this]
    · refine ⟨rfl, by omega, by omega, rfl, by omega, by omega, ?_⟩
      have v : LQ w z n m (p + 1) ((k : Int) + 1) + 1 = LQ w z n m p k := by
        rw [ls, if_pos x.symm]
        omega
      rw [w32_of (x := LQ w z n m (p + 1) ((k : Int) + 1) + 1) (by omega) (by omega), v]
      exact step _ (fun _ _ => rfl) (same (Or.inl x.symm) _ (ju_row (by omega)))
end LK
