/-! Likeness: the class, the end -/
def LKD (σ : jH) (ω : Int → Int) : Prop := σ 135 1 = s_alike ω ∧ ∀ p, 0 ≤ p → p < (wW ω 0).1 → σ 136 p = mtW ω p
def LKI (σ : jH) (ω : Int → Int) : Prop := (σ 135 0 ≠ 0 → LKD σ ω) ∧ ∃ H B, LKH σ H B
def LKP (σ τ : jH) (ω : Int → Int) : Prop := CFR τ ω ∧ LKI τ ω ∧ ∀ c, (c < 97 ∨ 139 < c) → τ c = σ c
section LL
variable {l : Launch} {d : Nat} {w z ω : Int → Int} {σ : jH} {n m : Int}
theorem l_fill3 {a N v : Int} (ht : gW.2.1 a = (4, N)) (hn : N < 1000000) : ∀ (k : Nat) (i : Int), 0 ≤ i → i + k = N →
    Ev (l, (fun _ => 0), 0) d 0 0 m_Arrays_fill3 (RW fun _ τ => τ = jfill σ a 0 N v) 6 [some (vR a), some (vL v), none, some (vI i), some (vI N)] [] gW (jfill σ a 0 i v) 0 0
  | 0, i, h0, h1 => by
    refine jwp_sound t_Arrays_fill3 _ (b_Arrays_fill3_6 ?_)
    have e : i = N := by omega
    subst e
    simp only [RW, true_and]
    exact ⟨fun _ => trivial, fun h => absurd h (by omega)⟩
  | k + 1, i, h0, h1 => by
    refine jwp_sound t_Arrays_fill3 _ (b_Arrays_fill3_6 ?_)
    simp only [ht, true_and]
    refine ⟨fun h => absurd h (by omega), fun h => ⟨h0, h, ?_⟩⟩
    rw [w32_of (by omega) (by omega), jfill_s _ _ _ _ _ h0]
    exact l_fill3 ht hn k (i + 1) (by omega) (by omega)
theorem c_fill3 {a N : Int} (v : Int) (σ : jH) (ht : gW.2.1 a = (4, N)) (h0 : 0 ≤ N) (hn : N < 1000000) : Cw 10 m_Arrays_fill3 [vR a, vL v] σ (fun _ τ => τ = jfill σ a 0 N v) := by
  refine Cw_of o_Arrays_fill3 rfl fun l d hd => jwp_sound t_Arrays_fill3 _ (b_Arrays_fill3_0 ?_)
  simp only [ht]
  refine ⟨by omega, ?_⟩
  have := l_fill3 (l := l) (d := d) (v := v) (σ := σ) ht hn N.toNat 0 (by omega) (by omega)
  rwa [jfill_0] at this
theorem c_fillRow {p H B : Int} (hm : 0 ≤ m ∧ m ≤ 300) (hn : n ≤ 300) (hp : 0 ≤ p ∧ p < n) (h120 : σ 120 0 = m) (hW : ∀ q, 0 ≤ q → q < m → σ 127 q = z q) (K : LKH σ H B) (hB : ∀ q, 0 ≤ q → q ≤ m → σ B q = LQ w z n m (p + 1) q) (L : LKB σ (spP w z n m p (m - 1))) : Cw 10 m_Likeness_fillRow [vR 135, vI p, vI (w p), vR 120] σ (fun _ υ => LKF σ υ ∧ LKH υ B H ∧ (∀ q, 0 ≤ q → q ≤ m → υ H q = LQ w z n m p q) ∧ LKB υ (spP w z n m p (-1))) := by
  have K' := K
  obtain ⟨K1, K2, K3⟩ := K'
  have tH : gW.2.1 H = (1, 301) := by
    rcases K3 with ⟨h, _⟩ | ⟨h, _⟩ <;> rw [h]
    · exact gt_138
    · exact gt_139
  refine Cw_of o_Likeness_fillRow rfl fun l d hd => jwp_sound t_Likeness_fillRow _ (b_Likeness_fillRow_0 ?_)
  simp only [RW, true_and, and_true, and_self, true_or, or_true, Nat.reduceLeDiff, Nat.reduceEqDiff, Nat.reduceAdd, Int.reduceLE, Int.reduceLT, Int.reduceEq, Int.reduceNeg, Int.reduceNe, Nat.reduceSub, reduceIte, implies_true, gt_135, gt_120]
  rw [h120, K1, tH, show min m 300 = m by omega, w32_of (x := m - 1) (by omega) (by omega)]
  refine ⟨by omega, fun q => absurd q (by omega), fun _ => ⟨fun q => absurd q (by omega), fun _ => ⟨fun _ => ⟨rfl, by omega, by omega, ?_⟩, fun q => absurd q (by omega)⟩⟩⟩
  have go := l_fr_26 (l := l) (σ := σ) hd hm hn hp hW hB m.toNat (ju σ H m 0) (by omega) ⟨fun c hc => ju_row (by omega), fun j _ _ => by rw [ju_row (by omega)]⟩ (ju_row (by omega)) ⟨by rw [ju_row (by omega)]; exact K1, by rw [ju_row (by omega)]; exact K2, K3⟩ (fun q a b => by rw [show q = m by omega, ju_self, LQ_m (Int.le_refl _)]) (fun p' q' a b c e => by
    have := L p' q' a b c e
    unfold BTS at this ⊢
    rw [ju_row (by omega), this, show ((m.toNat : Nat) : Int) - 1 = m - 1 by omega])
  rw [show ((m.toNat : Nat) : Int) - 1 = m - 1 by omega] at go
  exact go
theorem mtc_0 {p i j : Int} (h : ¬ (i ≤ p ∧ j < m)) : ∀ k : Nat, mtc w z n m p k i j = -1
  | 0 => rfl
  | k + 1 => if_neg h
theorem mtc_s {p i j : Int} (k : Nat) (h : i ≤ p ∧ j < m) : mtc w z n m p (k + 1) i j = if w i = z j then (if i = p then j else mtc w z n m p k (i + 1) (j + 1)) else if spB w z n m i j = true then mtc w z n m p k (i + 1) j else mtc w z n m p k i (j + 1) := if_pos h
theorem l_pu_13 (hd : 11 ≤ d) (hm : 0 ≤ m ∧ m ≤ 300) (hn : 0 ≤ n ∧ n ≤ 300) (h1 : σ 105 0 = n) (h2 : σ 120 0 = m) (hw : ∀ p, 0 ≤ p → p < n → σ 112 p = w p) (hz : ∀ q, 0 ≤ q → q < m → σ 127 q = z q) (L : LKB σ (spP w z n m (-1) (m - 1))) : ∀ (k : Nat) (i j : Int) (τ : jH), n - i + (m - j) ≤ k → 0 ≤ i → i ≤ n → 0 ≤ j → j ≤ m → (∀ c, c ≠ 136 → τ c = σ c) → (∀ p, 0 ≤ p → p < i → τ 136 p = mtc w z n m p 700 0 0) → (∀ p, i ≤ p → p < n → τ 136 p = -1 ∧ mtc w z n m p 700 0 0 = mtc w z n m p k i j) →
    Ev (l, (fun _ => 0), 0) d 0 0 m_Likeness_pairUp (RW fun _ υ => (∀ c, c ≠ 136 → υ c = σ c) ∧ ∀ p, 0 ≤ p → p < n → υ 136 p = mtc w z n m p 700 0 0) 13 [some (vR 135), some (vR 105), some (vR 120), some (vI i), some (vI j)] [] gW τ 0 0 := by
  have fin : ∀ (k : Nat) (i j : Int) (τ : jH), (n ≤ i ∨ m ≤ j) → (∀ p, 0 ≤ p → p < i → τ 136 p = mtc w z n m p 700 0 0) → (∀ p, i ≤ p → p < n → τ 136 p = -1 ∧ mtc w z n m p 700 0 0 = mtc w z n m p k i j) → ∀ p, 0 ≤ p → p < n → τ 136 p = mtc w z n m p 700 0 0 := fun k i j τ h A B p a b => by
    by_cases q : p < i
    · exact A p a q
    · obtain ⟨u, v⟩ := B p (by omega) b
      rw [u, v, mtc_0 (by omega)]
  intro k
  induction k with
  | zero =>
    intro i j τ hk i0 i1 j0 j1 F A B
    refine jwp_sound t_Likeness_pairUp _ (b_Likeness_pairUp_13 ?_)
    simp only [RW, true_and, and_true, and_self, true_or, or_true, Nat.reduceLeDiff, Nat.reduceEqDiff, Nat.reduceAdd, Int.reduceLE, Int.reduceLT, Int.reduceEq, Int.reduceNeg, Int.reduceNe, Nat.reduceSub, reduceIte, implies_true, gt_105, gt_120]
    rw [F 105 (by omega), F 120 (by omega), h1, h2]
    refine ⟨fun _ => ⟨F, fin 0 i j τ (by omega) A B⟩, fun q => ⟨fun _ => ⟨F, fin 0 i j τ (by omega) A B⟩, fun q2 => absurd hk (by omega)⟩⟩
  | succ k ih =>
    intro i j τ hk i0 i1 j0 j1 F A B
    refine jwp_sound t_Likeness_pairUp _ (b_Likeness_pairUp_13 ?_)
    simp only [RW, true_and, and_true, and_self, true_or, or_true, Nat.reduceLeDiff, Nat.reduceEqDiff, Nat.reduceAdd, Int.reduceLE, Int.reduceLT, Int.reduceEq, Int.reduceNeg, Int.reduceNe, Nat.reduceSub, reduceIte, implies_true, gt_105, gr_105_5, gt_112, gt_120, gr_120_5, gt_127, gt_135, gr_135_2, gr_135_3, gt_136, gt_137]
    rw [F 105 (by omega), F 120 (by omega), h1, h2]
    refine ⟨fun q => ⟨F, fin (k + 1) i j τ (Or.inl q) A B⟩, fun q => ⟨fun q2 => ⟨F, fin (k + 1) i j τ (Or.inr q2) A B⟩, fun q2 => ⟨fun x => absurd x (by omega), fun _ => ⟨fun x => absurd x (by omega), fun _ => ?_⟩⟩⟩⟩
    rw [F 112 (by omega), F 127 (by omega), hw i i0 q, hz j j0 q2, w32_of (x := i + 1) (by omega) (by omega), w32_of (x := j + 1) (by omega) (by omega), F 137 (by omega), Int.tdiv_eq_ediv_of_nonneg (by omega), Int.tmod_eq_emod_of_nonneg (by omega), w32_of (x := i * 5) (by omega) (by omega), w32_of (x := j / 64) (by omega) (by omega), w32_of (x := i * 5 + j / 64) (by omega) (by omega)]
    have lb := L i j i0 (by omega) j0 (by omega)
    have lb2 : spP w z n m (-1) (m - 1) i j = spB w z n m i j := by
      unfold spP
      rw [decide_eq_true (by omega), Bool.true_and]
    rw [lb2] at lb
    unfold BTS at lb
    have bt1 := btb_test (x := σ 137 (5 * i + j / 64)) (s := (j % 64).toNat) (by omega)
    rw [lb, show (((j % 64).toNat : Nat) : Int) = j % 64 by omega, show 5 * i + j / 64 = i * 5 + j / 64 by omega] at bt1
    refine ⟨i0, by omega, j0, by omega, fun x => ?_, fun x => ?_⟩
    · simp only [jcmp_0, jcmp_n0]
      repeat (refine And.intro (by omega) ?_)
      refine ⟨fun y => ?_, fun y => ?_⟩
      · have sb : ¬ spB w z n m i j = true := fun h => y (bt1.mpr h)
        refine ih i (j + 1) τ (by omega) i0 i1 (by omega) (by omega) F A (fun p a b => ?_)
        obtain ⟨u, v⟩ := B p a b
        rw [mtc_s k ⟨a, q2⟩, if_neg x, if_neg sb] at v
        exact ⟨u, v⟩
      · have sb : spB w z n m i j = true := bt1.mp y
        refine ih (i + 1) j τ (by omega) (by omega) (by omega) j0 j1 F (fun p a b => ?_) (fun p a b => ?_)
        · by_cases g : p = i
          · obtain ⟨u, v⟩ := B i (Int.le_refl _) q
            rw [mtc_s k ⟨Int.le_refl _, q2⟩, if_neg x, if_pos sb, mtc_0 (show ¬ (i + 1 ≤ i ∧ j < m) by omega)] at v
            rw [g, u, v]
          · exact A p a (by omega)
        · obtain ⟨u, v⟩ := B p (by omega) b
          rw [mtc_s k ⟨by omega, q2⟩, if_neg x, if_pos sb] at v
          exact ⟨u, v⟩
    · refine ⟨by omega, by omega, ?_⟩
      refine ih (i + 1) (j + 1) _ (by omega) (by omega) (by omega) (by omega) (by omega) (fun c hc => by rw [ju_row hc, F c hc]) (fun p a b => ?_) (fun p a b => ?_)
      · by_cases g : p = i
        · obtain ⟨u, v⟩ := B i (Int.le_refl _) q
          rw [mtc_s k ⟨Int.le_refl _, q2⟩, if_pos x, if_pos rfl] at v
          rw [g, ju_self, v]
        · rw [ju_ne2 g]
          exact A p a (by omega)
      · obtain ⟨u, v⟩ := B p (by omega) b
        rw [mtc_s k ⟨by omega, q2⟩, if_pos x, if_neg (by omega)] at v
        rw [ju_ne2 (by omega)]
        exact ⟨u, v⟩
theorem c_pairUp (hm : 0 ≤ m ∧ m ≤ 300) (hn : 0 ≤ n ∧ n ≤ 300) (h1 : σ 105 0 = n) (h2 : σ 120 0 = m) (hw : ∀ p, 0 ≤ p → p < n → σ 112 p = w p) (hz : ∀ q, 0 ≤ q → q < m → σ 127 q = z q) (L : LKB σ (spP w z n m (-1) (m - 1))) : Cw 11 m_Likeness_pairUp [vR 135, vR 105, vR 120] σ (fun _ υ => (∀ c, c ≠ 136 → υ c = σ c) ∧ ∀ p, 0 ≤ p → p < n → υ 136 p = mtc w z n m p 700 0 0) := by
  refine Cw_of o_Likeness_pairUp rfl fun l d hd => jwp_sound t_Likeness_pairUp _ (b_Likeness_pairUp_0 ?_)
  simp only [RW, true_and, and_true, and_self, true_or, or_true, Nat.reduceLeDiff, Nat.reduceEqDiff, Nat.reduceAdd, Int.reduceLE, Int.reduceLT, Int.reduceEq, Int.reduceNeg, Int.reduceNe, Nat.reduceSub, reduceIte, implies_true, gt_135, gr_135_2]
  refine cN_v (c_Arrays_fill (n := 300) (-1) _ gt_136 (by omega) (by omega)) (by omega) (fun _ => ?_)
  have r : ∀ c, c ≠ 136 → jfill σ 136 0 300 (-1) c = σ c := fun c hc => jfill_row hc
  have go := l_pu_13 (l := l) (w := w) (z := z) (σ := jfill σ 136 0 300 (-1)) hd hm hn (by rw [r 105 (by omega)]; exact h1) (by rw [r 120 (by omega)]; exact h2) (fun p a b => by rw [r 112 (by omega)]; exact hw p a b) (fun p a b => by rw [r 127 (by omega)]; exact hz p a b) (fun p q a b c e => by
    have := L p q a b c e
    unfold BTS at this ⊢
    rw [r 137 (by omega)]
    exact this) 700 0 0 (jfill σ 136 0 300 (-1)) (by omega) (by omega) (by omega) (by omega) (by omega) (fun _ _ => rfl) (fun p a b => by omega) (fun p a b => ⟨jfill_in a (by omega), rfl⟩)
  refine Ev_post go (fun _ υ h => ⟨fun c hc => by rw [h.1 c hc, r c hc], h.2⟩)
end LL
