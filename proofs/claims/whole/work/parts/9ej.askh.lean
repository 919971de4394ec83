/-! ASKS: the reference looks near and in the line -/
section BF
variable {l : Launch} {d : Nat} {ω t : Int → Int} {σ : jH} {e n p b : Int} {A B : Int → Bool}
def isRSet (c : Int) : Prop := 208 ≤ c ∧ c ≤ 217
theorem gt_rset {c : Int} (h : isRSet c) : gW.2.1 c = (3, 340) := by
  unfold isRSet at h
  have : c = 208 ∨ c = 209 ∨ c = 210 ∨ c = 211 ∨ c = 212 ∨ c = 213 ∨ c = 214 ∨ c = 215 ∨ c = 216 ∨ c = 217 := by omega
  rcases this with rfl | rfl | rfl | rfl | rfl | rfl | rfl | rfl | rfl | rfl
  · exact gt_208
  · exact gt_209
  · exact gt_210
  · exact gt_211
  · exact gt_212
  · exact gt_213
  · exact gt_214
  · exact gt_215
  · exact gt_216
  · exact gt_217
theorem anB_f {P : Int → Bool} {m : Nat} (h : ∀ q : Int, 0 ≤ q → q < m → P q = false) : anB P m = false := by
  cases g : anB P m with
  | false => rfl
  | true =>
    obtain ⟨q, a, b, c⟩ := anB_iff.mp g
    rw [h q a b] at c
    cases c
theorem set_0 {W q : Int} (S : SET σ b W B) (a : 0 ≤ q) (h : q < W) : σ b q = 0 ↔ B q = false := by
  rw [S q a h]
  cases B q <;> decide
def nrC (B : Int → Bool) (p lo n : Int) : Int → Bool := fun q => B q && decide (q ≠ p ∧ lo ≤ q ∧ q ≤ p + n)
theorem l_nr_20 {lo : Int} (hd : 10 ≤ d) (R : RFR σ ω) (he : 0 ≤ e ∧ e ≤ 1) (h30 : σ 189 30 = e) (hb : isRSet b) (hn : 0 ≤ n ∧ n ≤ 50) (hp : 0 ≤ p ∧ p < (wW ω e).1) (S : SET σ b (wW ω e).1 B) : ∀ (k : Nat) (x : Int), x + k = (wW ω e).1 → 0 ≤ x → lo ≤ x → (∀ q, 0 ≤ q → q < x → nrC B p lo n q = false) →
    Ev (l, (fun _ => 0), 0) d 0 0 m_Model_isNear (RW fun z τ => z = b2i (anB (nrC B p lo n) (wW ω e).1.toNat) ∧ τ = σ) 20 [some (vR 189), some (vI p), some (vI n), some (vR b), none, some (vI x)] [] gW σ 0 0
  | 0, x, hk, x0, hl, N => by
    have w := R.W he
    have z : anB (nrC B p lo n) (wW ω e).1.toNat = false := anB_f (fun q a b => N q a (by omega))
    refine jwp_sound t_Model_isNear _ (b_Model_isNear_20 ?_)
    simp only [RW, true_and, and_true, and_self, true_or, or_true, Nat.reduceLeDiff, Nat.reduceEqDiff, Nat.reduceAdd, Int.reduceLE, Int.reduceLT, Int.reduceEq, Int.reduceNeg, Int.reduceNe, Nat.reduceSub, reduceIte, implies_true, gt_189, gr_189_4, gt_193]
    rw [h30, w.1, w32_of (x := p + n) (by omega) (by omega), z]
    exact ⟨fun _ => rfl, fun _ => ⟨by omega, by omega, fun _ => rfl, fun y => absurd y (by omega)⟩⟩
  | k + 1, x, hk, x0, hl, N => by
    have w := R.W he
    have gb := gt_rset hb
    have IH := fun h => l_nr_20 (lo := lo) hd R he h30 hb hn hp S k (x + 1) (by omega) (by omega) (by omega) h
    have s0 := set_0 S (q := x) x0 (by omega)
    have nxt : nrC B p lo n x = false → ∀ q, 0 ≤ q → q < x + 1 → nrC B p lo n q = false := fun h q a b => by
      by_cases g : q = x
      · rw [g]
        exact h
      · exact N q a (by omega)
    refine jwp_sound t_Model_isNear _ (b_Model_isNear_20 ?_)
    simp only [RW, true_and, and_true, and_self, true_or, or_true, Nat.reduceLeDiff, Nat.reduceEqDiff, Nat.reduceAdd, Int.reduceLE, Int.reduceLT, Int.reduceEq, Int.reduceNeg, Int.reduceNe, Nat.reduceSub, reduceIte, implies_true, gt_189, gr_189_4, gt_193]
    rw [h30, w.1, gb, w32_of (x := p + n) (by omega) (by omega), w32_of (x := x + 1) (by omega) (by omega)]
    refine ⟨fun y => ?_, fun y => ⟨by omega, by omega, fun z => absurd z (by omega), fun _ => ⟨fun z => IH (nxt ?_), fun z => ⟨rfl, by omega, (by show x < 340; omega), fun v => IH (nxt ?_), fun v => ?_⟩⟩⟩⟩
    · have z : anB (nrC B p lo n) (wW ω e).1.toNat = false := anB_f (fun q a b => by
        by_cases g : q < x
        · exact N q a g
        · unfold nrC
          rw [decide_eq_false (by omega), Bool.and_false])
      rw [z]
      first | exact ⟨Or.inl rfl, rfl, rfl⟩ | exact ⟨rfl, rfl⟩ | rfl
    · unfold nrC
      rw [decide_eq_false (by omega), Bool.and_false]
    · unfold nrC
      rw [s0.mp v, Bool.false_and]
    · have bt : B x = true := by
        cases g : B x with
        | true => rfl
        | false => exact absurd (s0.mpr g) v
      have z2 : anB (nrC B p lo n) (wW ω e).1.toNat = true := anB_iff.mpr ⟨x, x0, by omega, by
        unfold nrC
        rw [bt, decide_eq_true (by omega)]
        rfl⟩
      rw [z2]
      first | exact ⟨Or.inr rfl, rfl, rfl⟩ | exact ⟨rfl, rfl⟩ | rfl
theorem c_isNear0 (R : RFR σ ω) (he : 0 ≤ e ∧ e ≤ 1) (h30 : σ 189 30 = e) (hb : isRSet b) (hn : 0 ≤ n ∧ n ≤ 50) (hp : 0 ≤ p ∧ p < (wW ω e).1) (S : SET σ b (wW ω e).1 B) : Cw 10 m_Model_isNear [vR 189, vI p, vI n, vR b, vI 0] σ (fun z τ => z = b2i (anB (fun q => B q && decide (q ≠ p ∧ p - n ≤ q ∧ q ≤ p + n)) (wW ω e).1.toNat) ∧ τ = σ) := by
  have w := R.W he
  refine Cw_of o_Model_isNear rfl fun l d hd => jwp_sound t_Model_isNear _ (b_Model_isNear_0 ?_)
  refine ⟨fun _ => ⟨by omega, ?_⟩, fun x => absurd rfl x⟩
  rw [w32_of (x := p - n) (by omega) (by omega)]
  have go := l_nr_20 (l := l) (lo := max 0 (p - n)) hd R he h30 hb hn hp S ((wW ω e).1 - max 0 (p - n)).toNat (max 0 (p - n)) (by omega) (by omega) (by omega) (fun q a b => by
    unfold nrC
    rw [decide_eq_false (by omega), Bool.and_false])
  have eq : anB (nrC B p (max 0 (p - n)) n) (wW ω e).1.toNat = anB (fun q => B q && decide (q ≠ p ∧ p - n ≤ q ∧ q ≤ p + n)) (wW ω e).1.toNat := by
    apply Bool.eq_iff_iff.mpr
    rw [anB_iff, anB_iff]
    constructor
    · rintro ⟨q, a, b, c⟩
      unfold nrC at c
      rw [Bool.and_eq_true, decide_eq_true_eq] at c
      exact ⟨q, a, b, by rw [Bool.and_eq_true, decide_eq_true_eq]; exact ⟨c.1, c.2.1, by omega, c.2.2.2⟩⟩
    · rintro ⟨q, a, b, c⟩
      rw [Bool.and_eq_true, decide_eq_true_eq] at c
      refine ⟨q, a, b, ?_⟩
      unfold nrC
      rw [Bool.and_eq_true, decide_eq_true_eq]
      exact ⟨c.1, c.2.1, by omega, c.2.2.2⟩
  rw [eq] at go
  exact go
theorem c_isNear1 (R : RFR σ ω) (he : 0 ≤ e ∧ e ≤ 1) (h30 : σ 189 30 = e) (hb : isRSet b) (hn : 0 ≤ n ∧ n ≤ 50) (hp : 0 ≤ p ∧ p < (wW ω e).1) (S : SET σ b (wW ω e).1 B) : Cw 10 m_Model_isNear [vR 189, vI p, vI n, vR b, vI 1] σ (fun z τ => z = b2i (anB (fun q => B q && decide (p < q ∧ q ≤ p + n)) (wW ω e).1.toNat) ∧ τ = σ) := by
  have w := R.W he
  refine Cw_of o_Model_isNear rfl fun l d hd => jwp_sound t_Model_isNear _ (b_Model_isNear_0 ?_)
  refine ⟨fun x => absurd x (by omega), fun _ => ⟨by omega, ?_⟩⟩
  rw [w32_of (x := p + 1) (by omega) (by omega), show max 0 (p + 1) = p + 1 by omega]
  have go := l_nr_20 (l := l) (lo := p + 1) hd R he h30 hb hn hp S ((wW ω e).1 - (p + 1)).toNat (p + 1) (by omega) (by omega) (by omega) (fun q a b => by
    unfold nrC
    rw [decide_eq_false (by omega), Bool.and_false])
  have eq : anB (nrC B p (p + 1) n) (wW ω e).1.toNat = anB (fun q => B q && decide (p < q ∧ q ≤ p + n)) (wW ω e).1.toNat := by
    apply Bool.eq_iff_iff.mpr
    rw [anB_iff, anB_iff]
    constructor
    · rintro ⟨q, a, b, c⟩
      unfold nrC at c
      rw [Bool.and_eq_true, decide_eq_true_eq] at c
      exact ⟨q, a, b, by rw [Bool.and_eq_true, decide_eq_true_eq]; exact ⟨c.1, by omega, c.2.2.2⟩⟩
    · rintro ⟨q, a, b, c⟩
      rw [Bool.and_eq_true, decide_eq_true_eq] at c
      refine ⟨q, a, b, ?_⟩
      unfold nrC
      rw [Bool.and_eq_true, decide_eq_true_eq]
      exact ⟨c.1, by omega, by omega, c.2.2⟩
  rw [eq] at go
  exact go
theorem l_hl_2 (hd : 10 ≤ d) (R : RFR σ ω) (he : 0 ≤ e ∧ e ≤ 1) (h30 : σ 189 30 = e) (hb : isRSet b) (hp : 0 ≤ p ∧ p < (wW ω e).1) (S : SET σ b (wW ω e).1 B) : ∀ (k : Nat) (x : Int), x + k = (wW ω e).1 → 0 ≤ x → (∀ q, 0 ≤ q → q < x → (B q && decide ((wW ω e).2.2.1 q = (wW ω e).2.2.1 p)) = false) →
    Ev (l, (fun _ => 0), 0) d 0 0 m_Model_hasInLine (RW fun z τ => z = b2i (anB (fun q => B q && decide ((wW ω e).2.2.1 q = (wW ω e).2.2.1 p)) (wW ω e).1.toNat) ∧ τ = σ) 2 [some (vR 189), some (vI p), some (vR b), some (vI x)] [] gW σ 0 0
  | 0, x, hk, x0, N => by
    have w := R.W he
    have z : anB (fun q => B q && decide ((wW ω e).2.2.1 q = (wW ω e).2.2.1 p)) (wW ω e).1.toNat = false := anB_f (fun q a b => N q a (by omega))
    refine jwp_sound t_Model_hasInLine _ (b_Model_hasInLine_2 ?_)
    simp only [RW, true_and, and_true, and_self, true_or, or_true, Nat.reduceLeDiff, Nat.reduceEqDiff, Nat.reduceAdd, Int.reduceLE, Int.reduceLT, Int.reduceEq, Int.reduceNeg, Int.reduceNe, Nat.reduceSub, reduceIte, implies_true, gt_189, gr_189_4, gt_193, gr_189_6, gt_195]
    rw [h30, w.1, z]
    exact ⟨by omega, by omega, fun _ => rfl, fun y => absurd y (by omega)⟩
  | k + 1, x, hk, x0, N => by
    have w := R.W he
    have gb := gt_rset hb
    have IH := fun h => l_hl_2 hd R he h30 hb hp S k (x + 1) (by omega) (by omega) h
    have s0 := set_0 S (q := x) x0 (by omega)
    have lx := ((R.2.2.2.2.2.1 e he.1 he.2).2 x x0 (by omega)).1
    have lp := ((R.2.2.2.2.2.1 e he.1 he.2).2 p hp.1 hp.2).1
    have nxt : (B x && decide ((wW ω e).2.2.1 x = (wW ω e).2.2.1 p)) = false → ∀ q, 0 ≤ q → q < x + 1 → (B q && decide ((wW ω e).2.2.1 q = (wW ω e).2.2.1 p)) = false := fun h q a b => by
      by_cases g : q = x
      · rw [g]
        exact h
      · exact N q a (by omega)
    refine jwp_sound t_Model_hasInLine _ (b_Model_hasInLine_2 ?_)
    simp only [RW, true_and, and_true, and_self, true_or, or_true, Nat.reduceLeDiff, Nat.reduceEqDiff, Nat.reduceAdd, Int.reduceLE, Int.reduceLT, Int.reduceEq, Int.reduceNeg, Int.reduceNe, Nat.reduceSub, reduceIte, implies_true, gt_189, gr_189_4, gt_193, gr_189_6, gt_195]
    rw [h30, w.1, gb, w32_of (x := x + 1) (by omega) (by omega), w32_of (x := 340 * e) (by omega) (by omega), w32_of (x := 340 * e + x) (by omega) (by omega), w32_of (x := 340 * e + p) (by omega) (by omega), lx, lp]
    refine ⟨by omega, by omega, fun y => absurd y (by omega), fun _ => ⟨rfl, by omega, (by show x < 340; omega), fun v => IH (nxt ?_), fun v => ⟨by omega, by omega, by omega, by omega, fun y => IH (nxt ?_), fun y => ?_⟩⟩⟩
    · rw [s0.mp v, Bool.false_and]
    · rw [decide_eq_false y, Bool.and_false]
    · have bt : B x = true := by
        cases g : B x with
        | true => rfl
        | false => exact absurd (s0.mpr g) v
      have z2 : anB (fun q => B q && decide ((wW ω e).2.2.1 q = (wW ω e).2.2.1 p)) (wW ω e).1.toNat = true := anB_iff.mpr ⟨x, x0, by omega, by
        show (B x && decide ((wW ω e).2.2.1 x = (wW ω e).2.2.1 p)) = true
        rw [bt, decide_eq_true y]
        rfl⟩
      rw [z2]
      first | exact ⟨Or.inr rfl, rfl, rfl⟩ | exact ⟨rfl, rfl⟩ | rfl
theorem c_hasInLine (R : RFR σ ω) (he : 0 ≤ e ∧ e ≤ 1) (h30 : σ 189 30 = e) (hb : isRSet b) (hp : 0 ≤ p ∧ p < (wW ω e).1) (S : SET σ b (wW ω e).1 B) : Cw 10 m_Model_hasInLine [vR 189, vI p, vR b] σ (fun z τ => z = b2i (anB (fun q => B q && decide ((wW ω e).2.2.1 q = (wW ω e).2.2.1 p)) (wW ω e).1.toNat) ∧ τ = σ) := by
  have w := R.W he
  refine Cw_of o_Model_hasInLine rfl fun l d hd => jwp_sound t_Model_hasInLine _ (b_Model_hasInLine_0 ?_)
  exact l_hl_2 hd R he h30 hb hp S (wW ω e).1.toNat 0 (by omega) (by omega) (fun q a b => by omega)
end BF
