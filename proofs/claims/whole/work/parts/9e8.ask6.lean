/-! ASKS: the class puts two sets together: near, ahead, behind -/
section AR
variable {l : Launch} {d : Nat} {ω t : Int → Int} {σ : jH} {e n p c b : Int} {A B : Int → Bool}
def bhB (W n : Int) (B : Int → Bool) (p : Int) : Bool := anB (fun q => B q && decide (p < q ∧ q ≤ p + n)) W.toNat
def ahB (W n : Int) (B : Int → Bool) (p : Int) : Bool := anB (fun q => B q && decide (q < p ∧ p ≤ q + n)) W.toNat
theorem bh_iff {W n p : Int} (hW : 0 ≤ W) : bhB W n B p = true ↔ ∃ q, 0 ≤ q ∧ q < W ∧ p < q ∧ q ≤ p + n ∧ B q = true := by
  unfold bhB
  rw [anB_iff]
  constructor
  · rintro ⟨q, a, b, c⟩
    rw [Bool.and_eq_true, decide_eq_true_eq] at c
    exact ⟨q, a, by omega, c.2.1, c.2.2, c.1⟩
  · rintro ⟨q, a, b, c, e, f⟩
    exact ⟨q, a, by omega, by rw [Bool.and_eq_true, decide_eq_true_eq]; exact ⟨f, c, e⟩⟩
theorem ah_iff {W n p : Int} (hW : 0 ≤ W) : ahB W n B p = true ↔ ∃ q, 0 ≤ q ∧ q < W ∧ q < p ∧ p ≤ q + n ∧ B q = true := by
  unfold ahB
  rw [anB_iff]
  constructor
  · rintro ⟨q, a, b, c⟩
    rw [Bool.and_eq_true, decide_eq_true_eq] at c
    exact ⟨q, a, by omega, c.2.1, c.2.2, c.1⟩
  · rintro ⟨q, a, b, c, e, f⟩
    exact ⟨q, a, by omega, by rw [Bool.and_eq_true, decide_eq_true_eq]; exact ⟨f, c, e⟩⟩
theorem set_1 {W q : Int} (S : SET σ b W B) (a : 0 ≤ q) (h : q < W) : σ b q = 1 ↔ B q = true := by
  rw [S q a h]
  unfold b2i
  split <;> simp_all
theorem l_mb_14 {W : Int} (hd : 10 ≤ d) (hW : 0 ≤ W ∧ W ≤ 300) (hb : isSet b) (hn : 0 ≤ n ∧ n ≤ 50) (S : SET σ b W B) : ∀ (k : Nat) (x f : Int) (τ : jH), x + 1 = k → x < W → (∀ c', c' ≠ 174 → τ c' = σ c') → ((f = -1 ∧ ∀ q, x < q → q < W → B q = false) ∨ ((x < f ∧ f < W) ∧ B f = true ∧ ∀ q, x < q → q < f → B q = false)) → (∀ q, 0 ≤ q → q < W → τ 174 q = if x < q ∧ bhB W n B q = true then 1 else σ 174 q) →
    Ev (l, (fun _ => 0), 0) d 0 0 m_Asker_markBehind (RW fun _ τ => (∀ c', c' ≠ 174 → τ c' = σ c') ∧ ∀ q, 0 ≤ q → q < W → τ 174 q = if bhB W n B q = true then 1 else σ 174 q) 19 [some (vR 157), some (vR b), some (vI n), none, some (vI f), some (vI x)] [] gW τ 0 0
  | 0, x, f, τ, hk, hx, F, I, V => by
    refine jwp_sound t_Asker_markBehind _ (b_Asker_markBehind_19 ?_)
    refine ⟨fun _ => ⟨rfl, F, fun q a b => ?_⟩, fun q => absurd q (by omega)⟩
    rw [V q a b]
    by_cases g : bhB W n B q = true
    · rw [if_pos g, if_pos ⟨by omega, g⟩]
    · rw [if_neg g, if_neg (fun y => g y.2)]
  | k + 1, x, f, τ, hk, hx, F, I, V => by
    have hbb := hb
    unfold isSet at hbb
    have gs := gt_set hb
    -- behind the mark
    have N42 : ∀ τ2 : jH, (∀ c', c' ≠ 174 → τ2 c' = σ c') → (∀ q, 0 ≤ q → q < W → τ2 174 q = if x - 1 < q ∧ bhB W n B q = true then 1 else σ 174 q) → Ev (l, (fun _ => 0), 0) d 0 0 m_Asker_markBehind (RW fun _ τ => (∀ c', c' ≠ 174 → τ c' = σ c') ∧ ∀ q, 0 ≤ q → q < W → τ 174 q = if bhB W n B q = true then 1 else σ 174 q) 47 [some (vR 157), some (vR b), some (vI n), none, some (vI f), some (vI x)] [] gW τ2 0 0 := fun τ2 F2 V2 => by
      refine jwp_sound t_Asker_markBehind _ (b_Asker_markBehind_47 ?_)
      rw [gs, F2 b (by omega), w32_of (x := x + -1) (by omega) (by omega), show x + -1 = x - 1 by omega]
      refine ⟨rfl, by omega, (by show x < 300; omega), fun y => ?_, fun y => ?_⟩
      · have nb : B x = false := by
          cases g : B x with
          | false => rfl
          | true => exact absurd ((set_1 S (by omega) hx).mpr g) y
        refine l_mb_14 hd hW hb hn S k (x - 1) f τ2 (by omega) (by omega) F2 ?_ V2
        rcases I with ⟨i1, i2⟩ | ⟨i1, i2, i3⟩
        · exact Or.inl ⟨i1, fun q a b => by
            by_cases g : q = x
            · rw [g]
              exact nb
            · exact i2 q (by omega) b⟩
        · exact Or.inr ⟨by omega, i2, fun q a b => by
            by_cases g : q = x
            · rw [g]
              exact nb
            · exact i3 q (by omega) b⟩
      · have yb := (set_1 S (by omega) hx).mp y
        exact l_mb_14 hd hW hb hn S k (x - 1) x τ2 (by omega) (by omega) F2 (Or.inr ⟨by omega, yb, fun q a b => by omega⟩) V2
    have key : bhB W n B x = true ↔ f ≠ -1 ∧ f - x ≤ n := by
      rw [bh_iff hW.1]
      rcases I with ⟨i1, i2⟩ | ⟨i1, i2, i3⟩
      · constructor
        · rintro ⟨q, a, b, c, e, g⟩
          rw [i2 q c b] at g
          cases g
        · intro h
          exact absurd i1 h.1
      · constructor
        · rintro ⟨q, a, b, c, e, g⟩
          by_cases y : q < f
          · rw [i3 q c y] at g
            cases g
          · omega
        · intro h
          exact ⟨f, by omega, i1.2, i1.1, by omega, i2⟩
    have no : ¬ (f ≠ -1 ∧ f - x ≤ n) → ∀ q, 0 ≤ q → q < W → τ 174 q = if x - 1 < q ∧ bhB W n B q = true then 1 else σ 174 q := fun h q a b => by
      rw [V q a b]
      by_cases g : x < q ∧ bhB W n B q = true
      · rw [if_pos g, if_pos ⟨by omega, g.2⟩]
      · rw [if_neg g, if_neg (fun y => ?_)]
        by_cases g2 : q = x
        · rw [g2] at y
          exact h (key.mp y.2)
        · exact g ⟨by omega, y.2⟩
    refine jwp_sound t_Asker_markBehind _ (b_Asker_markBehind_19 ?_)
    simp only [RW, true_and, and_true, and_self, true_or, or_true, Nat.reduceLeDiff, Nat.reduceEqDiff, Nat.reduceAdd, Int.reduceLE, Int.reduceLT, Int.reduceEq, Int.reduceNeg, Int.reduceNe, Nat.reduceSub, reduceIte, implies_true, gt_157, gr_157_7, gt_174]
    refine ⟨fun q => absurd q (by omega), fun _ => ⟨fun y => N42 τ F (no (fun z => z.1 y)), fun y => ?_⟩⟩
    have fr : 0 ≤ f ∧ f ≤ 300 := by
      rcases I with ⟨i1, _⟩ | ⟨i1, _⟩ <;> omega
    rw [w32_of (x := f - x) (by omega) (by omega), show w8 1 = 1 by decide]
    refine ⟨fun z => N42 τ F (no (fun w => by omega)), fun z => ⟨by omega, by omega, N42 _ (fun c' hc' => by rw [ju_row hc', F c' hc']) (fun q a b => ?_)⟩⟩
    by_cases g : q = x
    · rw [g, ju_self, if_pos ⟨by omega, key.mpr ⟨y, z⟩⟩]
    · rw [ju_ne2 g, V q a b]
      by_cases g1 : x < q ∧ bhB W n B q = true
      · rw [if_pos g1, if_pos ⟨by omega, g1.2⟩]
      · rw [if_neg g1, if_neg (fun y => g1 ⟨by omega, y.2⟩)]
theorem c_markBehind {W : Int} (hW : 0 ≤ W ∧ W ≤ 300) (hb : isSet b) (hn : 0 ≤ n ∧ n ≤ 50) (S : SET σ b W B) : Cw 10 m_Asker_markBehind [vR 157, vR b, vI n, vI W] σ (fun _ τ => (∀ c', c' ≠ 174 → τ c' = σ c') ∧ ∀ q, 0 ≤ q → q < W → τ 174 q = if bhB W n B q = true then 1 else σ 174 q) := by
  have gs := gt_set hb
  refine Cw_of o_Asker_markBehind rfl fun l d hd => jwp_sound t_Asker_markBehind _ (b_Asker_markBehind_0 ?_)
  simp only [RW, true_and, and_true, and_self, true_or, or_true, Nat.reduceLeDiff, Nat.reduceEqDiff, Nat.reduceAdd, Int.reduceLE, Int.reduceLT, Int.reduceEq, Int.reduceNeg, Int.reduceNe, Nat.reduceSub, reduceIte, implies_true, gs]
  rw [show min W (min 300 300) = W by omega, w32_of (x := W - 1) (by omega) (by omega)]
  refine ⟨by omega, by omega, ?_⟩
  exact l_mb_14 hd hW hb hn S W.toNat (W - 1) (-1) σ (by omega) (by omega) (fun _ _ => rfl) (Or.inl ⟨rfl, fun q a b => by omega⟩) (fun q a b => by rw [if_neg (fun x => by omega)])
theorem l_ma_6 {W : Int} (hd : 10 ≤ d) (hW : 0 ≤ W ∧ W ≤ 300) (hb : isSet b) (hn : 0 ≤ n ∧ n ≤ 50) (S : SET σ b W B) : ∀ (k : Nat) (x f : Int) (τ : jH), x + k = W → 0 ≤ x → (∀ c', c' ≠ 174 → τ c' = σ c') → ((f = -1 ∧ ∀ q, 0 ≤ q → q < x → B q = false) ∨ ((0 ≤ f ∧ f < x) ∧ B f = true ∧ ∀ q, f < q → q < x → B q = false)) → (∀ q, 0 ≤ q → q < W → τ 174 q = if q < x ∧ ahB W n B q = true then 1 else σ 174 q) →
    Ev (l, (fun _ => 0), 0) d 0 0 m_Asker_markAhead (RW fun _ τ => (∀ c', c' ≠ 174 → τ c' = σ c') ∧ ∀ q, 0 ≤ q → q < W → τ 174 q = if ahB W n B q = true then 1 else σ 174 q) 6 [some (vR 157), some (vR b), some (vI n), some (vI W), some (vI f), some (vI x)] [] gW τ 0 0
  | 0, x, f, τ, hk, hx, F, I, V => by
    refine jwp_sound t_Asker_markAhead _ (b_Asker_markAhead_6 ?_)
    refine ⟨fun _ => ⟨rfl, F, fun q a b => ?_⟩, fun q => absurd q (by omega)⟩
    rw [V q a b]
    by_cases g : ahB W n B q = true
    · rw [if_pos g, if_pos ⟨by omega, g⟩]
    · rw [if_neg g, if_neg (fun y => g y.2)]
  | k + 1, x, f, τ, hk, hx, F, I, V => by
    have hbb := hb
    unfold isSet at hbb
    have gs := gt_set hb
    have N43 : ∀ τ2 : jH, (∀ c', c' ≠ 174 → τ2 c' = σ c') → (∀ q, 0 ≤ q → q < W → τ2 174 q = if q < x + 1 ∧ ahB W n B q = true then 1 else σ 174 q) → Ev (l, (fun _ => 0), 0) d 0 0 m_Asker_markAhead (RW fun _ τ => (∀ c', c' ≠ 174 → τ c' = σ c') ∧ ∀ q, 0 ≤ q → q < W → τ 174 q = if ahB W n B q = true then 1 else σ 174 q) 50 [some (vR 157), some (vR b), some (vI n), some (vI W), some (vI f), some (vI x)] [] gW τ2 0 0 := fun τ2 F2 V2 => by
      refine jwp_sound t_Asker_markAhead _ (b_Asker_markAhead_50 ?_)
      rw [gs, F2 b (by omega), w32_of (x := x + 1) (by omega) (by omega)]
      refine ⟨rfl, by omega, (by show x < 300; omega), fun y => ?_, fun y => ?_⟩
      · have nb : B x = false := by
          cases g : B x with
          | false => rfl
          | true => exact absurd ((set_1 S hx (by omega)).mpr g) y
        refine l_ma_6 hd hW hb hn S k (x + 1) f τ2 (by omega) (by omega) F2 ?_ V2
        rcases I with ⟨i1, i2⟩ | ⟨i1, i2, i3⟩
        · exact Or.inl ⟨i1, fun q a b => by
            by_cases g : q = x
            · rw [g]
              exact nb
            · exact i2 q a (by omega)⟩
        · exact Or.inr ⟨by omega, i2, fun q a b => by
            by_cases g : q = x
            · rw [g]
              exact nb
            · exact i3 q a (by omega)⟩
      · have yb := (set_1 S hx (by omega)).mp y
        exact l_ma_6 hd hW hb hn S k (x + 1) x τ2 (by omega) (by omega) F2 (Or.inr ⟨by omega, yb, fun q a b => by omega⟩) V2
    have key : ahB W n B x = true ↔ f ≠ -1 ∧ x - f ≤ n := by
      rw [ah_iff hW.1]
      rcases I with ⟨i1, i2⟩ | ⟨i1, i2, i3⟩
      · constructor
        · rintro ⟨q, a, b, c, e, g⟩
          rw [i2 q a c] at g
          cases g
        · intro h
          exact absurd i1 h.1
      · constructor
        · rintro ⟨q, a, b, c, e, g⟩
          by_cases y : f < q
          · rw [i3 q y c] at g
            cases g
          · omega
        · intro h
          exact ⟨f, by omega, by omega, i1.2, by omega, i2⟩
    have no : ¬ (f ≠ -1 ∧ x - f ≤ n) → ∀ q, 0 ≤ q → q < W → τ 174 q = if q < x + 1 ∧ ahB W n B q = true then 1 else σ 174 q := fun h q a b => by
      rw [V q a b]
      by_cases g : q < x ∧ ahB W n B q = true
      · rw [if_pos g, if_pos ⟨by omega, g.2⟩]
      · rw [if_neg g, if_neg (fun y => ?_)]
        by_cases g2 : q = x
        · rw [g2] at y
          exact h (key.mp y.2)
        · exact g ⟨by omega, y.2⟩
    refine jwp_sound t_Asker_markAhead _ (b_Asker_markAhead_6 ?_)
    simp only [RW, true_and, and_true, and_self, true_or, or_true, Nat.reduceLeDiff, Nat.reduceEqDiff, Nat.reduceAdd, Int.reduceLE, Int.reduceLT, Int.reduceEq, Int.reduceNeg, Int.reduceNe, Nat.reduceSub, reduceIte, implies_true, gt_157, gr_157_7, gt_174, gs]
    refine ⟨fun q => absurd q (by omega), fun _ => ⟨fun q => absurd q (by omega), fun _ => ⟨fun q => absurd q (by omega), fun _ => ⟨fun y => N43 τ F (no (fun z => z.1 y)), fun y => ?_⟩⟩⟩⟩
    have fr : 0 ≤ f ∧ f ≤ 300 := by
      rcases I with ⟨i1, _⟩ | ⟨i1, _⟩ <;> omega
    rw [w32_of (x := x - f) (by omega) (by omega), show w8 1 = 1 by decide]
    refine ⟨fun z => N43 τ F (no (fun w => by omega)), fun z => ⟨by omega, by omega, N43 _ (fun c' hc' => by rw [ju_row hc', F c' hc']) (fun q a b => ?_)⟩⟩
    by_cases g : q = x
    · rw [g, ju_self, if_pos ⟨by omega, key.mpr ⟨y, z⟩⟩]
    · rw [ju_ne2 g, V q a b]
      by_cases g1 : q < x ∧ ahB W n B q = true
      · rw [if_pos g1, if_pos ⟨by omega, g1.2⟩]
      · rw [if_neg g1, if_neg (fun y => g1 ⟨by omega, y.2⟩)]
theorem c_markAhead {W : Int} (hW : 0 ≤ W ∧ W ≤ 300) (hb : isSet b) (hn : 0 ≤ n ∧ n ≤ 50) (S : SET σ b W B) : Cw 10 m_Asker_markAhead [vR 157, vR b, vI n, vI W] σ (fun _ τ => (∀ c', c' ≠ 174 → τ c' = σ c') ∧ ∀ q, 0 ≤ q → q < W → τ 174 q = if ahB W n B q = true then 1 else σ 174 q) := by
  refine Cw_of o_Asker_markAhead rfl fun l d hd => jwp_sound t_Asker_markAhead _ (b_Asker_markAhead_0 ?_)
  exact l_ma_6 hd hW hb hn S W.toNat 0 (-1) σ (by omega) (by omega) (fun _ _ => rfl) (Or.inl ⟨rfl, fun q a b => by omega⟩) (fun q a b => by rw [if_neg (fun x => by omega)])
end AR
