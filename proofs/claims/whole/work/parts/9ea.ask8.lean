/-! ASKS: the class's work of an operator -/
section AV
variable {l : Launch} {d : Nat} {ω t : Int → Int} {σ : jH} {e n p c b : Int} {A B : Int → Bool}
theorem near_or {W n p : Int} (hW : 0 ≤ W) : anB (fun q => B q && decide (q ≠ p ∧ p - n ≤ q ∧ q ≤ p + n)) W.toNat = (bhB W n B p || ahB W n B p) := by
  have iff : anB (fun q => B q && decide (q ≠ p ∧ p - n ≤ q ∧ q ≤ p + n)) W.toNat = true ↔ (bhB W n B p || ahB W n B p) = true := by
    rw [Bool.or_eq_true, bh_iff hW, ah_iff hW, anB_iff]
    constructor
    · rintro ⟨q, a, b, c⟩
      rw [Bool.and_eq_true, decide_eq_true_eq] at c
      by_cases g : p < q
      · exact Or.inl ⟨q, a, by omega, g, by omega, c.1⟩
      · exact Or.inr ⟨q, a, by omega, by omega, by omega, c.1⟩
    · rintro (⟨q, a, b, c, f, g⟩ | ⟨q, a, b, c, f, g⟩)
      · refine ⟨q, a, by omega, ?_⟩
        rw [Bool.and_eq_true, decide_eq_true_eq]
        by_cases h0 : 0 ≤ n
        · exact ⟨g, by omega, by omega, f⟩
        · omega
      · refine ⟨q, a, by omega, ?_⟩
        rw [Bool.and_eq_true, decide_eq_true_eq]
        exact ⟨g, by omega, by omega, by omega⟩
  exact Bool.eq_iff_iff.mpr iff
/-- the left set at the end: those whose mark is wanted stay -/
theorem l_wk_133 {W v : Int} {D : Int → Bool} (hd : 12 ≤ d) (hW : 0 ≤ W ∧ W ≤ 300) (hc : isSet c) (S : SET σ c W A) (M : ∀ q, 0 ≤ q → q < W → (σ 174 q = v ↔ D q = true)) : ∀ (k i : Nat) (τ : jH), (i : Int) + k = W → (∀ c', c' ≠ c → τ c' = σ c') → (∀ q, 0 ≤ q → q < W → τ c q = if q < i ∧ D q = false then 0 else σ c q) →
    Ev (l, (fun _ => 0), 0) d 0 0 m_Asker_work (RW fun _ τ => (∀ c', c' ≠ c → τ c' = σ c') ∧ SET τ c W (fun q => A q && D q)) 143 [some (vR 157), none, none, some (vR c), none, some (vI W), some (vI v), some (vI i)] [] gW τ 0 0
  | 0, i, τ, hi, F, V => by
    refine jwp_sound t_Asker_work _ (b_Asker_work_143 ?_)
    refine ⟨fun _ => ⟨rfl, F, fun q a b => ?_⟩, fun x => absurd x (by omega)⟩
    show τ c q = b2i (A q && D q)
    rw [V q a b]
    cases g : D q with
    | true =>
      rw [if_neg (fun x => by cases x.2), S q a b, Bool.and_true]
    | false =>
      rw [if_pos ⟨by omega, rfl⟩, Bool.and_false]
      rfl
  | k + 1, i, τ, hi, F, V => by
    have hcc := hc
    unfold isSet at hcc
    have gs := gt_set hc
    have m := M i (by omega) (by omega)
    have IH := l_wk_133 hd hW hc S M k (i + 1)
    rw [show ((i + 1 : Nat) : Int) = (i : Int) + 1 by omega] at IH
    refine jwp_sound t_Asker_work _ (b_Asker_work_143 ?_)
    simp only [RW, true_and, and_true, and_self, true_or, or_true, Nat.reduceLeDiff, Nat.reduceEqDiff, Nat.reduceAdd, Int.reduceLE, Int.reduceLT, Int.reduceEq, Int.reduceNeg, Int.reduceNe, Nat.reduceSub, reduceIte, implies_true, gt_157, gr_157_7, gt_174, gs]
    rw [F 174 (by omega), w32_of (x := (i : Int) + 1) (by omega) (by omega), show w8 0 = 0 by decide]
    refine ⟨fun x => absurd x (by omega), fun _ => ⟨fun x => absurd x (by omega), fun _ => ⟨fun x => absurd x (by omega), fun _ => ⟨by omega, by omega, fun y => ?_, fun y => ⟨by omega, by omega, ?_⟩⟩⟩⟩⟩
    · have dt := m.mp y
      refine IH τ (by omega) F (fun q a b' => ?_)
      rw [V q a b']
      by_cases g : q < (i : Int) ∧ D q = false
      · rw [if_pos g, if_pos ⟨by omega, g.2⟩]
      · rw [if_neg g, if_neg (fun x => ?_)]
        by_cases g2 : q = i
        · rw [g2, dt] at x
          cases x.2
        · exact g ⟨by omega, x.2⟩
    · have df : D i = false := by
        cases g : D i with
        | false => rfl
        | true => exact absurd (m.mpr g) y
      refine IH _ (by omega) (fun c' x => by rw [ju_row x, F c' x]) (fun q a b' => ?_)
      by_cases g2 : q = i
      · rw [g2, ju_self, if_pos ⟨by omega, df⟩]
      · rw [ju_ne2 g2, V q a b']
        by_cases g : q < (i : Int) ∧ D q = false
        · rw [if_pos g, if_pos ⟨by omega, g.2⟩]
        · rw [if_neg g, if_neg (fun x => g ⟨by omega, x.2⟩)]
theorem jor_b (x y : Bool) : w8 (w8 (jor32 (b2i x) (b2i y))) = b2i (x || y) := by
  cases x <;> cases y <;> decide +kernel
theorem l_wk_29 {W : Int} (hd : 12 ≤ d) (hW : 0 ≤ W ∧ W ≤ 300) (hc : isSet c) (hb : isSet b) (hcb : c ≠ b) (S : SET σ c W A) (S2 : SET σ b W B) : ∀ (k i : Nat) (τ : jH), (i : Int) + k = W → (∀ c', c' ≠ c → τ c' = σ c') → (∀ q, 0 ≤ q → q < W → τ c q = if q < i then b2i (A q || B q) else σ c q) →
    Ev (l, (fun _ => 0), 0) d 0 0 m_Asker_work (RW fun _ τ => (∀ c', c' ≠ c → τ c' = σ c') ∧ SET τ c W (fun q => A q || B q)) 24 [none, none, none, some (vR c), some (vR b), some (vI W), some (vI i), none] [] gW τ 0 0
  | 0, i, τ, hi, F, V => by
    refine jwp_sound t_Asker_work _ (b_Asker_work_24 ?_)
    refine ⟨fun _ => ⟨rfl, F, fun q a b => ?_⟩, fun x => absurd x (by omega)⟩
    rw [V q a b, if_pos (by omega)]
  | k + 1, i, τ, hi, F, V => by
    have gs := gt_set hc
    have gb := gt_set hb
    have IH := l_wk_29 hd hW hc hb hcb S S2 k (i + 1)
    rw [show ((i + 1 : Nat) : Int) = (i : Int) + 1 by omega] at IH
    refine jwp_sound t_Asker_work _ (b_Asker_work_24 ?_)
    simp only [RW, true_and, and_true, and_self, true_or, or_true, Nat.reduceLeDiff, Nat.reduceEqDiff, Nat.reduceAdd, Int.reduceLE, Int.reduceLT, Int.reduceEq, Int.reduceNeg, Int.reduceNe, Nat.reduceSub, reduceIte, implies_true, gs, gb]
    rw [F b (fun x => hcb x.symm), V i (by omega) (by omega), if_neg (by omega), S i (by omega) (by omega), S2 i (by omega) (by omega), jor_b, w32_of (x := (i : Int) + 1) (by omega) (by omega)]
    refine ⟨fun x => absurd x (by omega), fun _ => ⟨fun x => absurd x (by omega), fun _ => ⟨fun x => absurd x (by omega), fun _ => ?_⟩⟩⟩
    repeat (refine And.intro (by omega) ?_)
    refine IH _ (by omega) (fun c' x => by rw [ju_row x, F c' x]) (fun q a b' => ?_)
    by_cases g2 : q = i
    · rw [g2, ju_self, if_pos (by omega)]
    · rw [ju_ne2 g2, V q a b']
      by_cases g : q < (i : Int)
      · rw [if_pos g, if_pos (by omega)]
      · rw [if_neg g, if_neg (by omega)]
end AV
