/-! ASKS: the reference joins two sets -/
section BG
variable {l : Launch} {d : Nat} {ω t : Int → Int} {σ : jH} {e n p b c op : Int} {A B : Int → Bool}
theorem joS_n {W : Int} {ln : Int → Int} {i : Int} (h : A i = false) (h6 : op ≠ 6) : joS W ln op n A B i = false := by
  unfold joS
  rw [h]
  simp only [Bool.false_and]
  rw [if_neg h6]
  repeat' split
  all_goals rfl
theorem l_jn_3 (hd : 11 ≤ d) (R : RFR σ ω) (he : 0 ≤ e ∧ e ≤ 1) (h30 : σ 189 30 = e) (hc : isRSet c) (hb : isRSet b) (hcb : b ≠ c) (ho : 1 ≤ op ∧ op ≤ 6) (hn : 0 ≤ n ∧ n ≤ 50) (S : SET σ c (wW ω e).1 A) (S2 : SET σ b (wW ω e).1 B) : ∀ (k i : Nat) (τ : jH), (i : Int) + k = (wW ω e).1 → (∀ c', c' ≠ c → τ c' = σ c') → (∀ q, 0 ≤ q → q < (wW ω e).1 → τ c q = if q < i then b2i (joS (wW ω e).1 (wW ω e).2.2.1 op n A B q) else σ c q) →
    Ev (l, (fun _ => 0), 0) d 0 0 m_Model_joins (RW fun _ τ => (∀ c', c' ≠ c → τ c' = σ c') ∧ SET τ c (wW ω e).1 (joS (wW ω e).1 (wW ω e).2.2.1 op n A B)) 3 [some (vR 189), some (vI (op - 1)), some (vI n), some (vR c), some (vR b), some (vI i)] [] gW τ 0 0
  | 0, i, τ, hi, F, V => by
    have hcc := hc
    unfold isRSet at hcc
    have w := R.W he
    refine jwp_sound t_Model_joins _ (b_Model_joins_3 ?_)
    simp only [RW, true_and, and_true, and_self, true_or, or_true, Nat.reduceLeDiff, Nat.reduceEqDiff, Nat.reduceAdd, Int.reduceLE, Int.reduceLT, Int.reduceEq, Int.reduceNeg, Int.reduceNe, Nat.reduceSub, reduceIte, implies_true, gt_189, gr_189_4, gt_193]
    rw [F 189 (by omega), h30, F 193 (by omega), w.1]
    refine ⟨by omega, by omega, fun _ => ⟨F, fun q x y => ?_⟩, fun x => absurd x (by omega)⟩
    rw [V q x y, if_pos (by omega)]
  | k + 1, i, τ, hi, F, V => by
    have hcc := hc
    unfold isRSet at hcc
    have hbb := hb
    unfold isRSet at hbb
    have w := R.W he
    have gc := gt_rset hc
    have gb := gt_rset hb
    have Rτ : RFR τ ω := R.of (fun c' h => F c' (by omega))
    have t30 : τ 189 30 = e := by rw [F 189 (by omega)]; exact h30
    have S2τ : SET τ b (wW ω e).1 B := fun q x y => by rw [F b hcb]; exact S2 q x y
    have hp : 0 ≤ (i : Int) ∧ (i : Int) < (wW ω e).1 := by omega
    have ci : τ c i = σ c i := by rw [V i (by omega) (by omega), if_neg (by omega)]
    have a0 : τ c i = 0 ↔ A i = false := by rw [ci]; exact set_0 S (by omega) (by omega)
    have b0 : τ b i = 0 ↔ B i = false := set_0 S2τ (by omega) (by omega)
    have at1 : τ c i ≠ 0 → A i = true := fun h => by
      cases g : A i with
      | true => rfl
      | false => exact absurd (a0.mpr g) h
    have go : ∀ v, v = b2i (joS (wW ω e).1 (wW ω e).2.2.1 op n A B i) → Ev (l, (fun _ => 0), 0) d 0 0 m_Model_joins (RW fun _ τ => (∀ c', c' ≠ c → τ c' = σ c') ∧ SET τ c (wW ω e).1 (joS (wW ω e).1 (wW ω e).2.2.1 op n A B)) 3 [some (vR 189), some (vI (op - 1)), some (vI n), some (vR c), some (vR b), some (vI (i + 1))] [] gW (ju τ c i v) 0 0 := fun v hv => by
      have IH := l_jn_3 hd R he h30 hc hb hcb ho hn S S2 k (i + 1) (ju τ c i v) (by omega) (fun c' h => by rw [ju_row h, F c' h]) (fun q x y => by
        by_cases g : q = i
        · rw [g, ju_self, if_pos (by omega)]
          exact hv
        · rw [ju_ne2 g, V q x y]
          by_cases g2 : q < (i : Int)
          · rw [if_pos g2, if_pos (by omega)]
          · rw [if_neg g2, if_neg (by omega)])
      rw [show ((i + 1 : Nat) : Int) = (i : Int) + 1 by omega] at IH
      exact IH
    have z0 : op ≠ 6 → τ c i = 0 → (0 : Int) = b2i (joS (wW ω e).1 (wW ω e).2.2.1 op n A B i) := fun h6 h => by
      rw [joS_n (a0.mp h) h6]
      rfl
    -- an operator whose test is C, wanted or not
    have val : ∀ (C : Bool), τ c i ≠ 0 → joS (wW ω e).1 (wW ω e).2.2.1 op n A B i = (A i && C) → (b2i C = 0 → (0 : Int) = b2i (joS (wW ω e).1 (wW ω e).2.2.1 op n A B i)) ∧ (b2i C ≠ 0 → (1 : Int) = b2i (joS (wW ω e).1 (wW ω e).2.2.1 op n A B i)) := fun C h eq => by
      rw [eq, at1 h, Bool.true_and]
      cases C with
      | true => exact ⟨fun x => absurd x (by decide), fun _ => rfl⟩
      | false => exact ⟨fun _ => rfl, fun x => absurd rfl x⟩
    have vaN : ∀ (C : Bool), τ c i ≠ 0 → joS (wW ω e).1 (wW ω e).2.2.1 op n A B i = (A i && !C) → (b2i C = 0 → (1 : Int) = b2i (joS (wW ω e).1 (wW ω e).2.2.1 op n A B i)) ∧ (b2i C ≠ 0 → (0 : Int) = b2i (joS (wW ω e).1 (wW ω e).2.2.1 op n A B i)) := fun C h eq => by
      rw [eq, at1 h, Bool.true_and]
      cases C with
      | true => exact ⟨fun x => absurd x (by decide), fun _ => rfl⟩
      | false => exact ⟨fun _ => rfl, fun x => absurd rfl x⟩
    refine jwp_sound t_Model_joins _ (b_Model_joins_3 ?_)
    simp only [RW, true_and, and_true, and_self, true_or, or_true, Nat.reduceLeDiff, Nat.reduceEqDiff, Nat.reduceAdd, Int.reduceLE, Int.reduceLT, Int.reduceEq, Int.reduceNeg, Int.reduceNe, Nat.reduceSub, reduceIte, implies_true, gt_189, gr_189_4, gt_193]
    rw [t30, Rτ.W he |>.1, gc, gb, w32_of (x := (i : Int) + 1) (by omega) (by omega)]
    have i340 : (i : Int) < 340 := by omega
    have tr : ∀ {P : Prop}, P → ((3, (340 : Int)) : Nat × Int).1 = 3 ∧ 0 ≤ (i : Int) ∧ (i : Int) < ((3, (340 : Int)) : Nat × Int).2 ∧ P := fun {P} h => ⟨rfl, by omega, i340, h⟩
    refine ⟨by omega, by omega, fun x => absurd x (by omega), fun _ => ⟨fun x => ?_, fun x => ?_, fun x => ?_, fun x => ?_, fun x => ?_, fun x => ?_⟩⟩
    · have o6 : op = 6 := by omega
      have eq : joS (wW ω e).1 (wW ω e).2.2.1 op n A B i = (A i || B i) := by
        unfold joS
        rw [if_pos o6]
      refine tr ⟨fun y => tr (go 1 ?_), fun y => tr ⟨fun z => tr (go 0 ?_), fun z => tr (go 1 ?_)⟩⟩
      · rw [eq, at1 y, Bool.true_or]
        rfl
      · rw [eq, a0.mp y, b0.mp z]
        rfl
      · have bt : B i = true := by
          cases g : B i with
          | true => rfl
          | false => exact absurd (b0.mpr g) z
        rw [eq, bt, Bool.or_true]
        rfl
    · have o1 : op = 1 := by omega
      refine tr ⟨fun y => tr (go 0 (z0 (by omega) y)), fun y => ?_⟩
      refine cN_p (c_isNear0 Rτ he t30 hb hn hp S2τ) (by omega) ?_
      have vv := val _ y (show joS (wW ω e).1 (wW ω e).2.2.1 op n A B i = (A i && anB (fun q => B q && decide (q ≠ (i : Int) ∧ (i : Int) - n ≤ q ∧ q ≤ i + n)) (wW ω e).1.toNat) by
        unfold joS
        rw [if_neg (by omega), if_neg (by omega), if_neg (by omega), if_neg (by omega), if_pos o1])
      exact ⟨fun z => tr (go 0 (vv.1 z)), fun z => tr (go 1 (vv.2 z))⟩
    · have o2 : op = 2 := by omega
      refine tr ⟨fun y => tr (go 0 (z0 (by omega) y)), fun y => ?_⟩
      refine cN_p (c_isNear1 Rτ he t30 hb hn hp S2τ) (by omega) ?_
      have vv := val _ y (show joS (wW ω e).1 (wW ω e).2.2.1 op n A B i = (A i && anB (fun q => B q && decide ((i : Int) < q ∧ q ≤ i + n)) (wW ω e).1.toNat) by
        unfold joS
        rw [if_neg (by omega), if_neg (by omega), if_neg (by omega), if_pos o2])
      exact ⟨fun z => tr (go 0 (vv.1 z)), fun z => tr (go 1 (vv.2 z))⟩
    · have o3 : op = 3 := by omega
      refine tr ⟨fun y => tr (go 0 (z0 (by omega) y)), fun y => ?_⟩
      refine cN_p (c_isNear0 Rτ he t30 hb hn hp S2τ) (by omega) ?_
      have vv := vaN _ y (show joS (wW ω e).1 (wW ω e).2.2.1 op n A B i = (A i && !anB (fun q => B q && decide (q ≠ (i : Int) ∧ (i : Int) - n ≤ q ∧ q ≤ i + n)) (wW ω e).1.toNat) by
        unfold joS
        rw [if_neg (by omega), if_neg (by omega), if_neg (by omega), if_neg (by omega), if_neg (by omega)])
      exact ⟨fun z => tr (go 0 (vv.2 z)), fun z => tr (go 1 (vv.1 z))⟩
    · have o4 : op = 4 := by omega
      refine tr ⟨fun y => tr (go 0 (z0 (by omega) y)), fun y => ?_⟩
      refine cN_p (c_hasInLine Rτ he t30 hb hp S2τ) (by omega) ?_
      have vv := val _ y (show joS (wW ω e).1 (wW ω e).2.2.1 op n A B i = (A i && anB (fun q => B q && decide ((wW ω e).2.2.1 q = (wW ω e).2.2.1 i)) (wW ω e).1.toNat) by
        unfold joS
        rw [if_neg (by omega), if_pos o4])
      exact ⟨fun z => tr (go 0 (vv.1 z)), fun z => tr (go 1 (vv.2 z))⟩
    · have o5 : op = 5 := by omega
      refine tr ⟨fun y => tr (go 0 (z0 (by omega) y)), fun y => ?_⟩
      refine cN_p (c_hasInLine Rτ he t30 hb hp S2τ) (by omega) ?_
      have vv := vaN _ y (show joS (wW ω e).1 (wW ω e).2.2.1 op n A B i = (A i && !anB (fun q => B q && decide ((wW ω e).2.2.1 q = (wW ω e).2.2.1 i)) (wW ω e).1.toNat) by
        unfold joS
        rw [if_neg (by omega), if_neg (by omega), if_pos o5])
      exact ⟨fun z => tr (go 0 (vv.2 z)), fun z => tr (go 1 (vv.1 z))⟩
theorem c_joins (R : RFR σ ω) (he : 0 ≤ e ∧ e ≤ 1) (h30 : σ 189 30 = e) (hc : isRSet c) (hb : isRSet b) (hcb : b ≠ c) (ho : 1 ≤ op ∧ op ≤ 6) (hn : 0 ≤ n ∧ n ≤ 50) (S : SET σ c (wW ω e).1 A) (S2 : SET σ b (wW ω e).1 B) : Cw 11 m_Model_joins [vR 189, vI (op - 1), vI n, vR c, vR b] σ (fun _ τ => (∀ c', c' ≠ c → τ c' = σ c') ∧ SET τ c (wW ω e).1 (joS (wW ω e).1 (wW ω e).2.2.1 op n A B)) := by
  have w := R.W he
  refine Cw_of o_Model_joins rfl fun l d hd => jwp_sound t_Model_joins _ (b_Model_joins_0 ?_)
  exact l_jn_3 hd R he h30 hc hb hcb ho hn S S2 (wW ω e).1.toNat 0 σ (by omega) (fun _ _ => rfl) (fun q x y => by rw [if_neg (by omega)])
end BG
