/-! ASKS: the class's work, whole -/
section AW
variable {l : Launch} {d : Nat} {ω t : Int → Int} {σ : jH} {e n p c b op : Int} {A B : Int → Bool}
def wkD (op : Int) (C : Int → Bool) : Int → Bool := fun q => if op = 3 ∨ op = 5 then !C q else C q
theorem l_wk_113 {W : Int} {C : Int → Bool} (hd : 12 ≤ d) (hW : 0 ≤ W ∧ W ≤ 300) (hc : isSet c) (S : SET σ c W A) (M : ∀ q, 0 ≤ q → q < W → σ 174 q = b2i (C q)) :
    Ev (l, (fun _ => 0), 0) d 0 0 m_Asker_work (RW fun _ τ => (∀ c', c' ≠ c → τ c' = σ c') ∧ SET τ c W (fun q => A q && wkD op C q)) 123 [some (vR 157), some (vI op), none, some (vR c), none, some (vI W), none, none] [] gW σ 0 0 := by
  have m1 : ∀ q, 0 ≤ q → q < W → (σ 174 q = 1 ↔ C q = true) := fun q x y => by
    rw [M q x y]
    cases C q <;> decide
  have m0 : ∀ q, 0 ≤ q → q < W → (σ 174 q = 0 ↔ (!C q) = true) := fun q x y => by
    rw [M q x y]
    cases C q <;> decide
  have z : ∀ q, 0 ≤ q → q < W → σ c q = if q < ((0 : Nat) : Int) ∧ True then 0 else σ c q := fun q x y => by rw [if_neg (by omega)]
  have go1 := fun h : wkD op C = C => (l_wk_133 (l := l) (d := d) (σ := σ) (v := 1) (D := C) hd hW hc S m1 W.toNat 0 σ (by omega) (fun _ _ => rfl) (fun q x y => by rw [if_neg (fun z => by omega)]))
  have go0 := l_wk_133 (l := l) (d := d) (σ := σ) (v := 0) (D := fun q => !C q) hd hW hc S m0 W.toNat 0 σ (by omega) (fun _ _ => rfl) (fun q x y => by rw [if_neg (fun z => by omega)])
  refine jwp_sound t_Asker_work _ (b_Asker_work_123 ?_)
  refine ⟨fun x => ?_, fun x => ⟨fun y => ?_, fun y => ?_⟩⟩
  · have e : wkD op C = fun q => !C q := by
      funext q
      exact if_pos (Or.inl x)
    rw [e]
    exact go0
  · have e : wkD op C = C := by
      funext q
      exact if_neg (by omega)
    rw [e]
    exact go1 e
  · have e : wkD op C = fun q => !C q := by
      funext q
      exact if_pos (Or.inr y)
    rw [e]
    exact go0
theorem l_wk_94 {W : Int} {C : Int → Bool} (hd : 12 ≤ d) (hW : 0 ≤ W ∧ W ≤ 300) (hc : isSet c) (hb : isSet b) (hn : 0 ≤ n ∧ n ≤ 50) (S : SET σ c W A) (S2 : SET σ b W B) (M : ∀ q, 0 ≤ q → q < W → σ 174 q = b2i (C q)) :
    Ev (l, (fun _ => 0), 0) d 0 0 m_Asker_work (RW fun _ τ => (∀ c', c' ≠ c → c' ≠ 174 → τ c' = σ c') ∧ SET τ c W (fun q => A q && wkD op (fun q => C q || (decide (op = 1 ∨ op = 3) && ahB W n B q)) q)) 104 [some (vR 157), some (vI op), some (vI n), some (vR c), some (vR b), some (vI W), none, none] [] gW σ 0 0 := by
  have hcc := hc
  unfold isSet at hcc
  have yes : (op = 1 ∨ op = 3) → cN l d m_Asker_markAhead [vR 157, vR b, vI n, vI W] gW σ (fun _ τ => Ev (l, (fun _ => 0), 0) d 0 0 m_Asker_work (RW fun _ τ => (∀ c', c' ≠ c → c' ≠ 174 → τ c' = σ c') ∧ SET τ c W (fun q => A q && wkD op (fun q => C q || (decide (op = 1 ∨ op = 3) && ahB W n B q)) q)) 123 [some (vR 157), some (vI op), none, some (vR c), none, some (vI W), none, none] [] gW τ 0 0) := fun h => by
    refine cN_w (c_markAhead hW hb hn S2) (by omega) (fun _ τ hh => ?_)
    obtain ⟨F, V⟩ := hh
    have go := l_wk_113 (l := l) (d := d) (σ := τ) (c := c) (A := A) (op := op) (C := fun q => C q || (decide (op = 1 ∨ op = 3) && ahB W n B q)) hd hW hc (fun q x y => by rw [F c (by omega)]; exact S q x y) (fun q x y => by
      show τ 174 q = b2i (C q || (decide (op = 1 ∨ op = 3) && ahB W n B q))
      rw [V q x y, decide_eq_true h, Bool.true_and]
      cases g : ahB W n B q with
      | true => rw [if_pos rfl, Bool.or_true]; rfl
      | false => rw [if_neg Bool.false_ne_true, Bool.or_false]; exact M q x y)
    exact Ev_post go (fun _ υ h => ⟨fun c' x y => by rw [h.1 c' x, F c' y], h.2⟩)
  have no : ¬ (op = 1 ∨ op = 3) → Ev (l, (fun _ => 0), 0) d 0 0 m_Asker_work (RW fun _ τ => (∀ c', c' ≠ c → c' ≠ 174 → τ c' = σ c') ∧ SET τ c W (fun q => A q && wkD op (fun q => C q || (decide (op = 1 ∨ op = 3) && ahB W n B q)) q)) 123 [some (vR 157), some (vI op), none, some (vR c), none, some (vI W), none, none] [] gW σ 0 0 := fun h => by
    have go := l_wk_113 (l := l) (d := d) (σ := σ) (c := c) (A := A) (op := op) (C := fun q => C q || (decide (op = 1 ∨ op = 3) && ahB W n B q)) hd hW hc S (fun q x y => by
      show σ 174 q = b2i (C q || (decide (op = 1 ∨ op = 3) && ahB W n B q))
      rw [decide_eq_false h, Bool.false_and, Bool.or_false]
      exact M q x y)
    exact Ev_post go (fun _ υ h => ⟨fun c' x y => h.1 c' x, h.2⟩)
  refine jwp_sound t_Asker_work _ (b_Asker_work_104 ?_)
  simp only [RW, true_and, and_true, and_self, true_or, or_true, Nat.reduceLeDiff, Nat.reduceEqDiff, Nat.reduceAdd, Int.reduceLE, Int.reduceLT, Int.reduceEq, Int.reduceNeg, Int.reduceNe, Nat.reduceSub, reduceIte, implies_true, gt_157, gr_157_7, gt_174]
  exact ⟨fun x => yes (Or.inl x), fun x => ⟨fun y => no (by omega), fun y => yes (Or.inr y)⟩⟩
theorem c_awork (H : CDR σ ω) (W : OKW ω) (he : 0 ≤ e ∧ e ≤ 1) (h4 : σ 157 4 = wb e) (hc : isSet c) (hb : isSet b) (hcb : c ≠ b) (ho : 1 ≤ op ∧ op ≤ 6) (hn : 0 ≤ n ∧ n ≤ 50) (S : SET σ c (wW ω e).1 A) (S2 : SET σ b (wW ω e).1 B) : Cw 12 m_Asker_work [vR 157, vI op, vI n, vR c, vR b] σ (fun _ τ => (∀ c', c' ≠ c → c' ≠ 174 → c' ≠ 175 → τ c' = σ c') ∧ SET τ c (wW ω e).1 (joS (wW ω e).1 (wW ω e).2.2.1 op n A B)) := by
  have hcc := hc
  unfold isSet at hcc
  have hbb := hb
  unfold isSet at hbb
  have w := W.n he
  have hW := wb_i he
  have wbr : wb e = 105 ∨ wb e = 120 := hW
  have cnt : σ (wb e) 0 = (wW ω e).1 := (H.W he).1.1
  have gs := gt_set hc
  have gb := gt_set hb
  refine Cw_of o_Asker_work rfl fun l d hd => jwp_sound t_Asker_work _ (b_Asker_work_0 ?_)
  simp only [RW, true_and, and_true, and_self, true_or, or_true, Nat.reduceLeDiff, Nat.reduceEqDiff, Nat.reduceAdd, Int.reduceLE, Int.reduceLT, Int.reduceEq, Int.reduceNeg, Int.reduceNe, Nat.reduceSub, reduceIte, implies_true, gt_157, gr_157_7, gt_174]
  rw [h4, cnt]
  simp only [wd_t hW, true_and]
  rw [show min (wW ω e).1 (300 : Int) = (wW ω e).1 by omega]
  have fr : ∀ c', c' ≠ 174 → jfill σ 174 0 300 0 c' = σ c' := fun c' h => jfill_row h
  have H0 : CDR (jfill σ 174 0 300 0) ω := CDR_eq (fun c' x y => fr c' (by omega)) H
  have S0 : SET (jfill σ 174 0 300 0) c (wW ω e).1 A := fun q x y => by rw [fr c (by omega)]; exact S q x y
  have S20 : SET (jfill σ 174 0 300 0) b (wW ω e).1 B := fun q x y => by rw [fr b (by omega)]; exact S2 q x y
  have h40 : jfill σ 174 0 300 0 157 4 = wb e := by rw [fr 157 (by omega)]; exact h4
  -- marks in the same line
  have SL : (op = 4 ∨ op = 5) → cN l d m_Asker_markSameLine [vR 157, vR b, vI (wW ω e).1] gW (jfill σ 174 0 300 0) (fun _ τ => Ev (l, (fun _ => 0), 0) d 0 0 m_Asker_work (RW fun _ τ => (∀ c', c' ≠ c → c' ≠ 174 → c' ≠ 175 → τ c' = σ c') ∧ SET τ c (wW ω e).1 (joS (wW ω e).1 (wW ω e).2.2.1 op n A B)) 104 [some (vR 157), some (vI op), some (vI n), some (vR c), some (vR b), some (vI (wW ω e).1), none, none] [] gW τ 0 0) := fun h => by
    refine cN_w (c_markSameLine H0 W he h40 hb S20) (by omega) (fun _ τ hh => ?_)
    obtain ⟨F, V⟩ := hh
    have go := l_wk_94 (l := l) (d := d) (σ := τ) (c := c) (b := b) (A := A) (B := B) (n := n) (op := op) (C := fun q => lnB (wW ω e).1 (wW ω e).2.2.1 B ((wW ω e).2.2.1 q) (wW ω e).1.toNat) hd ⟨w.1, w.2.1⟩ hc hb hn (fun q x y => by rw [F c (by omega) (by omega)]; exact S0 q x y) (fun q x y => by rw [F b (by omega) (by omega)]; exact S20 q x y) V
    refine Ev_post go (fun _ υ h' => ⟨fun c' x y z => by rw [h'.1 c' x y, F c' y z, fr c' y], fun q x y => ?_⟩)
    rw [h'.2 q x y]
    unfold wkD joS lnB
    rw [decide_eq_false (show ¬ (op = 1 ∨ op = 3) by omega), if_neg (show ¬ op = 6 by omega)]
    simp only [Bool.false_and, Bool.or_false]
    rcases h with h | h
    · rw [if_neg (show ¬ (op = 3 ∨ op = 5) by omega), if_pos h]
    · rw [if_pos (Or.inr h), if_neg (show ¬ op = 4 by omega), if_pos h]
  have MB : (op = 1 ∨ op = 2 ∨ op = 3) → cN l d m_Asker_markBehind [vR 157, vR b, vI n, vI (wW ω e).1] gW (jfill σ 174 0 300 0) (fun _ τ => Ev (l, (fun _ => 0), 0) d 0 0 m_Asker_work (RW fun _ τ => (∀ c', c' ≠ c → c' ≠ 174 → c' ≠ 175 → τ c' = σ c') ∧ SET τ c (wW ω e).1 (joS (wW ω e).1 (wW ω e).2.2.1 op n A B)) 104 [some (vR 157), some (vI op), some (vI n), some (vR c), some (vR b), some (vI (wW ω e).1), none, none] [] gW τ 0 0) := fun h => by
    refine cN_w (c_markBehind ⟨w.1, w.2.1⟩ hb hn S20) (by omega) (fun _ τ hh => ?_)
    obtain ⟨F, V⟩ := hh
    have go := l_wk_94 (l := l) (d := d) (σ := τ) (c := c) (b := b) (A := A) (B := B) (n := n) (op := op) (C := bhB (wW ω e).1 n B) hd ⟨w.1, w.2.1⟩ hc hb hn (fun q x y => by rw [F c (by omega)]; exact S0 q x y) (fun q x y => by rw [F b (by omega)]; exact S20 q x y) (fun q x y => by
      rw [V q x y, jfill_in x (by omega)]
      rfl)
    refine Ev_post go (fun _ υ h' => ⟨fun c' x y z => by rw [h'.1 c' x y, F c' y, fr c' y], fun q x y => ?_⟩)
    rw [h'.2 q x y]
    unfold joS
    rw [near_or w.1, if_neg (show ¬ op = 6 by omega), if_neg (show ¬ op = 4 by omega), if_neg (show ¬ op = 5 by omega)]
    unfold wkD
    dsimp only
    rcases h with h | h | h
    · rw [if_neg (show ¬ (op = 3 ∨ op = 5) by omega), if_neg (show ¬ op = 2 by omega), if_pos h, decide_eq_true (show op = 1 ∨ op = 3 by omega), Bool.true_and]
    · rw [if_neg (show ¬ (op = 3 ∨ op = 5) by omega), if_pos h, decide_eq_false (show ¬ (op = 1 ∨ op = 3) by omega), Bool.false_and, Bool.or_false]
      rfl
    · rw [if_pos (Or.inl h), if_neg (show ¬ op = 2 by omega), if_neg (show ¬ op = 1 by omega), decide_eq_true (show op = 1 ∨ op = 3 by omega), Bool.true_and]
  have go6 := fun h : op = 6 => (l_wk_29 (l := l) (σ := σ) (c := c) (b := b) (A := A) (B := B) hd ⟨w.1, w.2.1⟩ hc hb hcb S S2 (wW ω e).1.toNat 0 σ (by omega) (fun _ _ => rfl) (fun q x y => by rw [if_neg (by omega)]))
  refine ⟨by omega, fun x6 => ?_, fun x6 => ?_⟩
  · refine cN_v (c_Arrays_fill2 (n := 300) 0 _ gt_174 (by omega) (by omega) (by decide)) (by omega) (fun _ => ?_)
    exact ⟨fun x => SL (Or.inl x), fun x => ⟨fun y => MB (by omega), fun y => SL (Or.inr y)⟩⟩
  · refine Ev_post (go6 x6) (fun _ υ h' => ⟨fun c' x _ _ => h'.1 c' x, fun q x y => ?_⟩)
    rw [h'.2 q x y]
    unfold joS
    rw [if_pos x6]
end AW
