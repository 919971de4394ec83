/-! The lines of words: in range, and they rise -/
def LNM (i : Int) (s : wS) : Prop := ∀ p, 0 ≤ p → p < s.1 → (0 ≤ s.2.2.1 p ∧ s.2.2.1 p ≤ i) ∧ ∀ q, 0 ≤ q → q ≤ p → s.2.2.1 q ≤ s.2.2.1 p
theorem lnm_new {i : Int} {s : wS} (h0 : 0 ≤ i) (H : LNM i s) : LNM i (wnew i s) := by
  intro p p0 p1
  have p2 : p < s.1 + 1 := p1
  show (0 ≤ up s.2.2.1 s.1 i p ∧ up s.2.2.1 s.1 i p ≤ i) ∧ ∀ q, 0 ≤ q → q ≤ p → up s.2.2.1 s.1 i q ≤ up s.2.2.1 s.1 i p
  by_cases hp : p = s.1
  · subst hp
    rw [up_self]
    refine ⟨⟨h0, Int.le_refl _⟩, fun q q0 q1 => ?_⟩
    by_cases hq : q = s.1
    · rw [hq, up_self]
      exact Int.le_refl _
    · rw [up_ne hq]
      exact (H q q0 (by omega)).1.2
  · rw [up_ne hp]
    refine ⟨(H p p0 (by omega)).1, fun q q0 q1 => ?_⟩
    rw [up_ne (by omega)]
    exact (H p p0 (by omega)).2 q q0 q1
theorem lnm_st {ω : Int → Int} {e i k : Int} {s : wS} (h0 : 0 ≤ i) (H : LNM i s) : LNM i (wst ω e i k s) := by
  unfold wst
  split
  · split
    · exact H
    · split
      · exact H
      · exact lnm_new h0 H
  · split
    · exact H
    · exact H
theorem lnm_ln {ω : Int → Int} {e i : Int} {s : wS} (h0 : 0 ≤ i) (H : LNM i s) : ∀ k : Nat, LNM i (wln ω e i k s)
  | 0 => H
  | k + 1 => lnm_st h0 (lnm_ln h0 H k)
theorem lnm_al {ω : Int → Int} {e : Int} : ∀ n : Nat, LNM ((n : Int) - 1) (wal ω e n)
  | 0 => fun p p0 p1 => absurd p1 (by show ¬ p < 0; omega)
  | n + 1 => by
    have H := lnm_al (ω := ω) (e := e) n
    have H2 : LNM (n : Int) (wal ω e n) := fun p p0 p1 => ⟨⟨(H p p0 p1).1.1, by have := (H p p0 p1).1.2; omega⟩, (H p p0 p1).2⟩
    rw [show ((n + 1 : Nat) : Int) - 1 = n by omega]
    exact lnm_ln (by omega) H2 61
theorem W_lines {ω : Int → Int} {e p : Int} (h : 0 ≤ ω (3 + e)) (p0 : 0 ≤ p) (p1 : p < (wW ω e).1) : (0 ≤ (wW ω e).2.2.1 p ∧ (wW ω e).2.2.1 p < ω (3 + e)) ∧ ∀ q, 0 ≤ q → q ≤ p → (wW ω e).2.2.1 q ≤ (wW ω e).2.2.1 p := by
  have H := lnm_al (ω := ω) (e := e) (ω (3 + e)).toNat p p0 p1
  refine ⟨⟨H.1.1, ?_⟩, H.2⟩
  have := H.1.2
  show (wal ω e (ω (3 + e)).toNat).2.2.1 p < ω (3 + e)
  omega
