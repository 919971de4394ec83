/-! ASKS: a root's name told, in keys (reference) -/
/-- two words are the same if their keys are -/
theorem rk_same {f g : Int → Int} {a b : Int} (V : RV f a) (V' : RV g b) (h : rk f a = rk g b) : f a = g b ∧ ∀ j, 0 ≤ j → j < f a → f (a + 1 + j) = g (b + 1 + j) := by
  have e := rh_inj (m := 20) (fun j h0 _ => by have := dgr_r V j h0; omega) (fun j h0 _ => by have := dgr_r V' j h0; omega) h
  have v := V.2.1
  have v' := V'.2.1
  have v0 := V.1
  have v0' := V'.1
  have len : f a = g b := by
    rcases Int.lt_trichotomy (f a) (g b) with x | x | x
    · have := e (f a) v0 (by omega)
      unfold dgr at this
      rw [if_neg (by omega), if_pos x] at this
      have := V'.2.2 (f a) v0 x
      omega
    · exact x
    · have := e (g b) v0' (by omega)
      unfold dgr at this
      rw [if_pos x, if_neg (by omega)] at this
      have := V.2.2 (g b) v0' x
      omega
  refine ⟨len, fun j j0 j1 => ?_⟩
  have := e j j0 (by omega)
  unfold dgr at this
  rw [if_pos j1, if_pos (by omega)] at this
  omega
theorem tlB_iff {ω f : Int → Int} {k : Int} : ∀ i : Nat, tlB ω f k i = true ↔ ∀ j : Int, 0 ≤ j → j < i → fo ω (ω (k + (j + 1))) = f (j + 1)
  | 0 => ⟨fun _ j a b => absurd b (by omega), fun _ => rfl⟩
  | i + 1 => by
    simp only [tlB]
    rw [Bool.and_eq_true, decide_eq_true_eq, tlB_iff i]
    constructor
    · rintro ⟨h1, h2⟩ j a b
      by_cases g : j = i
      · rw [g]
        exact h2
      · exact h1 j a (by omega)
    · intro h
      exact ⟨fun j a b => h j a (by omega), h i (by omega) (by omega)⟩
theorem tlA_iff {ω f : Int → Int} {k : Int} (hφ : okρ (fo ω)) (V : RV ω k) (V' : RV f 0) : tlA ω f k (ω k).toNat = decide (km (fo ω) (rk ω k) = rk f 0) := by
  have v0 := V.1
  have Vρ : RV (fun j => ω (k + j)) 0 := by
    show 0 ≤ ω (k + 0) ∧ ω (k + 0) ≤ 20 ∧ ∀ j, 0 ≤ j → j < ω (k + 0) → 0 ≤ ω (k + (0 + 1 + j)) ∧ ω (k + (0 + 1 + j)) < 26
    rw [Int.add_zero]
    exact ⟨V.1, V.2.1, fun j a b => by rw [show k + (0 + 1 + j) = k + 1 + j by omega]; exact V.2.2 j a b⟩
  have e0 : rk (fun j => ω (k + j)) 0 = rk ω k := rk_eq (show ω (k + 0) = ω k by rw [Int.add_zero]) (fun j a b => by
    show ω (k + (0 + 1 + j)) = ω (k + 1 + j)
    rw [show k + (0 + 1 + j) = k + 1 + j by omega])
  have H : FWD (fun j => if 1 ≤ j ∧ j < ω k + 1 then fo ω (ω (k + j)) else ω (k + j)) ω (fun j => ω (k + j)) (ω (k + 0) + 1) := fun j => by rw [Int.add_zero]
  obtain ⟨g1, g2, g3⟩ := fwd_end hφ Vρ H
  rw [e0] at g2
  have gl : ∀ j, 0 ≤ j → j < ω k → (fun j => if 1 ≤ j ∧ j < ω k + 1 then fo ω (ω (k + j)) else ω (k + j)) (0 + 1 + j) = fo ω (ω (k + (j + 1))) := fun j a b => by
    show (if 1 ≤ 0 + 1 + j ∧ 0 + 1 + j < ω k + 1 then fo ω (ω (k + (0 + 1 + j))) else ω (k + (0 + 1 + j))) = _
    rw [if_pos (by omega), show 0 + 1 + j = j + 1 by omega]
  have g3' : (fun j => if 1 ≤ j ∧ j < ω k + 1 then fo ω (ω (k + j)) else ω (k + j)) 0 = ω k := by
    show (if (1 : Int) ≤ 0 ∧ (0 : Int) < ω k + 1 then fo ω (ω (k + 0)) else ω (k + 0)) = ω k
    rw [if_neg (by omega), Int.add_zero]
  generalize (fun j => if 1 ≤ j ∧ j < ω k + 1 then fo ω (ω (k + j)) else ω (k + j)) = G at *
  apply Bool.eq_iff_iff.mpr
  unfold tlA
  rw [Bool.and_eq_true, decide_eq_true_eq, decide_eq_true_eq, tlB_iff]
  constructor
  · rintro ⟨h1, h2⟩
    rw [← g2]
    refine rk_eq (by rw [g3', h1]) (fun j a b => ?_)
    rw [g3'] at b
    rw [gl j a b, h2 j a (by omega), show 0 + 1 + j = j + 1 by omega]
  · intro h
    rw [← g2] at h
    obtain ⟨s1, s2⟩ := rk_same g1 V' h
    rw [g3'] at s1 s2
    refine ⟨s1, fun j a b => ?_⟩
    have := s2 j a (by omega)
    rw [gl j a (by omega), show 0 + 1 + j = j + 1 by omega] at this
    exact this
