/-! RULES are read: what holds of the row all along -/
def RIV (ρ : Int → Int) : Prop := (RRO ρ ∧ ρ 1 ≤ ρ 0 ∧ ρ 2 ≤ ρ 0) ∧ RKO ρ
/-- a rule leaves the rest as it was -/
def RFX (ρ ρ' : Int → Int) : Prop := (∀ j, (j = 3 ∨ j = 4 ∨ j < 0 ∨ 2597 ≤ j) → ρ' j = ρ j)
theorem RFX.tr {ρ ρ' ρ'' : Int → Int} (h : RFX ρ ρ') (h' : RFX ρ' ρ'') : RFX ρ ρ'' := fun j hj => (h' j hj).trans (h j hj)
theorem RFX.rf {ρ : Int → Int} : RFX ρ ρ := fun _ _ => rfl
section RI
variable {t : Int → Int} {n p : Int} {ρ : Int → Int} {ho : Bool}
theorem rko_eq {ρ' : Int → Int} (h : ∀ x, 0 ≤ x → x < 26 → ρ' (31 + x) = ρ (31 + x)) (K : RKO ρ) : RKO ρ' := by
  have r : ∀ x, 0 ≤ x → x < 26 → rnk ρ' x = rnk ρ x := h
  exact ⟨fun x a b => by rw [r x a b]; exact K.1 x a b, fun x y a b a' b' q => K.2 x y a b a' b' (by rw [r x a b, r y a' b'] at q; exact q)⟩
theorem rro_up0 (O : RRO ρ) (h : 0 ≤ ρ 0 ∧ ρ 0 < 20) : RRO (up ρ 0 (ρ 0 + 1)) := by
  obtain ⟨⟨o1, o2, o3, o4, o5⟩, o6⟩ := O
  have u : ∀ a, a ≠ 0 → up ρ 0 (ρ 0 + 1) a = ρ a := fun a h => up_ne h
  unfold RRO RLO
  rw [u 1 (by omega), u 2 (by omega), up_self]
  refine ⟨⟨by omega, o2, o3, fun s a b => ?_, fun r a b => ?_⟩, fun x a b => by rw [u _ (by omega)]; exact o6 x a b⟩
  · obtain ⟨v1, v2, v3⟩ := rk_up (a := 0) (v := ρ 0 + 1) (by omega) (o4 s a b).1
    exact ⟨v1, by rw [v3]; exact (o4 s a b).2⟩
  · rw [u _ (by omega)]
    refine ⟨(o5 r a b).1, fun i i0 i1 => ?_⟩
    obtain ⟨w1, w2⟩ := (o5 r a b).2 i i0 i1
    obtain ⟨v1, v2, v3⟩ := rk_up (a := 0) (v := ρ 0 + 1) (by omega) w1
    exact ⟨v1, by rw [v3]; exact w2⟩
/-- what a reader of a rule's inside keeps -/
def RKP (ρ : Int → Int) (R : RS) : Prop := R.1 = 0 → RRO R.2.2.2.1 ∧ RKO R.2.2.2.1 ∧ RFX ρ R.2.2.2.1 ∧ R.2.2.2.1 0 = ρ 0 ∧ R.2.2.2.1 1 ≤ ρ 1 + 1 ∧ R.2.2.2.1 2 ≤ ρ 2 + 1
theorem rkp_bad {k s : Int} (h : k ≠ 0) : RKP ρ (rBD k s) := fun x => absurd x h
theorem rFold_kp (O : RRO ρ) (K : RKO ρ) : RKP ρ (rFold t n p ρ ho) := by
  unfold rFold
  split
  · exact rkp_bad (by omega)
  · rename_i a1
    have lr := tL_r a1
    split
    · exact rkp_bad (by omega)
    · split
      · exact rkp_bad (by omega)
      · split
        · exact rkp_bad (by omega)
        · rename_i a4
          have mr := tL_r a4
          intro _
          generalize tL t n p = x at *
          generalize tL t n (tN t n (tN t n p)) = y at *
          have u : ∀ a, a < 5 ∨ 31 ≤ a → up ρ (5 + x) y a = ρ a := fun a h => up_ne (by omega)
          obtain ⟨⟨o1, o2, o3, o4, o5⟩, o6⟩ := O
          show RRO (up ρ (5 + x) y) ∧ RKO (up ρ (5 + x) y) ∧ RFX ρ (up ρ (5 + x) y) ∧ up ρ (5 + x) y 0 = ρ 0 ∧ up ρ (5 + x) y 1 ≤ ρ 1 + 1 ∧ up ρ (5 + x) y 2 ≤ ρ 2 + 1
          rw [u 0 (by omega), u 1 (by omega), u 2 (by omega)]
          refine ⟨⟨?_, fun j a b => ?_⟩, rko_eq (fun j a b => u _ (by omega)) K, fun j hj => up_ne (by omega), rfl, by omega, by omega⟩
          · unfold RLO
            rw [u 0 (by omega), u 1 (by omega), u 2 (by omega)]
            refine ⟨o1, o2, o3, fun s a b => ?_, fun r a b => ?_⟩
            · obtain ⟨v1, v2, v3⟩ := rk_up (a := 5 + x) (v := y) (by omega) (o4 s a b).1
              exact ⟨v1, by rw [v3]; exact (o4 s a b).2⟩
            · rw [u _ (by omega)]
              refine ⟨(o5 r a b).1, fun i i0 i1 => ?_⟩
              obtain ⟨w1, w2⟩ := (o5 r a b).2 i i0 i1
              obtain ⟨v1, v2, v3⟩ := rk_up (a := 5 + x) (v := y) (by omega) w1
              exact ⟨v1, by rw [v3]; exact w2⟩
          · by_cases g : j = x
            · rw [g, up_self]
              exact Or.inr ⟨mr.1, mr.2.1⟩
            · rw [up_ne (by omega)]
              exact o6 j a b
theorem wrd_fx {A : Int} (h : 57 ≤ A ∧ A + 20 < 2597) : RFX ρ (wrd ρ A t n p) ∧ (∀ j, j < 57 → wrd ρ A t n p j = ρ j) := ⟨fun j hj => wrd_out (by omega), fun j hj => wrd_out (by omega)⟩
theorem rStop_kp (hp : 0 ≤ p ∧ p ≤ n) (O : RRO ρ) (K : RKO ρ) (h20 : ρ 1 < 20) : RKP ρ (rStop t n p ρ ho) := by
  unfold rStop
  split
  · exact rkp_bad (by omega)
  · rename_i q
    have q1 : tK t n p = 1 := Classical.not_not.mp q
    intro _
    have A : WAT ρ (57 + 21 * ρ 1) := Or.inl ⟨rfl, h20⟩
    have O2 := wrd_rro (t := t) (n := n) (p := p) O A
    have o2 := O.1.2.1
    obtain ⟨f1, f2⟩ := wrd_fx (ρ := ρ) (t := t) (n := n) (p := p) (A := 57 + 21 * ρ 1) (by omega)
    obtain ⟨at1, _, at3, _⟩ := wrd_at (ρ := ρ) (A := 57 + 21 * ρ 1) hp q1
    show RRO (up (wrd ρ (57 + 21 * ρ 1) t n p) 1 (ρ 1 + 1)) ∧ RKO (up (wrd ρ (57 + 21 * ρ 1) t n p) 1 (ρ 1 + 1)) ∧ RFX ρ (up (wrd ρ (57 + 21 * ρ 1) t n p) 1 (ρ 1 + 1)) ∧ up (wrd ρ (57 + 21 * ρ 1) t n p) 1 (ρ 1 + 1) 0 = ρ 0 ∧ up (wrd ρ (57 + 21 * ρ 1) t n p) 1 (ρ 1 + 1) 1 ≤ ρ 1 + 1 ∧ up (wrd ρ (57 + 21 * ρ 1) t n p) 1 (ρ 1 + 1) 2 ≤ ρ 2 + 1
    have w1 := f2 1 (by omega)
    have w2 := f2 2 (by omega)
    have w0 := f2 0 (by omega)
    generalize wrd ρ (57 + 21 * ρ 1) t n p = W at *
    have u : ∀ a, a ≠ 1 → up W 1 (ρ 1 + 1) a = W a := fun a h => up_ne h
    obtain ⟨⟨o1, o2', o3, o4, o5⟩, o6⟩ := O2
    rw [u 0 (by omega), u 2 (by omega), up_self]
    refine ⟨⟨?_, fun j a b => by rw [u _ (by omega)]; exact o6 j a b⟩, rko_eq (fun j a b => by rw [u _ (by omega), f2 _ (by omega)]) K, fun j hj => by rw [u _ (by omega)]; exact f1 j hj, w0, by omega, by omega⟩
    unfold RLO
    rw [u 0 (by omega), u 2 (by omega), up_self]
    refine ⟨o1, by omega, o3, fun s a b => ?_, fun r a b => ?_⟩
    · by_cases y : s = ρ 1
      · obtain ⟨v1, v2, v3⟩ := rk_up (a := 1) (v := ρ 1 + 1) (by omega) at1
        rw [y]
        exact ⟨v1, by rw [v3]; exact at3⟩
      · obtain ⟨v1, v2, v3⟩ := rk_up (a := 1) (v := ρ 1 + 1) (by omega) (o4 s a (by omega)).1
        exact ⟨v1, by rw [v3]; exact (o4 s a (by omega)).2⟩
    · rw [u _ (by omega)]
      refine ⟨(o5 r a b).1, fun i i0 i1 => ?_⟩
      obtain ⟨w1, w2⟩ := (o5 r a b).2 i i0 i1
      obtain ⟨v1, v2, v3⟩ := rk_up (a := 1) (v := ρ 1 + 1) (by omega) w1
      exact ⟨v1, by rw [v3]; exact w2⟩
theorem rMem_kp {r : Int} (r0 : 0 ≤ r ∧ r < 20) : ∀ (k m : Nat) (p : Int) (W : Int → Int), m + k = 5 → (0 ≤ p ∧ p ≤ n) → RRO W → RKO W → RFX ρ W → W 2 = r → W 0 = ρ 0 → W 1 = ρ 1 → ρ 2 = r → RTW W r m → RKP ρ (rMem t n r ho k m p W)
  | 0, m, p, W, hk, _, _, _, _, _, _, _, _, _ => rkp_bad (by omega)
  | k + 1, m, p, W, hk, hp, O, K, X, h2, h0, h1, e2, V => by
    simp only [rMem]
    split
    · exact rkp_bad (by omega)
    · rename_i q
      have q1 : tK t n p = 1 := Classical.not_not.mp q
      split
      · exact rkp_bad (by omega)
      · rename_i m4
        have m4' : (m : Int) ≠ 4 := m4
        have k0 : k = 0 ∨ 0 < k := by omega
        have A : WAT W (478 + 106 * r + 21 * ((m : Int) + 1)) := Or.inr (by omega)
        have O2 := wrd_rro (t := t) (n := n) (p := p) O A
        by_cases m5 : (m : Int) ≤ 3
        · obtain ⟨f1, f2⟩ := wrd_fx (ρ := W) (t := t) (n := n) (p := p) (A := 478 + 106 * r + 21 * ((m : Int) + 1)) (by omega)
          have V2 := rtw_s hp q1 V
          have K2 : RKO (wrd W (478 + 106 * r + 21 * ((m : Int) + 1)) t n p) := rko_eq (fun x a b => f2 _ (by omega)) K
          have w0 := f2 0 (by omega)
          have w1 := f2 1 (by omega)
          have w2 := f2 2 (by omega)
          generalize wrd W (478 + 106 * r + 21 * ((m : Int) + 1)) t n p = W2 at *
          split
          · have := rMem_kp r0 k (m + 1) (tN t n p) W2 (by omega) (tN_in hp) O2 K2 (X.tr f1) (by omega) (by omega) (by omega) e2 (by rw [show ((m + 1 : Nat) : Int) = (m : Int) + 1 by omega]; exact V2)
            rw [show ((m + 1 : Nat) : Int) = (m : Int) + 1 by omega] at this
            exact this
          · intro _
            have u : ∀ a, a ≠ 2 → a ≠ 477 + 106 * r → up (up W2 (477 + 106 * r) ((m : Int) + 2)) 2 (r + 1) a = W2 a := fun a x y => by rw [up_ne x, up_ne y]
            show RRO (up (up W2 (477 + 106 * r) ((m : Int) + 2)) 2 (r + 1)) ∧ RKO (up (up W2 (477 + 106 * r) ((m : Int) + 2)) 2 (r + 1)) ∧ RFX ρ (up (up W2 (477 + 106 * r) ((m : Int) + 2)) 2 (r + 1)) ∧ up (up W2 (477 + 106 * r) ((m : Int) + 2)) 2 (r + 1) 0 = ρ 0 ∧ up (up W2 (477 + 106 * r) ((m : Int) + 2)) 2 (r + 1) 1 ≤ ρ 1 + 1 ∧ up (up W2 (477 + 106 * r) ((m : Int) + 2)) 2 (r + 1) 2 ≤ ρ 2 + 1
            rw [u 0 (by omega) (by omega), u 1 (by omega) (by omega), up_self]
            exact ⟨rro_root O2 (by omega) r0.2 ⟨by omega, m5⟩ V2, rko_eq (fun x a b => u _ (by omega) (by omega)) K2, fun j hj => by rw [u _ (by omega) (by omega)]; exact (X.tr f1) j hj, by omega, by omega, by omega⟩
        · exact absurd hk (by omega)
theorem rRoot_kp (hp : 0 ≤ p ∧ p ≤ n) (O : RRO ρ) (K : RKO ρ) (h20 : ρ 2 < 20) : RKP ρ (rRoot t n p ρ ho) := by
  unfold rRoot
  split
  · exact rkp_bad (by omega)
  · rename_i q
    have q1 : tK t n p = 1 := Classical.not_not.mp q
    split
    · exact rkp_bad (by omega)
    · have A : WAT ρ (478 + 106 * ρ 2) := Or.inr (Int.le_refl _)
      have o3 := O.1.2.2.1
      obtain ⟨f1, f2⟩ := wrd_fx (ρ := ρ) (t := t) (n := n) (p := p) (A := 478 + 106 * ρ 2) (by omega)
      have ra := wrd_at (ρ := ρ) (A := 478 + 106 * ρ 2) hp q1
      exact rMem_kp ⟨o3.1, h20⟩ 5 0 _ _ rfl (tN_in (tN_in hp)) (wrd_rro O A) (rko_eq (fun x a b => f2 _ (by omega)) K) f1 (f2 2 (by omega)) (f2 0 (by omega)) (f2 1 (by omega)) rfl (fun i i0 i1 => by
        rw [show 478 + 106 * ρ 2 + 21 * i = 478 + 106 * ρ 2 by omega]
        exact ⟨ra.1, ra.2.2.1⟩)
theorem rro_rank {ρ' : Int → Int} (O : RRO ρ) (h : ∀ j, (j < 31 ∨ 57 ≤ j) → ρ' j = ρ j) : RRO ρ' := by
  obtain ⟨⟨o1, o2, o3, o4, o5⟩, o6⟩ := O
  have rv : ∀ B, 57 ≤ B → RV ρ B → RV ρ' B ∧ ρ' B = ρ B := fun B b V => by
    obtain ⟨v1, v2, v3⟩ := V
    have e := h B (by omega)
    exact ⟨⟨by omega, by omega, fun j x y => by rw [h _ (by omega)]; exact v3 j x (by omega)⟩, e⟩
  unfold RRO RLO
  rw [h 0 (by omega), h 1 (by omega), h 2 (by omega)]
  refine ⟨⟨o1, o2, o3, fun s a b => ?_, fun r a b => ?_⟩, fun x a b => by rw [h _ (by omega)]; exact o6 x a b⟩
  · obtain ⟨a1, a2⟩ := rv _ (by omega) (o4 s a b).1
    exact ⟨a1, by rw [a2]; exact (o4 s a b).2⟩
  · rw [h _ (by omega)]
    refine ⟨(o5 r a b).1, fun i i0 i1 => ?_⟩
    obtain ⟨w1, w2⟩ := (o5 r a b).2 i i0 i1
    obtain ⟨a1, a2⟩ := rv _ (by omega) w1
    exact ⟨a1, by rw [a2]; exact w2⟩
theorem onj_rko {c : Int} (O : ONJ ρ c) (h : ∀ x, 0 ≤ x → x < 26 → ρ (31 + x) ≠ -1) : RKO ρ := by
  obtain ⟨o1, o2, o3⟩ := O
  have le := sq_le (g := fun y => if ρ (31 + y) = -1 then 0 else 1) (fun k => by split <;> omega) 26
  refine ⟨fun x a b => ?_, fun x y a b a' b' q => o2 x y a b a' b' (h x a b) q⟩
  rcases o1 x a b with g | g
  · exact absurd g (h x a b)
  · show 0 ≤ ρ (31 + x) ∧ ρ (31 + x) < 26
    omega
theorem rLet_kp : ∀ (k : Nat) (i : Int) (W : Int → Int), ONJ W i → (∀ j, (j < 31 ∨ 57 ≤ j) → W j = ρ j) → (∀ a : Int, 0 ≤ a → a < k → isL (t (tS t n p + i + a))) → RRO ρ → RKP ρ (rLet t n p k i W)
  | 0, i, W, O, h, _, R => by
    intro _
    obtain ⟨h1, h2, h3, h4⟩ := rOth_ok O 26 (by omega)
    have g : ∀ j, (j < 31 ∨ 57 ≤ j) → (rOth i W 26).2 j = ρ j := fun j hj => (h2 j hj).trans (h j hj)
    show RRO (rOth i W 26).2 ∧ RKO (rOth i W 26).2 ∧ RFX ρ (rOth i W 26).2 ∧ (rOth i W 26).2 0 = ρ 0 ∧ (rOth i W 26).2 1 ≤ ρ 1 + 1 ∧ (rOth i W 26).2 2 ≤ ρ 2 + 1
    rw [g 0 (by omega), g 1 (by omega), g 2 (by omega)]
    exact ⟨rro_rank R g, onj_rko h1 (fun x a b => h3 x a (by omega)), fun j hj => g j (by omega), rfl, by omega, by omega⟩
  | k + 1, i, W, O, h, L, R => by
    simp only [rLet]
    split
    · exact rkp_bad (by omega)
    · rename_i q
      have q1 : W (31 + (t (tS t n p + i) - 97)) = -1 := Classical.not_not.mp q
      have l0 := L 0 (by omega) (by omega)
      rw [Int.add_zero] at l0
      obtain ⟨s1, s2, s3⟩ := onj_s (x := t (tS t n p + i) - 97) (by omega) (by omega) q1 O
      exact rLet_kp k (i + 1) _ s1 (fun j hj => by rw [up_ne (by omega)]; exact h j hj) (fun a a0 a1 => by
        have := L (a + 1) (by omega) (by omega)
        rwa [show tS t n p + i + (a + 1) = tS t n p + (i + 1) + a by omega] at this) R
theorem rCl_out {j : Int} (h : j < 31 ∨ 57 ≤ j) : rCl ρ j = ρ j := if_neg (by omega)
theorem rCl_in {x : Int} (h0 : 0 ≤ x) (h1 : x < 26) : rCl ρ (31 + x) = -1 := if_pos (by omega)
theorem rOrd_kp (hp : 0 ≤ p ∧ p ≤ n) (O : RRO ρ) : RKP ρ (rOrd t n p ρ) := by
  unfold rOrd
  split
  · exact rkp_bad (by omega)
  · rename_i q
    have q1 : tK t n p = 1 := Classical.not_not.mp q
    have r2 := tN_r (t := t) hp.2
    exact rLet_kp _ 0 _ (onj_0 (fun x a b => rCl_in a b)) (fun j hj => rCl_out hj) (fun a a0 a1 => tK_l hp.2 q1 _ (by omega) (by omega)) O
theorem rInn_kp (hp : 0 ≤ p ∧ p ≤ n) (O : RRO ρ) (K : RKO ρ) (h1 : ρ 1 < 20) (h2 : ρ 2 < 20) : RKP ρ (rInn t n p ρ ho) := by
  have p1 := tN_in (t := t) hp
  unfold rInn
  split
  · exact rFold_kp O K
  · split
    · exact rStop_kp p1 O K h1
    · split
      · exact rRoot_kp p1 O K h2
      · exact rOrd_kp p1 O
end RI
