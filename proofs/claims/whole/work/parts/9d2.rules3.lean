/-! RULES are read: the class's STOPS and ROOTS -/
theorem wrd_out {t ρ : Int → Int} {n p A j : Int} (h : j < A ∨ A + 20 < j) : wrd ρ A t n p j = ρ j := by
  unfold wrd slw
  rw [if_neg (by omega), if_neg (by omega)]
theorem wrd_rk {t ρ : Int → Int} {n p A B : Int} (h : B + 20 < A ∨ A + 20 < B) (V : RV ρ B) : RV (wrd ρ A t n p) B ∧ rk (wrd ρ A t n p) B = rk ρ B := slw_oth (by omega) h V
/-- where a word may be written -/
def WAT (ρ : Int → Int) (A : Int) : Prop := (A = 57 + 21 * ρ 1 ∧ ρ 1 < 20) ∨ 478 + 106 * ρ 2 ≤ A
theorem wrd_low {t ρ : Int → Int} {n p A : Int} (O : RRO ρ) (h : WAT ρ A) : (∀ j, j < 57 → wrd ρ A t n p j = ρ j) ∧ (∀ s, 0 ≤ s → s < ρ 1 → RV (wrd ρ A t n p) (57 + 21 * s) ∧ rk (wrd ρ A t n p) (57 + 21 * s) = rk ρ (57 + 21 * s) ∧ wrd ρ A t n p (57 + 21 * s) = ρ (57 + 21 * s)) ∧ ∀ r, 0 ≤ r → r < ρ 2 → wrd ρ A t n p (477 + 106 * r) = ρ (477 + 106 * r) ∧ ∀ i, 0 ≤ i → i < ρ (477 + 106 * r) → RV (wrd ρ A t n p) (478 + 106 * r + 21 * i) ∧ rk (wrd ρ A t n p) (478 + 106 * r + 21 * i) = rk ρ (478 + 106 * r + 21 * i) ∧ wrd ρ A t n p (478 + 106 * r + 21 * i) = ρ (478 + 106 * r + 21 * i) := by
  obtain ⟨⟨o1, o2, o3, o4, o5⟩, o6⟩ := O
  unfold WAT at h
  refine ⟨fun j hj => wrd_out (by omega), fun s s0 s1 => ?_, fun r r0 r1 => ⟨wrd_out (by omega), fun i i0 i1 => ?_⟩⟩
  · obtain ⟨a, b⟩ := wrd_rk (t := t) (n := n) (p := p) (A := A) (by omega) (o4 s s0 s1).1
    exact ⟨a, b, wrd_out (by omega)⟩
  · obtain ⟨x, y⟩ := o5 r r0 r1
    obtain ⟨a, b⟩ := wrd_rk (t := t) (n := n) (p := p) (A := A) (by omega) (y i i0 i1).1
    exact ⟨a, b, wrd_out (by omega)⟩
theorem fo_wrd {t ρ : Int → Int} {n p A : Int} (h : ∀ j, j < 57 → wrd ρ A t n p j = ρ j) : ∀ x, x < 26 → fo (wrd ρ A t n p) x = fo ρ x := fun x hx => by
  unfold fo
  rw [h _ (by omega)]
theorem fcnt_eq {ρ ρ' : Int → Int} (h : ∀ j, 5 ≤ j → j < 31 → ρ' j = ρ j) : ∀ k : Nat, k ≤ 26 → fcnt ρ' k = fcnt ρ k
  | 0, _ => rfl
  | k + 1, hk => by
    simp only [fcnt]
    rw [fcnt_eq h k (by omega), h _ (by omega) (by omega)]
/-- DRC speaks of nothing else -/
theorem DRC.row {σ : jH} {ρ ρ' : Int → Int} {ho : Bool} (D : DRC σ ρ ho) (h : ∀ j, j = 1 ∨ j = 2 ∨ (5 ≤ j ∧ j < 57) → ρ' j = ρ j) (hs : ∀ s, 0 ≤ s → s < ρ 1 → rk ρ' (57 + 21 * s) = rk ρ (57 + 21 * s)) (hr : ∀ r, 0 ≤ r → r < ρ 2 → ρ' (477 + 106 * r) = ρ (477 + 106 * r) ∧ ∀ i, 0 ≤ i → i < ρ (477 + 106 * r) → rk ρ' (478 + 106 * r + 21 * i) = rk ρ (478 + 106 * r + 21 * i)) (h2 : ∀ r, 0 ≤ r → r < ρ 2 → 1 ≤ ρ (477 + 106 * r)) : DRC σ ρ' ho := by
  obtain ⟨⟨e1, e2, e3, e4⟩, e5, e6, e7, e8⟩ := D
  unfold DRC
  rw [h 1 (by omega), h 2 (by omega), fcnt_eq (fun j a b => h j (by omega)) 26 (by omega)]
  refine ⟨⟨e1, e2, e3, e4⟩, fun x a b => ?_, fun x a b => ?_, fun s a b => ?_, fun r a b => ?_⟩
  · unfold fo
    rw [h _ (by omega)]
    exact e5 x a b
  · rw [h _ (by omega)]
    exact e6 x a b
  · rw [hs s a b]
    exact e7 s a b
  · obtain ⟨g1, g2, g3⟩ := e8 r a b
    obtain ⟨f1, f2⟩ := hr r a b
    have := h2 r a b
    have z := f2 0 (by omega) (by omega)
    rw [show 478 + 106 * r + 21 * 0 = 478 + 106 * r by omega] at z
    rw [f1, z]
    refine ⟨g1, g2, fun i i0 i1 => ?_⟩
    rw [f2 (i + 1) (by omega) (by omega)]
    exact g3 i i0 i1
theorem wrd_drc {σ : jH} {t ρ : Int → Int} {n p A : Int} {ho : Bool} (D : DRC σ ρ ho) (O : RRO ρ) (h : WAT ρ A) : DRC σ (wrd ρ A t n p) ho := by
  obtain ⟨a, b, c⟩ := wrd_low (t := t) (n := n) (p := p) O h
  refine D.row (fun j hj => a j (by omega)) (fun s x y => (b s x y).2.1) (fun r x y => ⟨(c r x y).1, fun i i0 i1 => ((c r x y).2 i i0 i1).2.1⟩) (fun r x y => ?_)
  have := (O.1.2.2.2.2 r x y).1
  omega
section R2
variable {l : Launch} {d : Nat} {t : Int → Int} {σ : jH} {n p : Int} {ρ : Int → Int} {ho : Bool}
theorem crs_pre {σ' υ : jH} {R : RS} {z : Int} (F : FRD σ σ') (h0 : σ' 142 0 = σ 142 0) (h6 : σ' 140 6 = σ 140 6) (h7 : σ' 140 7 = σ 140 7) (h : CRS σ' υ t n R z) : CRS σ υ t n R z := by
  obtain ⟨h1, h2⟩ := h
  refine ⟨F.tr h1, ?_⟩
  rw [h0, h6, h7] at h2
  exact h2
theorem FTK.frd {τ : jH} (F : FTK σ τ) : FRD σ τ := .kp (fun c a _ => F.1 c a) (fun c a b => F.1 c (by omega))
theorem c_readStop (T : TP σ t n) (K : TKC σ t n p) (hp : 0 ≤ p ∧ p ≤ n) (D : DRC σ ρ ho) (O : RRO ρ) (h20 : ρ 1 < 20) : Cw 14 m_RuleReader_readStop [vR 141] σ (fun z τ => CRS σ τ t n (rStop t n (tN t n p) ρ ho) z) := by
  have p1 := tN_in (t := t) hp
  have p2 := tN_in (t := t) p1
  have O' := O
  obtain ⟨⟨o1, o2, o3, o4, o5⟩, o6⟩ := O'
  refine Cw_of o_RuleReader_readStop rfl fun l d hd => jwp_sound t_RuleReader_readStop _ (b_RuleReader_readStop_0 ?_)
  simp only [RW, true_and, and_true, and_self, true_or, or_true, Nat.reduceLeDiff, Nat.reduceEqDiff, Nat.reduceAdd, Int.reduceLE, Int.reduceLT, Int.reduceEq, Int.reduceNeg, Int.reduceNe, Nat.reduceSub, reduceIte, implies_true, gt_141, gr_141_0, gt_142, gr_141_1, gt_140, gr_142_4, gt_145]
  refine cN_w (c_advance T K hp) (by omega) (fun _ τ1 h1 => ?_)
  obtain ⟨F1, K1⟩ := h1
  have T1 := T.eq (F1.1 2 (by omega))
  have e142 : τ1 142 = σ 142 := F1.1 142 (by omega)
  rw [e142, D.1.1]
  refine cN_w (c_readWord (kr_Rules_4 isU) ⟨by omega, by omega⟩ ⟨o2.1, h20⟩ T1 K1 p1) (by omega) (fun z τ2 h2 => ?_)
  unfold rStop
  have kb2 := fun B => RWP.kb h2 p1 (by omega) B
  rcases h2 with ⟨q, rfl, K2, kk, oth, F2, g6, g7⟩ | ⟨q, rfl, rfl⟩
  · refine ⟨fun _ => ?_, fun x => absurd x (by omega)⟩
    rw [if_neg (fun x => x q)]
    have e2 : τ2 142 = σ 142 := by rw [F2 142 (by omega) (by omega) (by omega) (by omega), e142]
    rw [e2, D.1.1, w32_of (x := ρ 1 + 1) (by omega) (by omega)]
    generalize hχ : ju τ2 142 5 (ρ 1 + 1) = χ
    have xr : ∀ c, c ≠ 142 → χ c = τ2 c := fun c hc => by rw [← hχ, ju_row hc]
    have xj : ∀ j, j ≠ 5 → χ 142 j = σ 142 j := fun j hj => by rw [← hχ, ju_ne2 hj, e2]
    have x5 : χ 142 5 = ρ 1 + 1 := by rw [← hχ, ju_self]
    have A : WAT ρ (57 + 21 * ρ 1) := Or.inl ⟨rfl, h20⟩
    obtain ⟨w1, w2, w3⟩ := wrd_low (t := t) (n := n) (p := tN t n p) O A
    obtain ⟨at1, at2, _, _⟩ := wrd_at (ρ := ρ) (A := 57 + 21 * ρ 1) p1 q
    have D2 := wrd_drc (t := t) (n := n) (p := tN t n p) D O A
    generalize wrd ρ (57 + 21 * ρ 1) t n (tN t n p) = W at *
    obtain ⟨⟨e1, e2', e3, e4⟩, e5, e6, e7, e8⟩ := D2
    have u : ∀ a, a ≠ 1 → up W 1 (ρ 1 + 1) a = W a := fun a h => up_ne h
    have uk : ∀ B, 2 ≤ B → RV W B → rk (up W 1 (ρ 1 + 1)) B = rk W B := fun B h V => (rk_up (by omega) V).2.1
    have Fall : ∀ c, c ≠ 140 → c ≠ 142 → c ≠ 146 → c ≠ 147 → c ≠ 156 → χ c = σ c := fun c a b c2 c3 c4 => by rw [xr c b, F2 c a (by omega) (by omega) c4, F1.1 c a]
    refine ⟨⟨fun c a b => Fall c a (by omega) (by omega) (by omega) (by omega), fun B => (kb2 (F1.frd.kb B)).eq (fun c a b => xr c (by omega))⟩, Or.inl ⟨rfl, rfl, p2, K2.eq (xr 140 (by omega)), ⟨⟨?_, ?_, ?_, ?_⟩, fun j j0 j1 => ?_, fun j j0 j1 => ?_, fun s s0 s1 => ?_, fun r r0 r1 => ?_⟩, xj 0 (by omega), by rw [xr 140 (by omega), g6, F1.2 6 (by omega) (by omega) (by omega) (by omega)], by rw [xr 140 (by omega), g7, F1.2 7 (by omega) (by omega) (by omega) (by omega)]⟩⟩
    · show χ 142 5 = up W 1 (ρ 1 + 1) 1
      rw [x5, up_self]
    · show χ 142 7 = up W 1 (ρ 1 + 1) 2
      rw [xj 7 (by omega), u 2 (by omega)]
      exact e2'
    · show χ 142 3 = fcnt (up W 1 (ρ 1 + 1)) 26
      rw [xj 3 (by omega), fcnt_eq (fun j a b => u j (by omega)) 26 (by omega)]
      exact e3
    · rw [xj 11 (by omega)]
      exact e4
    · show χ 143 j = fo (up W 1 (ρ 1 + 1)) j ∧ χ 144 j = if up W 1 (ρ 1 + 1) (5 + j) = -1 then 0 else 1
      unfold fo
      rw [u _ (by omega), Fall 143 (by omega) (by omega) (by omega) (by omega) (by omega), Fall 144 (by omega) (by omega) (by omega) (by omega) (by omega)]
      exact e5 j j0 j1
    · show χ 155 j = up W 1 (ρ 1 + 1) (31 + j)
      rw [u _ (by omega), Fall 155 (by omega) (by omega) (by omega) (by omega) (by omega)]
      exact e6 j j0 j1
    · have s1' : s < up W 1 (ρ 1 + 1) 1 := s1
      rw [up_self] at s1'
      show KKV χ 145 s (rk (up W 1 (ρ 1 + 1)) (57 + 21 * s))
      by_cases y : s = ρ 1
      · rw [y, uk _ (by omega) at1, at2]
        unfold KKV
        rw [xr _ (by omega), xr _ (by omega)]
        exact kk
      · have V := w2 s s0 (by omega)
        rw [uk _ (by omega) V.1, V.2.1]
        unfold KKV
        rw [xr _ (by omega), xr _ (by omega), (oth s y).1, (oth s y).2, F1.1 _ (by omega), F1.1 _ (by omega)]
        have := e7 s s0 (by rw [w1 1 (by omega)]; omega)
        rw [V.2.1] at this
        exact this
    · have r1' : r < up W 1 (ρ 1 + 1) 2 := r1
      rw [u 2 (by omega)] at r1'
      obtain ⟨g1, g2, g3⟩ := e8 r r0 r1'
      rw [w1 2 (by omega)] at r1'
      obtain ⟨v1, v2⟩ := w3 r r0 r1'
      have c5 := (o5 r r0 r1').1
      show χ 154 r = up W 1 (ρ 1 + 1) (477 + 106 * r) - 1 ∧ KKV χ 148 r (rk (up W 1 (ρ 1 + 1)) (478 + 106 * r)) ∧ ∀ i, 0 ≤ i → i < up W 1 (ρ 1 + 1) (477 + 106 * r) - 1 → KKV χ 151 (4 * r + i) (rk (up W 1 (ρ 1 + 1)) (478 + 106 * r + 21 * (i + 1)))
      rw [u _ (by omega)]
      have z := (v2 0 (by omega) (by omega)).1
      rw [show 478 + 106 * r + 21 * 0 = 478 + 106 * r by omega] at z
      rw [uk _ (by omega) z]
      unfold KKV
      rw [Fall 154 (by omega) (by omega) (by omega) (by omega) (by omega), Fall (148 + 1) (by omega) (by omega) (by omega) (by omega) (by omega), Fall (148 + 2) (by omega) (by omega) (by omega) (by omega) (by omega), Fall (151 + 1) (by omega) (by omega) (by omega) (by omega) (by omega), Fall (151 + 2) (by omega) (by omega) (by omega) (by omega) (by omega)]
      refine ⟨g1, g2, fun i i0 i1 => ?_⟩
      rw [uk _ (by omega) (v2 (i + 1) (by omega) (by omega)).1]
      exact g3 i i0 i1
  · refine ⟨fun x => absurd rfl x, fun _ => ?_⟩
    rw [if_pos q]
    exact crs_pre F1.frd (by rw [e142]) (F1.2 6 (by omega) (by omega) (by omega) (by omega)) (F1.2 7 (by omega) (by omega) (by omega) (by omega)) (crs_fail K1 1 (by omega))
end R2
