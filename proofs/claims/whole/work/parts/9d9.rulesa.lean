/-! RULES are read: the class, the draft folded, the loop -/
section R8
variable {l : Launch} {d : Nat} {t : Int → Int} {σ : jH} {n p : Int} {ρ : Int → Int} {ho : Bool}
/-- a row's first halves mapped -/
def mpd (f : Int → Int) (σ τ : jH) (c N : Int) : Prop := ∀ j, τ c j = if 0 ≤ j ∧ j < N then hm f 10 (σ c j) else σ c j
theorem mpd_0 {f : Int → Int} {c : Int} : mpd f σ σ c 0 := fun j => by rw [if_neg (by omega)]
theorem mpd_s {f : Int → Int} {τ υ : jH} {c i : Int} (hi : 0 ≤ i) (M : mpd f σ τ c i) (h : ∀ j, υ c j = if j = i then hm f 10 (σ c i) else τ c j) : mpd f σ υ c (i + 1) := fun j => by
  rw [h j]
  by_cases q : j = i
  · rw [if_pos q, if_pos (by omega), q]
  · rw [if_neg q, M j]
    by_cases g : 0 ≤ j ∧ j < i
    · rw [if_pos g, if_pos (by omega)]
    · rw [if_neg g, if_neg (by omega)]
theorem mpd_eq {f : Int → Int} {τ υ : jH} {c i : Int} (M : mpd f σ τ c i) (h : υ c = τ c) : mpd f σ υ c i := fun j => by
  rw [h]
  exact M j
/-- two halves mapped -/
theorem two_map {f : Int → Int} {τ : jH} {o i N : Int} (hi : 0 ≤ i) (m1 : mpd f σ τ (o + 1) i) (m2 : mpd f σ τ (o + 2) i) (hN : N = i + 1) : mpd f σ (ju (ju τ (o + 1) i (hm f 10 (τ (o + 1) i))) (o + 2) i (hm f 10 (τ (o + 2) i))) (o + 1) N ∧ mpd f σ (ju (ju τ (o + 1) i (hm f 10 (τ (o + 1) i))) (o + 2) i (hm f 10 (τ (o + 2) i))) (o + 2) N := by
  have e1 : τ (o + 1) i = σ (o + 1) i := by rw [m1 i, if_neg (by omega)]
  have e2 : τ (o + 2) i = σ (o + 2) i := by rw [m2 i, if_neg (by omega)]
  rw [hN, e1, e2]
  refine ⟨mpd_s hi m1 (fun j => ?_), mpd_s hi m2 (fun j => ?_)⟩
  · rw [ju_row (by omega)]
    by_cases q : j = i
    · rw [if_pos q, q, ju_self]
    · rw [if_neg q, ju_ne2 q]
  · by_cases q : j = i
    · rw [if_pos q, q, ju_self]
    · rw [if_neg q, ju_ne2 q, ju_row (by omega)]
theorem l_fa_40 (hd : 12 ≤ d) (O : okρ (σ 143)) (B : KBD σ) : ∀ (k i : Nat) (τ : jH), i + k = 80 → (∀ c, c ≠ 151 + 1 → c ≠ 151 + 2 → τ c = σ c) → mpd (σ 143) σ τ (151 + 1) i → mpd (σ 143) σ τ (151 + 2) i →
    Ev (l, (fun _ => 0), 0) d 0 0 m_Rules_foldAll (RW fun _ τ => (∀ c, c ≠ 151 + 1 → c ≠ 151 + 2 → τ c = σ c) ∧ mpd (σ 143) σ τ (151 + 1) 80 ∧ mpd (σ 143) σ τ (151 + 2) 80) 40 [some (vR 142), some (vI i)] [] gW τ 0 0
  | 0, i, τ, hk, F, m1, m2 => by
    have e : i = 80 := by omega
    subst e
    have hU := isU
    refine jwp_sound t_Rules_foldAll _ (b_Rules_foldAll_40 ?_)
    simp only [RW, true_and, and_true, and_self, true_or, or_true, Nat.reduceLeDiff, Nat.reduceEqDiff, Nat.reduceAdd, Int.reduceLE, Int.reduceLT, Int.reduceEq, Int.reduceNeg, Int.reduceNe, Nat.reduceSub, reduceIte, implies_true, ru_t hU, ru_r1 hU, ru_t1 hU, ru_r2 hU, ru_t2 hU, ru_r4 hU, ru_t4 hU, ru_r6 hU, ru_t6 hU, ru_r8 hU, ru_t8 hU, ru_r9 hU, ru_t9 hU, ru_r10 hU, ru_t10 hU]
    exact ⟨fun _ => ⟨F, m1, m2⟩, fun q => absurd q (by omega)⟩
  | k + 1, i, τ, hk, F, m1, m2 => by
    have hU := isU
    have K8 := kr_Rules_8 isU
    have e1 : τ (151 + 1) i = σ (151 + 1) i := by rw [m1 i, if_neg (by omega)]
    have e2 : τ (151 + 2) i = σ (151 + 2) i := by rw [m2 i, if_neg (by omega)]
    refine jwp_sound t_Rules_foldAll _ (b_Rules_foldAll_40 ?_)
    simp only [RW, true_and, and_true, and_self, true_or, or_true, Nat.reduceLeDiff, Nat.reduceEqDiff, Nat.reduceAdd, Int.reduceLE, Int.reduceLT, Int.reduceEq, Int.reduceNeg, Int.reduceNe, Nat.reduceSub, reduceIte, implies_true, ru_t hU, ru_r1 hU, ru_t1 hU, ru_r2 hU, ru_t2 hU, ru_r4 hU, ru_t4 hU, ru_r6 hU, ru_t6 hU, ru_r8 hU, ru_t8 hU, ru_r9 hU, ru_t9 hU, ru_r10 hU, ru_t10 hU]
    rw [w32_of (x := (i : Int) + 1) (by omega) (by omega)]
    refine ⟨fun q => absurd q (by omega), fun _ => ?_⟩
    repeat (refine And.intro (by omega) ?_)
    have f143 : τ 143 = σ 143 := F 143 (by omega) (by omega)
    refine cN_v (c_KeyRow_map K8 _ _ gt_143 (by show okρ (τ 143); rw [f143]; exact O) (by show 0 ≤ τ (151 + 1) i ∧ τ (151 + 1) i < _; rw [e1]; exact B _ i (by omega)) (by show 0 ≤ τ (151 + 2) i ∧ τ (151 + 2) i < _; rw [e2]; exact B _ i (by omega)) (by omega) (by omega)) (by omega) (fun _ => ?_)
    obtain ⟨x1, x2⟩ := two_map (N := ((i + 1 : Nat) : Int)) (by omega) m1 m2 (by omega)
    have f143' : τ (142 + 1) = σ 143 := f143
    rw [f143']
    generalize hχ : ju (ju τ (151 + 1) i (hm (σ 143) 10 (τ (151 + 1) i))) (151 + 2) i (hm (σ 143) 10 (τ (151 + 2) i)) = χ at x1 x2
    have IH := l_fa_40 hd O B k (i + 1) χ (by omega) (fun c a b => by rw [← hχ, ju_row b, ju_row a, F c a b]) x1 x2
    rw [show ((i + 1 : Nat) : Int) = (i : Int) + 1 by omega, ← hχ] at IH
    exact IH
theorem l_fa_2 (hd : 12 ≤ d) (O : okρ (σ 143)) (B : KBD σ) : ∀ (k i : Nat) (τ : jH), i + k = 20 → (∀ c, c ≠ 145 + 1 → c ≠ 145 + 2 → c ≠ 148 + 1 → c ≠ 148 + 2 → τ c = σ c) → mpd (σ 143) σ τ (145 + 1) i → mpd (σ 143) σ τ (145 + 2) i → mpd (σ 143) σ τ (148 + 1) i → mpd (σ 143) σ τ (148 + 2) i →
    Ev (l, (fun _ => 0), 0) d 0 0 m_Rules_foldAll (RW fun _ τ => (∀ c, (c < 146 ∨ 153 < c ∨ c = 148 ∨ c = 151) → τ c = σ c) ∧ mpd (σ 143) σ τ (145 + 1) 20 ∧ mpd (σ 143) σ τ (145 + 2) 20 ∧ mpd (σ 143) σ τ (148 + 1) 20 ∧ mpd (σ 143) σ τ (148 + 2) 20 ∧ mpd (σ 143) σ τ (151 + 1) 80 ∧ mpd (σ 143) σ τ (151 + 2) 80) 2 [some (vR 142), some (vI i)] [] gW τ 0 0
  | 0, i, τ, hk, F, m1, m2, m3, m4 => by
    have e : i = 20 := by omega
    subst e
    have hU := isU
    refine jwp_sound t_Rules_foldAll _ (b_Rules_foldAll_2 ?_)
    simp only [RW, true_and, and_true, and_self, true_or, or_true, Nat.reduceLeDiff, Nat.reduceEqDiff, Nat.reduceAdd, Int.reduceLE, Int.reduceLT, Int.reduceEq, Int.reduceNeg, Int.reduceNe, Nat.reduceSub, reduceIte, implies_true, ru_t hU, ru_r1 hU, ru_t1 hU, ru_r2 hU, ru_t2 hU, ru_r4 hU, ru_t4 hU, ru_r6 hU, ru_t6 hU, ru_r8 hU, ru_t8 hU, ru_r9 hU, ru_t9 hU, ru_r10 hU, ru_t10 hU]
    refine ⟨fun _ => ?_, fun q => absurd q (by omega)⟩
    have f143 : τ 143 = σ 143 := F 143 (by omega) (by omega) (by omega) (by omega)
    have go := l_fa_40 (l := l) (σ := τ) hd (by rw [f143]; exact O) (by
      intro c j hc
      have rr : ∀ c, (c = 145 + 1 ∨ c = 145 + 2 ∨ c = 148 + 1 ∨ c = 148 + 2) → mpd (σ 143) σ τ c ((20 : Nat) : Int) → 0 ≤ τ c j ∧ τ c j < 1125899906842624 := fun c hc m => by
        rw [m j]
        split
        · have := hm_r O 10 (σ c j)
          have e : (32 : Int) ^ 10 = 1125899906842624 := by decide
          rw [e] at this
          exact this
        · exact B c j (by omega)
      rcases hc with rfl | rfl | rfl | rfl | hc
      · exact rr _ (by omega) m1
      · exact rr _ (by omega) m2
      · exact rr _ (by omega) m3
      · exact rr _ (by omega) m4
      · rw [F c (by omega) (by omega) (by omega) (by omega)]
        exact B c j (by omega)) 80 0 τ rfl (fun _ _ _ => rfl) mpd_0 mpd_0
    refine Ev_post go (fun _ υ h => ?_)
    obtain ⟨F2, n1, n2⟩ := h
    rw [f143] at n1 n2
    refine ⟨fun c hc => by rw [F2 c (by omega) (by omega), F c (by omega) (by omega) (by omega) (by omega)], mpd_eq m1 (F2 _ (by omega) (by omega)), mpd_eq m2 (F2 _ (by omega) (by omega)), mpd_eq m3 (F2 _ (by omega) (by omega)), mpd_eq m4 (F2 _ (by omega) (by omega)), fun j => ?_, fun j => ?_⟩
    · rw [n1 j, F (151 + 1) (by omega) (by omega) (by omega) (by omega)]
    · rw [n2 j, F (151 + 2) (by omega) (by omega) (by omega) (by omega)]
  | k + 1, i, τ, hk, F, m1, m2, m3, m4 => by
    have hU := isU
    have K4 := kr_Rules_4 isU
    have K6 := kr_Rules_6 isU
    have e1 : τ (145 + 1) i = σ (145 + 1) i := by rw [m1 i, if_neg (by omega)]
    have e2 : τ (145 + 2) i = σ (145 + 2) i := by rw [m2 i, if_neg (by omega)]
    have e3 : τ (148 + 1) i = σ (148 + 1) i := by rw [m3 i, if_neg (by omega)]
    have e4 : τ (148 + 2) i = σ (148 + 2) i := by rw [m4 i, if_neg (by omega)]
    refine jwp_sound t_Rules_foldAll _ (b_Rules_foldAll_2 ?_)
    simp only [RW, true_and, and_true, and_self, true_or, or_true, Nat.reduceLeDiff, Nat.reduceEqDiff, Nat.reduceAdd, Int.reduceLE, Int.reduceLT, Int.reduceEq, Int.reduceNeg, Int.reduceNe, Nat.reduceSub, reduceIte, implies_true, ru_t hU, ru_r1 hU, ru_t1 hU, ru_r2 hU, ru_t2 hU, ru_r4 hU, ru_t4 hU, ru_r6 hU, ru_t6 hU, ru_r8 hU, ru_t8 hU, ru_r9 hU, ru_t9 hU, ru_r10 hU, ru_t10 hU]
    rw [w32_of (x := (i : Int) + 1) (by omega) (by omega)]
    refine ⟨fun q => absurd q (by omega), fun _ => ?_⟩
    repeat (refine And.intro (by omega) ?_)
    have f143 : τ 143 = σ 143 := F 143 (by omega) (by omega) (by omega) (by omega)
    refine cN_v (c_KeyRow_map K4 _ _ gt_143 (by show okρ (τ 143); rw [f143]; exact O) (by show 0 ≤ τ (145 + 1) i ∧ τ (145 + 1) i < _; rw [e1]; exact B _ i (by omega)) (by show 0 ≤ τ (145 + 2) i ∧ τ (145 + 2) i < _; rw [e2]; exact B _ i (by omega)) (by omega) (by omega)) (by omega) (fun _ => ?_)
    obtain ⟨x1, x2⟩ := two_map (N := ((i + 1 : Nat) : Int)) (by omega) m1 m2 (by omega)
    have f143' : τ (142 + 1) = σ 143 := f143
    rw [f143']
    generalize hχ : ju (ju τ (145 + 1) i (hm (σ 143) 10 (τ (145 + 1) i))) (145 + 2) i (hm (σ 143) 10 (τ (145 + 2) i)) = χ at x1 x2
    have fχ : ∀ c, c ≠ 145 + 1 → c ≠ 145 + 2 → χ c = τ c := fun c a b => by rw [← hχ, ju_row b, ju_row a]
    show cN l d _ _ gW (ju (ju τ (145 + 1) i (hm (σ 143) 10 (τ (145 + 1) i))) (145 + 2) i (hm (σ 143) 10 (τ (145 + 2) i))) _
    rw [hχ]
    have g143 : χ 143 = σ 143 := (fχ 143 (by omega) (by omega)).trans f143
    have y3 : mpd (σ 143) σ χ (148 + 1) i := mpd_eq m3 (fχ _ (by omega) (by omega))
    have y4 : mpd (σ 143) σ χ (148 + 2) i := mpd_eq m4 (fχ _ (by omega) (by omega))
    refine cN_v (c_KeyRow_map K6 _ _ gt_143 (by show okρ (χ 143); rw [g143]; exact O) (by show 0 ≤ χ (148 + 1) i ∧ χ (148 + 1) i < _; rw [fχ _ (by omega) (by omega), e3]; exact B _ i (by omega)) (by show 0 ≤ χ (148 + 2) i ∧ χ (148 + 2) i < _; rw [fχ _ (by omega) (by omega), e4]; exact B _ i (by omega)) (by omega) (by omega)) (by omega) (fun _ => ?_)
    obtain ⟨x3, x4⟩ := two_map (N := ((i + 1 : Nat) : Int)) (by omega) y3 y4 (by omega)
    have g143' : χ (142 + 1) = σ 143 := g143
    rw [g143']
    generalize hξ : ju (ju χ (148 + 1) i (hm (σ 143) 10 (χ (148 + 1) i))) (148 + 2) i (hm (σ 143) 10 (χ (148 + 2) i)) = ξ at x3 x4
    have fξ : ∀ c, c ≠ 148 + 1 → c ≠ 148 + 2 → ξ c = χ c := fun c a b => by rw [← hξ, ju_row b, ju_row a]
    have IH := l_fa_2 hd O B k (i + 1) ξ (by omega) (fun c a b e f => by rw [fξ c e f, fχ c a b, F c a b e f]) (mpd_eq x1 (fξ _ (by omega) (by omega))) (mpd_eq x2 (fξ _ (by omega) (by omega))) x3 x4
    rw [show ((i + 1 : Nat) : Int) = (i : Int) + 1 by omega, ← hξ] at IH
    exact IH
theorem kkv_map {f g : Int → Int} {τ : jH} {o N j K : Int} (hg : okρ g) (e : ∀ x, 0 ≤ x → x < 26 → f x = g x) (m1 : mpd f σ τ (o + 1) N) (m2 : mpd f σ τ (o + 2) N) (h0 : 0 ≤ j) (h1 : j < N) (k : KKV σ o j K) : KKV τ o j (km g K) := by
  obtain ⟨d1, d2⟩ := km_div hg K
  refine ⟨?_, ?_⟩
  · rw [m1 j, if_pos ⟨h0, h1⟩, k.1, d1, hm_eq e]
  · rw [m2 j, if_pos ⟨h0, h1⟩, k.2, d2, hm_eq e]
theorem fo_ok (O : RRO ρ) : okρ (fo ρ) := fun x a b => by
  unfold fo
  have := O.2 x a b
  split <;> omega
theorem c_foldAll (D : DRC σ ρ ho) (B : KBD σ) (V : RIV ρ) (h0 : σ 142 0 = ρ 0) : Cw 12 m_Rules_foldAll [vR 142] σ (fun _ τ => RLS τ 142 ρ ∧ DRL τ ρ ho ∧ KBD τ ∧ ∀ c, (c < 146 ∨ 153 < c) → τ c = σ c) := by
  obtain ⟨⟨O, v1, v2⟩, RK⟩ := V
  have fk := fo_ok O
  obtain ⟨⟨o1, o2, o3, o4, o5⟩, o6⟩ := O
  obtain ⟨⟨e1, e2, e3, e4⟩, e5, e6, e7, e8⟩ := D
  have ee : ∀ x, 0 ≤ x → x < 26 → σ 143 x = fo ρ x := fun x a b => (e5 x a b).1
  have ok : okρ (σ 143) := fun x a b => by
    rw [ee x a b]
    exact fk x a b
  refine Cw_of o_Rules_foldAll rfl fun l d hd => jwp_sound t_Rules_foldAll _ (b_Rules_foldAll_0 ?_)
  refine Ev_post (l_fa_2 hd ok B 20 0 σ rfl (fun _ _ _ _ _ => rfl) mpd_0 mpd_0 mpd_0 mpd_0) (fun _ τ h => ?_)
  obtain ⟨F, m1, m2, m3, m4, m5, m6⟩ := h
  have kb : ∀ c N, mpd (σ 143) σ τ c N → (c = 145 + 1 ∨ c = 145 + 2 ∨ c = 148 + 1 ∨ c = 148 + 2 ∨ c = 151 + 1 ∨ c = 151 + 2) → ∀ j, 0 ≤ τ c j ∧ τ c j < 1125899906842624 := fun c N m hc j => by
    rw [m j]
    split
    · have := hm_r ok 10 (σ c j)
      have e : (32 : Int) ^ 10 = 1125899906842624 := by decide
      rw [e] at this
      exact this
    · exact B c j (by omega)
  refine ⟨⟨⟨?_, ?_, ?_, ?_⟩, fun s a b => ?_, fun r a b => ?_⟩, ⟨fun x a b => ?_, fun x a b => ?_, ?_⟩, fun c j hc => ?_, fun c hc => F c (by omega)⟩
  · rw [F 142 (by omega)]
    exact h0
  · rw [F 142 (by omega)]
    exact e3
  · rw [F 142 (by omega)]
    exact e1
  · rw [F 142 (by omega)]
    exact e2
  · exact kkv_map fk ee m1 m2 a (by omega) (e7 s a b)
  · obtain ⟨g1, g2, g3⟩ := e8 r a b
    have c5 := (o5 r a b).1
    refine ⟨by show τ 154 r = _; rw [F 154 (by omega)]; exact g1, ?_, fun i i0 i1 => ?_⟩
    · unfold wrt
      rw [show 478 + 106 * r + 21 * 0 = 478 + 106 * r by omega]
      exact kkv_map fk ee m3 m4 a (by omega) g2
    · exact kkv_map fk ee m5 m6 (by omega) (by omega) (g3 i i0 i1)
  · rw [F 143 (by omega)]
    exact ee x a b
  · rw [F 155 (by omega)]
    exact e6 x a b
  · rw [F 142 (by omega)]
    exact e4
  · rcases hc with rfl | rfl | rfl | rfl | rfl | rfl
    · exact kb _ _ m1 (by omega) j
    · exact kb _ _ m2 (by omega) j
    · exact kb _ _ m3 (by omega) j
    · exact kb _ _ m4 (by omega) j
    · exact kb _ _ m5 (by omega) j
    · exact kb _ _ m6 (by omega) j
end R8
