/-! RULES are read: the class's ROOTS -/
theorem wrd_rro {t ρ : Int → Int} {n p A : Int} (O : RRO ρ) (h : WAT ρ A) : RRO (wrd ρ A t n p) := by
  obtain ⟨a, b, c⟩ := wrd_low (t := t) (n := n) (p := p) O h
  obtain ⟨⟨o1, o2, o3, o4, o5⟩, o6⟩ := O
  unfold RRO RLO
  rw [a 0 (by omega), a 1 (by omega), a 2 (by omega)]
  refine ⟨⟨o1, o2, o3, fun s x y => ?_, fun r x y => ?_⟩, fun x y z => by rw [a _ (by omega)]; exact o6 x y z⟩
  · obtain ⟨v1, v2, v3⟩ := b s x y
    exact ⟨v1, by rw [v3]; exact (o4 s x y).2⟩
  · obtain ⟨v1, v2⟩ := c r x y
    rw [v1]
    refine ⟨(o5 r x y).1, fun i i0 i1 => ?_⟩
    obtain ⟨w1, w2, w3⟩ := v2 i i0 i1
    exact ⟨w1, by rw [w3]; exact ((o5 r x y).2 i i0 i1).2⟩
/-- a root's own words so far -/
def RTW (W : Int → Int) (r m : Int) : Prop := ∀ i, 0 ≤ i → i ≤ m → RV W (478 + 106 * r + 21 * i) ∧ 1 ≤ W (478 + 106 * r + 21 * i)
theorem rtw_s {t W : Int → Int} {n p r m : Int} (hp : 0 ≤ p ∧ p ≤ n) (h1 : tK t n p = 1) (h : RTW W r m) : RTW (wrd W (478 + 106 * r + 21 * (m + 1)) t n p) r (m + 1) := fun i i0 i1 => by
  by_cases y : i = m + 1
  · rw [y]
    obtain ⟨a, b, c, d⟩ := wrd_at (ρ := W) (A := 478 + 106 * r + 21 * (m + 1)) hp h1
    exact ⟨a, c⟩
  · obtain ⟨a, b⟩ := h i i0 (by omega)
    exact ⟨(wrd_rk (by omega) a).1, by rw [wrd_out (by omega)]; exact b⟩
/-- a root more -/
theorem rro_root {W : Int → Int} {r m : Int} (O : RRO W) (hr : W 2 = r) (r20 : r < 20) (hm : 0 ≤ m ∧ m ≤ 3) (h : RTW W r (m + 1)) : RRO (up (up W (477 + 106 * r) (m + 2)) 2 (r + 1)) := by
  obtain ⟨⟨o1, o2, o3, o4, o5⟩, o6⟩ := O
  have r0 : 0 ≤ r := by omega
  have u : ∀ a, a ≠ 2 → a ≠ 477 + 106 * r → up (up W (477 + 106 * r) (m + 2)) 2 (r + 1) a = W a := fun a x y => by rw [up_ne x, up_ne y]
  have ur : ∀ B, 57 ≤ B → (B + 20 < 477 + 106 * r ∨ 477 + 106 * r < B) → RV W B → RV (up (up W (477 + 106 * r) (m + 2)) 2 (r + 1)) B ∧ up (up W (477 + 106 * r) (m + 2)) 2 (r + 1) B = W B := fun B b1 b2 V => by
    obtain ⟨a1, a2, a3⟩ := rk_up (v := m + 2) (a := 477 + 106 * r) (by omega) V
    obtain ⟨c1, c2, c3⟩ := rk_up (v := r + 1) (a := 2) (by omega) a1
    exact ⟨c1, by rw [c3, a3]⟩
  refine ⟨⟨?_, ?_, ?_, fun s x y => ?_, fun r' x y => ?_⟩, fun x y z => by rw [u _ (by omega) (by omega)]; exact o6 x y z⟩
  · rw [u 0 (by omega) (by omega)]
    exact o1
  · rw [u 1 (by omega) (by omega)]
    exact o2
  · rw [up_self]
    omega
  · rw [u 1 (by omega) (by omega)] at y
    obtain ⟨a, b⟩ := ur (57 + 21 * s) (by omega) (by omega) (o4 s x y).1
    exact ⟨a, by rw [b]; exact (o4 s x y).2⟩
  · rw [up_self] at y
    by_cases g : r' = r
    · rw [g, up_ne (show 477 + 106 * r ≠ 2 by omega), up_self]
      refine ⟨by omega, fun i i0 i1 => ?_⟩
      obtain ⟨v1, v2⟩ := h i i0 (by omega)
      obtain ⟨a, b⟩ := ur (478 + 106 * r + 21 * i) (by omega) (by omega) v1
      exact ⟨a, by rw [b]; exact v2⟩
    · obtain ⟨v1, v2⟩ := o5 r' x (by omega)
      rw [u _ (by omega) (by omega)]
      refine ⟨v1, fun i i0 i1 => ?_⟩
      obtain ⟨w1, w2⟩ := v2 i i0 i1
      obtain ⟨a, b⟩ := ur (478 + 106 * r' + 21 * i) (by omega) (by omega) w1
      exact ⟨a, by rw [b]; exact w2⟩
section R3
variable {l : Launch} {d : Nat} {t : Int → Int} {σ : jH} {n p : Int} {ρ : Int → Int} {ho : Bool}
theorem l_rr_72 {r : Int} (hd : 14 ≤ d) (T : TP σ t n) (r0 : 0 ≤ r ∧ r < 20) : ∀ (k m : Nat) (p : Int) (τ : jH) (W : Int → Int), m + k = 5 → m ≤ 4 → (m = 0 ∨ tK t n p = 1) → (0 ≤ p ∧ p ≤ n) → FRD σ τ → (τ 142 0 = σ 142 0 ∧ τ 140 6 = σ 140 6 ∧ τ 140 7 = σ 140 7) → TKC τ t n p → DRC τ W ho → RRO W → W 2 = r → RTW W r m → KKV τ 148 r (rk W (478 + 106 * r)) → (∀ i : Int, 0 ≤ i → i < m → KKV τ 151 (4 * r + i) (rk W (478 + 106 * r + 21 * (i + 1)))) →
    Ev (l, (fun _ => 0), 0) d 0 0 m_RuleReader_readRoot (RW fun z τ => CRS σ τ t n (rMem t n r ho k m p W) z) 72 [some (vR 141), some (vI r), some (vI m)] [] gW τ 0 0
  | 0, m, p, τ, W, hk, hm, _, _, _, _, _, _, _, _, _, _, _ => by omega
  | k + 1, m, p, τ, W, hk, hm, hw, hp, F, G, K, D, O, h2, V, kr, km => by
    have Tτ := T.eq (F.1 2 (by omega) (by omega))
    have p1 := tN_in (t := t) hp
    simp only [rMem]
    refine jwp_sound t_RuleReader_readRoot _ (b_RuleReader_readRoot_72 ?_)
    simp only [RW, true_and, and_true, and_self, true_or, or_true, Nat.reduceLeDiff, Nat.reduceEqDiff, Nat.reduceAdd, Int.reduceLE, Int.reduceLT, Int.reduceEq, Int.reduceNeg, Int.reduceNe, Nat.reduceSub, reduceIte, implies_true, gt_141, gr_141_0, gt_142, gr_141_1, gt_140, gr_142_6, gt_148, gr_142_8, gt_151, gr_142_9, gt_154]
    refine ⟨fun q4 => ?_, fun q4 => ?_⟩
    · rw [w32_of (x := r * 4) (by omega) (by omega), w32_of (x := r * 4 + (m : Int)) (by omega) (by omega)]
      refine cN_w (c_readWord (kr_Rules_8 isU) ⟨by omega, by omega⟩ ⟨by omega, by omega⟩ Tτ K hp) (by omega) (fun z τ2 h => ?_)
      have kb2 := fun B => RWP.kb h hp (by omega) B
      rcases h with ⟨q, rfl, K2, kk, oth, F2, g6, g7⟩ | ⟨q, rfl, rfl⟩
      · refine ⟨fun _ => ?_, fun x => absurd x (by omega)⟩
        rw [if_neg (fun x => x q), if_neg (show ¬ (m : Int) = 4 by omega)]
        have A : WAT W (478 + 106 * r + 21 * ((m : Int) + 1)) := Or.inr (by omega)
        have ra := wrd_at (ρ := W) (A := 478 + 106 * r + 21 * ((m : Int) + 1)) hp q
        have D2 : DRC τ2 (wrd W (478 + 106 * r + 21 * ((m : Int) + 1)) t n p) ho := by
          have D1 := wrd_drc (t := t) (n := n) (p := p) D O A
          obtain ⟨⟨e1, e2, e3, e4⟩, e5, e6, e7, e8⟩ := D1
          have w2' : wrd W (478 + 106 * r + 21 * ((m : Int) + 1)) t n p 2 = r := by rw [wrd_out (by omega)]; exact h2
          unfold DRC KKV
          rw [F2 142 (by omega) (by omega) (by omega) (by omega), F2 143 (by omega) (by omega) (by omega) (by omega), F2 144 (by omega) (by omega) (by omega) (by omega), F2 155 (by omega) (by omega) (by omega) (by omega), F2 (145 + 1) (by omega) (by omega) (by omega) (by omega), F2 (145 + 2) (by omega) (by omega) (by omega) (by omega), F2 154 (by omega) (by omega) (by omega) (by omega), F2 (148 + 1) (by omega) (by omega) (by omega) (by omega), F2 (148 + 2) (by omega) (by omega) (by omega) (by omega)]
          refine ⟨⟨e1, e2, e3, e4⟩, e5, e6, e7, fun x x0 x1 => ?_⟩
          obtain ⟨g1, g2, g3⟩ := e8 x x0 x1
          rw [w2'] at x1
          refine ⟨g1, g2, fun i i0 i1 => ?_⟩
          have c5 := ((wrd_rro (t := t) (n := n) (p := p) O A).1.2.2.2.2 x x0 (by rw [w2']; exact x1)).1
          rw [(oth (4 * x + i) (by omega)).1, (oth (4 * x + i) (by omega)).2]
          exact g3 i i0 i1
        have O2 := wrd_rro (t := t) (n := n) (p := p) O A
        have V2 := rtw_s hp q V
        have w2 : wrd W (478 + 106 * r + 21 * ((m : Int) + 1)) t n p 2 = r := by rw [wrd_out (by omega)]; exact h2
        have kr2 : KKV τ2 148 r (rk (wrd W (478 + 106 * r + 21 * ((m : Int) + 1)) t n p) (478 + 106 * r)) := by
          have v0 := (V 0 (by omega) (by omega)).1
          rw [show 478 + 106 * r + 21 * 0 = 478 + 106 * r by omega] at v0
          rw [(wrd_rk (by omega) v0).2]
          unfold KKV
          rw [F2 (148 + 1) (by omega) (by omega) (by omega) (by omega), F2 (148 + 2) (by omega) (by omega) (by omega) (by omega)]
          exact kr
        have km2 : ∀ i : Int, 0 ≤ i → i < (m : Int) + 1 → KKV τ2 151 (4 * r + i) (rk (wrd W (478 + 106 * r + 21 * ((m : Int) + 1)) t n p) (478 + 106 * r + 21 * (i + 1))) := fun i i0 i1 => by
          by_cases y : i = m
          · rw [y, ra.2.1, show 4 * r + (m : Int) = r * 4 + m by omega]
            exact kk
          · rw [(wrd_rk (by omega) (V (i + 1) (by omega) (by omega)).1).2]
            have := km i i0 (by omega)
            unfold KKV at this ⊢
            rw [(oth (4 * r + i) (by omega)).1, (oth (4 * r + i) (by omega)).2]
            exact this
        have FD : FRD τ τ2 := ⟨fun c a b => F2 c a (by omega) (by omega) (by omega), kb2⟩
        have G2 : τ2 142 0 = σ 142 0 ∧ τ2 140 6 = σ 140 6 ∧ τ2 140 7 = σ 140 7 := ⟨by rw [F2 142 (by omega) (by omega) (by omega) (by omega)]; exact G.1, by rw [g6]; exact G.2.1, by rw [g7]; exact G.2.2⟩
        generalize hW : wrd W (478 + 106 * r + 21 * ((m : Int) + 1)) t n p = W2 at *
        rw [K2.1.2.2.2]
        refine ⟨fun y => ?_, fun y => ?_⟩
        · rw [if_pos y, w32_of (x := (m : Int) + 1) (by omega) (by omega)]
          have IH := l_rr_72 hd T r0 k (m + 1) (tN t n p) τ2 W2 (by omega) (by omega) (Or.inr y) p1 (F.tr FD) G2 K2 D2 O2 w2 (by rw [show ((m + 1 : Nat) : Int) = (m : Int) + 1 by omega]; exact V2) kr2 (by rw [show ((m + 1 : Nat) : Int) = (m : Int) + 1 by omega]; exact km2)
          rw [show ((m + 1 : Nat) : Int) = (m : Int) + 1 by omega] at IH
          exact IH
        · rw [if_neg y, w32_of (x := (m : Int) + 1) (by omega) (by omega)]
          have e7 : τ2 142 7 = r := by rw [D2.1.2.1, w2]
          rw [ju_row (a := 154) (c := 142) (by omega), e7, w32_of (x := r + 1) (by omega) (by omega)]
          refine ⟨r0.1, by omega, ?_⟩
          generalize hχ : ju (ju τ2 154 r ((m : Int) + 1)) 142 7 (r + 1) = χ
          have xr : ∀ c, c ≠ 142 → c ≠ 154 → χ c = τ2 c := fun c a b => by rw [← hχ, ju_row a, ju_row b]
          have xj : ∀ j, j ≠ 7 → χ 142 j = τ2 142 j := fun j hj => by rw [← hχ, ju_ne2 hj, ju_row (by omega)]
          have x154 : ∀ j, χ 154 j = if j = r then (m : Int) + 1 else τ2 154 j := fun j => by
            rw [← hχ, ju_row (by omega)]
            by_cases g : j = r
            · rw [if_pos g, g, ju_self]
            · rw [if_neg g, ju_ne2 g]
          obtain ⟨⟨e1, e2, e3, e4⟩, e5, e6, e7', e8⟩ := D2
          have u : ∀ a, a ≠ 2 → a ≠ 477 + 106 * r → up (up W2 (477 + 106 * r) ((m : Int) + 2)) 2 (r + 1) a = W2 a := fun a x y => by rw [up_ne x, up_ne y]
          have ur : ∀ B, 57 ≤ B → (B + 20 < 477 + 106 * r ∨ 477 + 106 * r < B) → RV W2 B → rk (up (up W2 (477 + 106 * r) ((m : Int) + 2)) 2 (r + 1)) B = rk W2 B := fun B b1 b2 V => by
            obtain ⟨a1, a2, a3⟩ := rk_up (v := (m : Int) + 2) (a := 477 + 106 * r) (by omega) V
            obtain ⟨c1, c2, c3⟩ := rk_up (v := r + 1) (a := 2) (by omega) a1
            rw [c2, a2]
          have O2' := O2
          obtain ⟨⟨o1, o2, o3, o4, o5⟩, o6⟩ := O2'
          refine ⟨F.tr (FD.tr (.kp (fun c a b => xr c (by omega) (by omega)) (fun c a b => xr c (by omega) (by omega)))), Or.inl ⟨rfl, rfl, p1, K2.eq (xr 140 (by omega) (by omega)), ⟨⟨?_, ?_, ?_, ?_⟩, fun j j0 j1 => ?_, fun j j0 j1 => ?_, fun s s0 s1 => ?_, fun x x0 x1 => ?_⟩, by rw [xj 0 (by omega)]; exact G2.1, by rw [xr 140 (by omega) (by omega)]; exact G2.2.1, by rw [xr 140 (by omega) (by omega)]; exact G2.2.2⟩⟩
          · show χ 142 5 = up (up W2 (477 + 106 * r) ((m : Int) + 2)) 2 (r + 1) 1
            rw [xj 5 (by omega), u 1 (by omega) (by omega)]
            exact e1
          · show χ 142 7 = up (up W2 (477 + 106 * r) ((m : Int) + 2)) 2 (r + 1) 2
            rw [up_self, ← hχ, ju_self]
          · show χ 142 3 = fcnt (up (up W2 (477 + 106 * r) ((m : Int) + 2)) 2 (r + 1)) 26
            rw [xj 3 (by omega), fcnt_eq (fun j a b => u j (by omega) (by omega)) 26 (by omega)]
            exact e3
          · rw [xj 11 (by omega)]
            exact e4
          · show χ 143 j = fo (up (up W2 (477 + 106 * r) ((m : Int) + 2)) 2 (r + 1)) j ∧ χ 144 j = if up (up W2 (477 + 106 * r) ((m : Int) + 2)) 2 (r + 1) (5 + j) = -1 then 0 else 1
            unfold fo
            rw [u _ (by omega) (by omega), xr 143 (by omega) (by omega), xr 144 (by omega) (by omega)]
            exact e5 j j0 j1
          · show χ 155 j = up (up W2 (477 + 106 * r) ((m : Int) + 2)) 2 (r + 1) (31 + j)
            rw [u _ (by omega) (by omega), xr 155 (by omega) (by omega)]
            exact e6 j j0 j1
          · have s1' : s < up (up W2 (477 + 106 * r) ((m : Int) + 2)) 2 (r + 1) 1 := s1
            rw [u 1 (by omega) (by omega)] at s1'
            show KKV χ 145 s (rk (up (up W2 (477 + 106 * r) ((m : Int) + 2)) 2 (r + 1)) (57 + 21 * s))
            rw [ur _ (by omega) (by omega) (o4 s s0 s1').1]
            unfold KKV
            rw [xr _ (by omega) (by omega), xr _ (by omega) (by omega)]
            exact e7' s s0 s1'
          · have x1' : x < up (up W2 (477 + 106 * r) ((m : Int) + 2)) 2 (r + 1) 2 := x1
            rw [up_self] at x1'
            show χ 154 x = up (up W2 (477 + 106 * r) ((m : Int) + 2)) 2 (r + 1) (477 + 106 * x) - 1 ∧ KKV χ 148 x (rk (up (up W2 (477 + 106 * r) ((m : Int) + 2)) 2 (r + 1)) (478 + 106 * x)) ∧ ∀ i, 0 ≤ i → i < up (up W2 (477 + 106 * r) ((m : Int) + 2)) 2 (r + 1) (477 + 106 * x) - 1 → KKV χ 151 (4 * x + i) (rk (up (up W2 (477 + 106 * r) ((m : Int) + 2)) 2 (r + 1)) (478 + 106 * x + 21 * (i + 1)))
            rw [x154]
            by_cases g : x = r
            · rw [if_pos g, g, up_ne (show 477 + 106 * r ≠ 2 by omega), up_self]
              have v0 := (V2 0 (by omega) (by omega)).1
              rw [show 478 + 106 * r + 21 * 0 = 478 + 106 * r by omega] at v0
              rw [ur _ (by omega) (by omega) v0]
              refine ⟨by omega, ?_, fun i i0 i1 => ?_⟩
              · unfold KKV at kr2 ⊢
                rw [xr _ (by omega) (by omega), xr _ (by omega) (by omega)]
                exact kr2
              · rw [ur _ (by omega) (by omega) (V2 (i + 1) (by omega) (by omega)).1]
                have := km2 i i0 (by omega)
                unfold KKV at this ⊢
                rw [xr _ (by omega) (by omega), xr _ (by omega) (by omega)]
                exact this
            · have xr1 : x < W2 2 := by omega
              obtain ⟨g1, g2, g3⟩ := e8 x x0 xr1
              obtain ⟨v1, v2⟩ := o5 x x0 xr1
              rw [if_neg g, u _ (by omega) (by omega)]
              have v0 := (v2 0 (by omega) (by omega)).1
              rw [show 478 + 106 * x + 21 * 0 = 478 + 106 * x by omega] at v0
              rw [ur _ (by omega) (by omega) v0]
              refine ⟨g1, ?_, fun i i0 i1 => ?_⟩
              · unfold KKV at g2 ⊢
                rw [xr _ (by omega) (by omega), xr _ (by omega) (by omega)]
                exact g2
              · rw [ur _ (by omega) (by omega) (v2 (i + 1) (by omega) (by omega)).1]
                have := g3 i i0 i1
                unfold KKV at this ⊢
                rw [xr _ (by omega) (by omega), xr _ (by omega) (by omega)]
                exact this
      · refine ⟨fun x => absurd rfl x, fun _ => ?_⟩
        rw [if_pos q]
        exact crs_pre F G.1 G.2.1 G.2.2 (crs_fail K 1 (by omega))
    · have q1 : tK t n p = 1 := by
        rcases hw with h | h
        · omega
        · exact h
      rw [if_neg (fun x => x q1), if_pos (show (m : Int) = 4 by omega)]
      refine cN_p (c_fail 3 K) (by omega) ?_
      exact ⟨Or.inl rfl, crs_pre F G.1 G.2.1 G.2.2 (crs_fail K 3 (by omega))⟩
end R3
