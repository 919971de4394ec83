/-! RULES are read: the class's words, folds and STOPS -/
def DRC (σ : jH) (ρ : Int → Int) (ho : Bool) : Prop := (σ 142 5 = ρ 1 ∧ σ 142 7 = ρ 2 ∧ σ 142 3 = fcnt ρ 26 ∧ σ 142 11 = b2i ho) ∧ (∀ x, 0 ≤ x → x < 26 → σ 143 x = fo ρ x ∧ σ 144 x = (if ρ (5 + x) = -1 then 0 else 1)) ∧ (∀ x, 0 ≤ x → x < 26 → σ 155 x = ρ (31 + x)) ∧ (∀ s, 0 ≤ s → s < ρ 1 → KKV σ 145 s (rk ρ (57 + 21 * s))) ∧ ∀ r, 0 ≤ r → r < ρ 2 → σ 154 r = ρ (477 + 106 * r) - 1 ∧ KKV σ 148 r (rk ρ (478 + 106 * r)) ∧ ∀ i, 0 ≤ i → i < ρ (477 + 106 * r) - 1 → KKV σ 151 (4 * r + i) (rk ρ (478 + 106 * r + 21 * (i + 1)))
/-- the halves of the draft's keys are halves -/
def KBD (σ : jH) : Prop := ∀ c j, (c = 145 + 1 ∨ c = 145 + 2 ∨ c = 148 + 1 ∨ c = 148 + 2 ∨ c = 151 + 1 ∨ c = 151 + 2) → 0 ≤ σ c j ∧ σ c j < 1125899906842624
theorem KBD.eq {σ τ : jH} (B : KBD σ) (h : ∀ c, 146 ≤ c → c ≤ 153 → τ c = σ c) : KBD τ := fun c j hc => by
  rw [h c (by omega) (by omega)]
  exact B c j hc
def FRD (σ τ : jH) : Prop := (∀ c, c ≠ 140 → (c < 142 ∨ 156 < c) → τ c = σ c) ∧ (KBD σ → KBD τ)
theorem FRD.kb {σ τ : jH} (F : FRD σ τ) (B : KBD σ) : KBD τ := F.2 B
theorem FRD.kp {σ τ : jH} (h : ∀ c, c ≠ 140 → (c < 142 ∨ 156 < c) → τ c = σ c) (k : ∀ c, 146 ≤ c → c ≤ 153 → τ c = σ c) : FRD σ τ := ⟨h, fun B => B.eq k⟩
theorem FRD.tr {σ τ υ : jH} (h : FRD σ τ) (h' : FRD τ υ) : FRD σ υ := ⟨fun c a b => (h'.1 c a b).trans (h.1 c a b), fun B => h'.kb (h.kb B)⟩
def CRS (σ τ : jH) (t : Int → Int) (n : Int) (R : RS) (z : Int) : Prop := FRD σ τ ∧ ((R.1 = 0 ∧ z = 1 ∧ (0 ≤ R.2.2.1 ∧ R.2.2.1 ≤ n) ∧ TKC τ t n R.2.2.1 ∧ DRC τ R.2.2.2.1 R.2.2.2.2 ∧ τ 142 0 = σ 142 0 ∧ τ 140 6 = σ 140 6 ∧ τ 140 7 = σ 140 7) ∨ (R.1 ≠ 0 ∧ z = 0 ∧ τ 140 6 = R.1 ∧ τ 140 7 = R.2.1))
/-- rows of RULES that can be read so far -/
def RRO (ρ : Int → Int) : Prop := RLO ρ ∧ ∀ x, 0 ≤ x → x < 26 → ρ (5 + x) = -1 ∨ (0 ≤ ρ (5 + x) ∧ ρ (5 + x) < 26)
theorem DRC.eq {σ τ : jH} {ρ : Int → Int} {ho : Bool} (D : DRC σ ρ ho) (h : ∀ c, 142 ≤ c → c ≤ 155 → τ c = σ c) : DRC τ ρ ho := by
  unfold DRC KKV at *
  rw [h 142 (by omega) (by omega), h 143 (by omega) (by omega), h 144 (by omega) (by omega), h 155 (by omega) (by omega), h (145 + 1) (by omega) (by omega), h (145 + 2) (by omega) (by omega), h 154 (by omega) (by omega), h (148 + 1) (by omega) (by omega), h (148 + 2) (by omega) (by omega), h (151 + 1) (by omega) (by omega), h (151 + 2) (by omega) (by omega)]
  exact D
section R1
variable {l : Launch} {d : Nat} {t : Int → Int} {σ : jH} {n p : Int} {ρ : Int → Int} {ho : Bool}
theorem ky156 : KY 156 := gt_156
theorem isU : isRules 142 := by
  unfold isRules
  omega
theorem TKC.eq {τ : jH} (K : TKC σ t n p) (h : τ 140 = σ 140) : TKC τ t n p := by
  unfold TKC at *
  rw [h]
  exact K
theorem crs_fail (K : TKC σ t n p) (x : Int) (hx : x ≠ 0) : CRS σ (ju (ju σ 140 6 x) 140 7 (tS t n p)) t n (rBD x (tS t n p)) 0 := by
  refine ⟨.kp (fun c a _ => by rw [ju_row a, ju_row a]) (fun c a b => by rw [ju_row (by omega), ju_row (by omega)]), Or.inr ⟨hx, rfl, ?_, ?_⟩⟩
  · rw [ju_ne2 (by omega), ju_self]
    rfl
  · rw [ju_self]
    rfl
/-- a word is put into a row of keys, or not -/
def RWP (σ τ : jH) (t : Int → Int) (n p o i z : Int) : Prop := (tK t n p = 1 ∧ z = 1 ∧ TKC τ t n (tN t n p) ∧ KKV τ o i (wK t n p).1 ∧ (∀ j, j ≠ i → τ (o + 1) j = σ (o + 1) j ∧ τ (o + 2) j = σ (o + 2) j) ∧ (∀ c, c ≠ 140 → c ≠ o + 1 → c ≠ o + 2 → c ≠ 156 → τ c = σ c) ∧ τ 140 6 = σ 140 6 ∧ τ 140 7 = σ 140 7) ∨ (tK t n p ≠ 1 ∧ z = 0 ∧ τ = ju (ju σ 140 6 1) 140 7 (tS t n p))
theorem c_readWord {o i N : Int} (Ko : KR o N) (ho1 : 145 ≤ o ∧ o ≤ 151) (hi : 0 ≤ i ∧ i < N) (T : TP σ t n) (K : TKC σ t n p) (hp : 0 ≤ p ∧ p ≤ n) : Cw 13 m_RuleReader_readWord [vR 141, vR o, vI i] σ (fun z τ => RWP σ τ t n p o i z) := by
  have KO := Ko
  obtain ⟨K1, K2, K3, K4, K5⟩ := Ko
  refine Cw_of o_RuleReader_readWord rfl fun l d hd => jwp_sound t_RuleReader_readWord _ (b_RuleReader_readWord_0 ?_)
  simp only [RW, true_and, and_true, and_self, true_or, or_true, Nat.reduceLeDiff, Nat.reduceEqDiff, Nat.reduceAdd, Int.reduceLE, Int.reduceLT, Int.reduceEq, Int.reduceNeg, Int.reduceNe, Nat.reduceSub, reduceIte, implies_true, gt_141, gr_141_1, gt_140, gr_141_2, gt_156]
  rw [K.1.2.2.2, K1]
  refine ⟨fun q => ?_, fun q => ?_⟩
  · refine cN_w (c_readInto ky156 ⟨by omega, by omega⟩ T K hp q) (by omega) (fun _ τ h => ?_)
    obtain ⟨⟨k1, k2, k3, k4, k5, k6, k7⟩, F⟩ := h
    refine ⟨rfl, ?_⟩
    refine cN_v (c_KeyRow_put KO _ _ _ _) (by omega) (fun _ => ?_)
    rw [if_pos hi, k5, k6]
    generalize hχ : ju (ju τ (o + 1) i ((wK t n p).1 / 1125899906842624)) (o + 2) i ((wK t n p).1 % 1125899906842624) = χ
    have Fχ : ∀ c, c ≠ o + 1 → c ≠ o + 2 → c ≠ 156 → χ c = σ c := fun c a b e => by rw [← hχ, ju_row b, ju_row a, F c e]
    have e1 : ∀ j, χ (o + 1) j = if j = i then (wK t n p).1 / 1125899906842624 else σ (o + 1) j := fun j => by
      rw [← hχ, ju_row (by omega)]
      by_cases y : j = i
      · rw [if_pos y, y, ju_self]
      · rw [if_neg y, ju_ne2 y, F _ (by omega)]
    have e2 : ∀ j, χ (o + 2) j = if j = i then (wK t n p).1 % 1125899906842624 else σ (o + 2) j := fun j => by
      rw [← hχ]
      by_cases y : j = i
      · rw [if_pos y, y, ju_self]
      · rw [if_neg y, ju_ne2 y, ju_row (by omega), F _ (by omega)]
    refine cN_w (c_advance (T.eq (Fχ 2 (by omega) (by omega) (by omega))) (K.eq (Fχ 140 (by omega) (by omega) (by omega))) hp) (by omega) (fun _ υ h => ?_)
    obtain ⟨F2, K2'⟩ := h
    refine Or.inl ⟨q, rfl, K2', ⟨?_, ?_⟩, fun j hj => ⟨?_, ?_⟩, fun c a b c2 c3 => by rw [F2.1 c a, Fχ c b c2 c3], ?_, ?_⟩
    · rw [F2.1 _ (by omega), e1, if_pos rfl]
    · rw [F2.1 _ (by omega), e2, if_pos rfl]
    · rw [F2.1 _ (by omega), e1, if_neg hj]
    · rw [F2.1 _ (by omega), e2, if_neg hj]
    · rw [F2.2 6 (by omega) (by omega) (by omega) (by omega), Fχ 140 (by omega) (by omega) (by omega)]
    · rw [F2.2 7 (by omega) (by omega) (by omega) (by omega), Fχ 140 (by omega) (by omega) (by omega)]
  · refine cN_p (c_fail 1 K) (by omega) ?_
    exact ⟨Or.inl rfl, Or.inr ⟨q, rfl, rfl⟩⟩
theorem RWP.kb {τ : jH} {o i z : Int} (h : RWP σ τ t n p o i z) (hp : 0 ≤ p ∧ p ≤ n) (ho : o = 145 ∨ o = 148 ∨ o = 151) (B : KBD σ) : KBD τ := by
  rcases h with ⟨q, _, _, kk, oth, F, _, _⟩ | ⟨q, rfl, rfl⟩
  · intro c j hc
    have w := wrd_at (ρ := fun _ => 0) (A := 0) hp q
    have r := rk_r w.1
    rw [w.2.1] at r
    by_cases y : c = o + 1
    · rw [y]
      by_cases g : j = i
      · rw [g, kk.1]
        omega
      · rw [(oth j g).1]
        exact B _ j (by omega)
    · by_cases y2 : c = o + 2
      · rw [y2]
        by_cases g : j = i
        · rw [g, kk.2]
          omega
        · rw [(oth j g).2]
          exact B _ j (by omega)
      · rw [F c (by omega) y y2 (by omega)]
        exact B c j hc
  · exact B.eq (fun c a b => by rw [ju_row (by omega), ju_row (by omega)])
theorem tN_in (hp : 0 ≤ p ∧ p ≤ n) : 0 ≤ tN t n p ∧ tN t n p ≤ n := by
  have r := tS_r (t := t) hp.2
  have r2 := tN_r (t := t) hp.2
  omega
theorem fcnt_up {ρ : Int → Int} {x v : Int} (x0 : 0 ≤ x) (h1 : ρ (5 + x) = -1) (hv : v ≠ -1) : ∀ k : Nat, fcnt (up ρ (5 + x) v) k = fcnt ρ k + (if x < k then 1 else 0)
  | 0 => by
    rw [if_neg (by omega)]
    rfl
  | k + 1 => by
    simp only [fcnt]
    rw [fcnt_up x0 h1 hv k]
    by_cases q : (k : Int) = x
    · rw [q, up_self, if_neg hv, h1, if_pos rfl, if_neg (by omega), if_pos (by omega)]
    · rw [up_ne (by omega)]
      by_cases q2 : x < k
      · rw [if_pos q2, if_pos (show x < ((k + 1 : Nat) : Int) by omega)]
        omega
      · rw [if_neg q2, if_neg (show ¬ x < ((k + 1 : Nat) : Int) by omega)]
        omega
/-- rows that are the same but at the folds' letters -/
theorem rk_up {ρ : Int → Int} {a v A : Int} (h : a < A ∨ A + 20 < a) (V : RV ρ A) : RV (up ρ a v) A ∧ rk (up ρ a v) A = rk ρ A ∧ up ρ a v A = ρ A := by
  obtain ⟨v1, v2, v3⟩ := V
  have e : up ρ a v A = ρ A := up_ne (by omega)
  refine ⟨⟨by omega, by omega, fun j x y => ?_⟩, rk_eq e (fun j x y => up_ne (by omega)), e⟩
  rw [up_ne (by omega)]
  exact v3 j x (by omega)
theorem c_readFold (T : TP σ t n) (K : TKC σ t n p) (hp : 0 ≤ p ∧ p ≤ n) (D : DRC σ ρ ho) (O : RRO ρ) : Cw 13 m_RuleReader_readFold [vR 141] σ (fun z τ => CRS σ τ t n (rFold t n (tN t n p) ρ ho) z) := by
  have p1 := tN_in (t := t) hp
  have p2 := tN_in (t := t) p1
  have p3 := tN_in (t := t) p2
  have p4 := tN_in (t := t) p3
  refine Cw_of o_RuleReader_readFold rfl fun l d hd => jwp_sound t_RuleReader_readFold _ (b_RuleReader_readFold_0 ?_)
  simp only [RW, true_and, and_true, and_self, true_or, or_true, Nat.reduceLeDiff, Nat.reduceEqDiff, Nat.reduceAdd, Int.reduceLE, Int.reduceLT, Int.reduceEq, Int.reduceNeg, Int.reduceNe, Nat.reduceSub, reduceIte, implies_true, gt_141, gr_141_0, gt_142, gr_141_1, gt_140, gr_142_1, gt_143, gr_142_2, gt_144]
  refine cN_w (c_advance T K hp) (by omega) (fun _ τ1 h1 => ?_)
  obtain ⟨F1, K1⟩ := h1
  have T1 := T.eq (F1.1 2 (by omega))
  refine cN_p (c_onlyLetter T1 K1 p1) (by omega) ?_
  have base : ∀ {υ : jH} {R : RS} {z : Int}, FTK σ τ1 → CRS τ1 υ t n R z → CRS σ υ t n R z := fun {υ R z} F h => by
    obtain ⟨h1, h2⟩ := h
    refine ⟨.tr (.kp (fun c a _ => F.1 c a) (fun c a b => F.1 c (by omega))) h1, ?_⟩
    rw [F.1 142 (by omega), F.2 6 (by omega) (by omega) (by omega) (by omega), F.2 7 (by omega) (by omega) (by omega) (by omega)] at h2
    exact h2
  unfold rFold
  by_cases a1 : tL t n (tN t n p) = -1
  · rw [if_pos a1, a1]
    refine ⟨fun _ => ?_, fun q => absurd q (by omega)⟩
    refine cN_p (c_fail 1 K1) (by omega) ?_
    exact ⟨Or.inl rfl, base F1 (crs_fail K1 1 (by omega))⟩
  · have lr := tL_r a1
    have d1 := (D.2.1 (tL t n (tN t n p)) lr.1 lr.2.1).2
    rw [if_neg a1]
    refine ⟨fun q => absurd q (by omega), fun _ => ⟨fun _ => ⟨lr.1, by omega, ?_⟩, fun q => absurd q (by omega)⟩⟩
    rw [F1.1 144 (by omega), d1]
    by_cases a2 : ρ (5 + tL t n (tN t n p)) = -1
    · rw [if_pos a2, if_neg (fun x => x a2)]
      refine ⟨fun _ => ?_, fun q => absurd rfl q⟩
      refine cN_w (c_advance T1 K1 p1) (by omega) (fun _ τ2 h2 => ?_)
      obtain ⟨F2, K2⟩ := h2
      have F12 := F1.tr F2
      have T2 := T.eq (F12.1 2 (by omega))
      refine cN_p (c_is (w := 1) (by decide) T2 K2 p2) (by omega) ?_
      have base2 : ∀ {υ υ' : jH} {R : RS} {z : Int}, FTK σ υ' → CRS υ' υ t n R z → CRS σ υ t n R z := fun {υ υ' R z} F h => by
        obtain ⟨h1, h2⟩ := h
        refine ⟨.tr (.kp (fun c a _ => F.1 c a) (fun c a b => F.1 c (by omega))) h1, ?_⟩
        rw [F.1 142 (by omega), F.2 6 (by omega) (by omega) (by omega) (by omega), F.2 7 (by omega) (by omega) (by omega) (by omega)] at h2
        exact h2
      cases a3 : tI t n (tN t n (tN t n p)) (jtb 1) with
      | false =>
        rw [if_pos rfl]
        refine ⟨fun q => absurd rfl q, fun _ => ?_⟩
        refine cN_p (c_fail 1 K2) (by omega) ?_
        exact ⟨Or.inl rfl, base2 F12 (crs_fail K2 1 (by omega))⟩
      | true =>
        rw [if_neg (by decide)]
        refine ⟨fun _ => ?_, fun q => absurd q (by decide)⟩
        refine cN_w (c_advance T2 K2 p2) (by omega) (fun _ τ3 h3 => ?_)
        obtain ⟨F3, K3⟩ := h3
        have F13 := F12.tr F3
        have T3 := T.eq (F13.1 2 (by omega))
        refine cN_p (c_onlyLetter T3 K3 p3) (by omega) ?_
        by_cases a4 : tL t n (tN t n (tN t n (tN t n p))) = -1
        · rw [if_pos a4, a4]
          refine ⟨fun _ => ?_, fun q => absurd q (by omega)⟩
          refine cN_p (c_fail 1 K3) (by omega) ?_
          exact ⟨Or.inl rfl, base2 F13 (crs_fail K3 1 (by omega))⟩
        · have mr := tL_r a4
          rw [if_neg a4]
          refine ⟨fun q => absurd q (by omega), fun _ => ⟨fun _ => ?_, fun q => absurd q (by omega)⟩⟩
          refine cN_w (c_advance T3 K3 p3) (by omega) (fun _ τ4 h4 => ?_)
          obtain ⟨F4, K4⟩ := h4
          have F14 := F13.tr F4
          have D4 : DRC τ4 ρ ho := D.eq (fun c a b => F14.1 c (by omega))
          have w8e : ∀ x : Int, 0 ≤ x → x < 26 → w8 x = x := fun x a b => by
            unfold w8
            omega
          rw [w8e _ mr.1 mr.2.1, w8e _ mr.1 mr.2.1, show w8 1 = 1 by decide, ju_row (a := 144) (c := 142) (by omega), ju_row (a := 143) (c := 142) (by omega), D4.1.2.2.1]
          have fr : 0 ≤ fcnt ρ 26 ∧ fcnt ρ 26 ≤ 26 := fcnt_r ρ 26
          rw [w32_of (x := fcnt ρ 26 + 1) (by omega) (by omega)]
          refine ⟨lr.1, by omega, lr.1, by omega, ?_⟩
          generalize hl : tL t n (tN t n p) = x at *
          generalize hm : tL t n (tN t n (tN t n (tN t n p))) = y at *
          generalize hχ : ju (ju (ju τ4 143 x y) 144 x 1) 142 3 (fcnt ρ 26 + 1) = χ
          have xr : ∀ c, c ≠ 142 → c ≠ 143 → c ≠ 144 → χ c = τ4 c := fun c a b e => by rw [← hχ, ju_row a, ju_row e, ju_row b]
          have x142 : ∀ j, j ≠ 3 → χ 142 j = τ4 142 j := fun j hj => by rw [← hχ, ju_ne2 hj, ju_row (by omega), ju_row (by omega)]
          have x143 : ∀ j, χ 143 j = if j = x then y else τ4 143 j := fun j => by
            rw [← hχ, ju_row (by omega), ju_row (by omega)]
            by_cases g : j = x
            · rw [if_pos g, g, ju_self]
            · rw [if_neg g, ju_ne2 g]
          have x144 : ∀ j, χ 144 j = if j = x then 1 else τ4 144 j := fun j => by
            rw [← hχ, ju_row (by omega)]
            by_cases g : j = x
            · rw [if_pos g, g, ju_self]
            · rw [if_neg g, ju_ne2 g, ju_row (by omega)]
          obtain ⟨⟨e1, e2, e3, e4⟩, e5, e6, e7, e8⟩ := D4
          obtain ⟨⟨o1, o2, o3, o4, o5⟩, o6⟩ := O
          have u : ∀ a, a < 5 ∨ 31 ≤ a → up ρ (5 + x) y a = ρ a := fun a h => up_ne (by omega)
          refine ⟨.kp (fun c a b => by rw [xr c (by omega) (by omega) (by omega), F14.1 c a]) (fun c a b => by rw [xr c (by omega) (by omega) (by omega), F14.1 c (by omega)]), Or.inl ⟨rfl, rfl, p4, K4.eq (xr 140 (by omega) (by omega) (by omega)), ⟨⟨?_, ?_, ?_, ?_⟩, fun j j0 j1 => ⟨?_, ?_⟩, fun j j0 j1 => ?_, fun s s0 s1 => ?_, fun r r0 r1 => ?_⟩, ?_, ?_, ?_⟩⟩
          · show χ 142 5 = up ρ (5 + x) y 1
            rw [x142 5 (by omega), u 1 (by omega)]
            exact e1
          · show χ 142 7 = up ρ (5 + x) y 2
            rw [x142 7 (by omega), u 2 (by omega)]
            exact e2
          · show χ 142 3 = fcnt (up ρ (5 + x) y) 26
            rw [fcnt_up lr.1 a2 (by omega), if_pos (by omega), ← hχ, ju_self]
          · rw [x142 11 (by omega)]
            exact e4
          · show χ 143 j = fo (up ρ (5 + x) y) j
            unfold fo
            rw [x143]
            by_cases g : j = x
            · rw [if_pos g, g, up_self, if_neg (by omega)]
            · rw [if_neg g, up_ne (by omega)]
              exact (e5 j j0 j1).1
          · show χ 144 j = if up ρ (5 + x) y (5 + j) = -1 then 0 else 1
            rw [x144]
            by_cases g : j = x
            · rw [if_pos g, g, up_self, if_neg (by omega)]
            · rw [if_neg g, up_ne (by omega)]
              exact (e5 j j0 j1).2
          · show χ 155 j = up ρ (5 + x) y (31 + j)
            rw [xr 155 (by omega) (by omega) (by omega), u _ (by omega)]
            exact e6 j j0 j1
          · have s1' : s < up ρ (5 + x) y 1 := s1
            rw [u 1 (by omega)] at s1'
            show KKV χ 145 s (rk (up ρ (5 + x) y) (57 + 21 * s))
            rw [(rk_up (by omega) (o4 s s0 s1').1).2.1]
            unfold KKV
            rw [xr _ (by omega) (by omega) (by omega), xr _ (by omega) (by omega) (by omega)]
            exact e7 s s0 s1'
          · have r1' : r < up ρ (5 + x) y 2 := r1
            rw [u 2 (by omega)] at r1'
            obtain ⟨g1, g2, g3⟩ := e8 r r0 r1'
            obtain ⟨v1, v2⟩ := o5 r r0 r1'
            show χ 154 r = up ρ (5 + x) y (477 + 106 * r) - 1 ∧ KKV χ 148 r (rk (up ρ (5 + x) y) (478 + 106 * r)) ∧ ∀ i, 0 ≤ i → i < up ρ (5 + x) y (477 + 106 * r) - 1 → KKV χ 151 (4 * r + i) (rk (up ρ (5 + x) y) (478 + 106 * r + 21 * (i + 1)))
            rw [u _ (by omega)]
            have w0 := v2 0 (by omega) (by omega)
            rw [show 478 + 106 * r + 21 * 0 = 478 + 106 * r by omega] at w0
            rw [(rk_up (by omega) w0.1).2.1]
            unfold KKV
            refine ⟨by rw [xr _ (by omega) (by omega) (by omega)]; exact g1, by rw [xr _ (by omega) (by omega) (by omega), xr _ (by omega) (by omega) (by omega)]; exact g2, fun i i0 i1 => ?_⟩
            have w1 := v2 (i + 1) (by omega) (by omega)
            rw [(rk_up (by omega) w1.1).2.1, xr _ (by omega) (by omega) (by omega), xr _ (by omega) (by omega) (by omega)]
            exact g3 i i0 i1
          · rw [x142 0 (by omega), F14.1 142 (by omega)]
          · rw [xr 140 (by omega) (by omega) (by omega), F14.2 6 (by omega) (by omega) (by omega) (by omega)]
          · rw [xr 140 (by omega) (by omega) (by omega), F14.2 7 (by omega) (by omega) (by omega) (by omega)]
    · rw [if_neg a2, if_pos a2]
      refine ⟨fun q => absurd q (by omega), fun _ => ?_⟩
      refine cN_p (c_fail 2 K1) (by omega) ?_
      exact ⟨Or.inl rfl, base F1 (crs_fail K1 2 (by omega))⟩
end R1
