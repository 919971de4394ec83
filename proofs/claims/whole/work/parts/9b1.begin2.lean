/-! Words begun: the class -/
def BGC (σ : jH) (F N : Int) : Prop := σ 1 16 = F ∧ σ 1 17 = N ∧ (0 ≤ F ∧ F ≤ 600) ∧ 0 ≤ N ∧ N ≤ 600
def BGP (σ τ : jH) (ω : Int → Int) (n : Int) (t : Int → Int) (z : Int) : Prop := z = bgN ω t n ∧ BGC τ (bgF ω t n) (bgN ω t n) ∧ CFR τ ω ∧ (∀ c, (c < 97 ∨ 134 < c) → c ≠ 1 → c ≠ 179 → τ c = σ c) ∧ τ 1 1 = 0 ∧ ∀ j, j ≠ 1 → j ≠ 16 → j ≠ 17 → τ 1 j = σ 1 j
section BG
variable {l : Launch} {d : Nat} {ω t : Int → Int} {σ : jH} {n : Int}
theorem c_firstBits {x : Int} {a : Nat} (ha : a ≤ 10) (hx : max 0 (min 10 x) = a) (σ : jH) : Cw 10 m_Key_firstBits [vI x] σ (fun z τ => z = fbM a ∧ τ = σ) := by
  refine Cw_of o_Key_firstBits rfl fun l d hd => jwp_sound t_Key_firstBits _ (b_Key_firstBits_0 ?_)
  rw [hx, fb_of a ha]
  exact ⟨by omega, by omega, rfl, rfl, rfl⟩
theorem c_beginsWith {K f : Int} {m : Nat} (H : CDR σ ω) (k : KF σ 179 K m) (hm : m ≤ 20) (k0 : 0 ≤ K ∧ K < 1267650600228229401496703205376) (hd : dv32 K (20 - m)) (f0 : 0 ≤ f) (f1 : f < dn ω) : Cw 11 m_Book_beginsWith [vR 97, vI f, vR 179] σ (fun z τ => z = (if K ≤ dF ω f ∧ dF ω f < K + 32 ^ (20 - m) then 1 else 0) ∧ τ = σ) := by
  obtain ⟨k1, k2, k3⟩ := k
  have N := H.n
  obtain ⟨⟨v1, v2⟩, r1, r2⟩ := H.2.2.2.1 f f0 f1
  rw [show (98 : Int) + 1 = 99 by omega] at v1
  rw [show (98 : Int) + 2 = 100 by omega] at v2
  have px := pfx_iff (F := dF ω f) hm r1 r2 k0.1 k0.2 hd
  have e1 : max 0 (min 10 (m : Int)) = ((pfa m : Nat) : Int) := by
    unfold pfa
    split <;> omega
  have e2 : max 0 (min 10 ((m : Int) - 10)) = ((pfb m : Nat) : Int) := by
    unfold pfb
    omega
  have p1 : pfa m ≤ 10 := by
    unfold pfa
    split <;> omega
  have p2 : pfb m ≤ 10 := by
    unfold pfb
    omega
  refine Cw_of o_Book_beginsWith rfl fun l d hd => jwp_sound t_Book_beginsWith _ (b_Book_beginsWith_0 ?_)
  simp only [RW, true_and, and_true, and_self, true_or, or_true, Nat.reduceLeDiff, Nat.reduceEqDiff, Nat.reduceAdd, Int.reduceLE, Int.reduceLT, Int.reduceEq, Int.reduceNeg, Int.reduceNe, Nat.reduceSub, reduceIte, implies_true, gt_97, gr_97_2, gt_98, gr_98_0, gt_99, gr_98_1, gt_100, gt_97, gr_97_2, gr_97_3, gr_97_4, gr_97_5, gr_97_6, gt_98, gr_98_0, gr_98_1, gt_99, gt_100, gt_179]
  refine cN_p (c_Book_has N.2.2 (by omega) f) (by omega) ?_
  rw [if_pos (show 0 ≤ f ∧ f < dn ω from ⟨f0, f1⟩), k3]
  refine ⟨fun _ => ?_, fun x => by omega⟩
  refine cN_p (c_firstBits p1 e1 _) (by omega) ?_
  rw [k3, w32_of (x := (m : Int) - 10) (by omega) (by omega)]
  refine cN_p (c_firstBits p2 e2 _) (by omega) ?_
  rw [v1, v2, k1, k2, jand_fb (by omega) (by omega) p1, jand_fb (by omega) (by omega) p2]
  simp only [jcmp_0, jcmp_n0]
  refine ⟨f0, by omega, fun q => ?_, fun q => ⟨f0, by omega, fun q2 => ?_, fun q2 => ?_⟩⟩
  · rw [if_neg (fun x => q (px.mpr x).1)]
    exact ⟨rfl, trivial⟩
  · rw [if_neg (fun x => q2 (px.mpr x).2)]
    exact ⟨rfl, trivial⟩
  · rw [if_pos (px.mp ⟨q, q2⟩)]
    exact ⟨rfl, trivial⟩
theorem l_bg_79 {K : Int} {m : Nat} {χ : jH} {a b : Int} (hd : 16 ≤ d) (H : CDR χ ω) (k : KF χ 179 K m) (hm : m ≤ 20) (k0 : 0 ≤ K ∧ K < 1267650600228229401496703205376) (hv : dv32 K (20 - m)) (B : BGR0 ω K (32 ^ (20 - m)) a b) : ∀ (j i : Nat) (υ : jH), a + i + j = b → (∀ c, c ≠ 1 → υ c = χ c) → (∀ x, x ≠ 17 → υ 1 x = χ 1 x) → υ 1 16 = a → υ 1 17 = i →
    Ev (l, (fun _ => 0), 0) d 0 0 m_WordPlaces_begins (RW fun z τ => z = b - a ∧ (∀ c, c ≠ 1 → τ c = χ c) ∧ (∀ x, x ≠ 17 → τ 1 x = χ 1 x) ∧ τ 1 17 = b - a) 79 [some (vR 1), none, some (vR 97), none] [] gW υ 0 0 := by
  have N := H.n
  obtain ⟨⟨b1, b2, b3⟩, b4, b5, b6⟩ := B
  intro j
  induction j with
  | zero =>
    intro i υ hj F F1 h16 h17
    refine jwp_sound t_WordPlaces_begins _ (b_WordPlaces_begins_79 ?_)
    simp only [RW, true_and, and_true, and_self, true_or, or_true, Nat.reduceLeDiff, Nat.reduceEqDiff, Nat.reduceAdd, Int.reduceLE, Int.reduceLT, Int.reduceEq, Int.reduceNeg, Int.reduceNe, Nat.reduceSub, reduceIte, implies_true, gt_1, gr_1_10, gt_179, gt_97]
    rw [h16, h17, F 97 (by omega), N.2.2, w32_of (x := a + (i : Int)) (by omega) (by omega)]
    have e : (i : Int) = b - a := by omega
    refine ⟨fun _ => ⟨e, F, F1, e⟩, fun q => ?_⟩
    have Hυ : CDR υ ω := CDR_eq (fun c a b => F c (by omega)) H
    refine cN_p (c_beginsWith (K := K) (m := m) Hυ ⟨by rw [F 179 (by omega)]; exact k.1, by rw [F 179 (by omega)]; exact k.2.1, by rw [F 179 (by omega)]; exact k.2.2⟩ hm k0 hv (by omega) q) (by omega) ?_
    have := b6 (a + i) (by omega) q
    rw [if_neg (by omega), h17]
    exact ⟨fun _ => ⟨e, F, F1, e⟩, fun x => absurd rfl x⟩
  | succ j ih =>
    intro i υ hj F F1 h16 h17
    refine jwp_sound t_WordPlaces_begins _ (b_WordPlaces_begins_79 ?_)
    simp only [RW, true_and, and_true, and_self, true_or, or_true, Nat.reduceLeDiff, Nat.reduceEqDiff, Nat.reduceAdd, Int.reduceLE, Int.reduceLT, Int.reduceEq, Int.reduceNeg, Int.reduceNe, Nat.reduceSub, reduceIte, implies_true, gt_1, gr_1_10, gt_179, gt_97]
    rw [h16, h17, F 97 (by omega), N.2.2, w32_of (x := a + (i : Int)) (by omega) (by omega)]
    refine ⟨fun q => absurd q (by omega), fun q => ?_⟩
    have Hυ : CDR υ ω := CDR_eq (fun c a b => F c (by omega)) H
    refine cN_p (c_beginsWith (K := K) (m := m) Hυ ⟨by rw [F 179 (by omega)]; exact k.1, by rw [F 179 (by omega)]; exact k.2.1, by rw [F 179 (by omega)]; exact k.2.2⟩ hm k0 hv (by omega) q) (by omega) ?_
    have := b5 (a + i) (by omega) (by omega)
    rw [if_pos this, h17, w32_of (x := (i : Int) + 1) (by omega) (by omega)]
    refine ⟨fun x => absurd x (by omega), fun _ => ?_⟩
    exact ih (i + 1) _ (by omega) (fun c hc => by rw [ju_row hc, F c hc]) (fun x hx => by rw [ju_ne2 hx, F1 x hx]) (by rw [ju_ne2 (by omega), h16]) (by rw [ju_self]; omega)
theorem c_begins (C : CFR σ ω) (T : TPC σ n t) : Cw 16 m_WordPlaces_begins [vR 1] σ (fun z τ => BGP σ τ ω n t z) := by
  have T2 := T.2.1
  refine Cw_of o_WordPlaces_begins rfl fun l d hd => jwp_sound t_WordPlaces_begins _ (b_WordPlaces_begins_0 ?_)
  simp only [RW, true_and, and_true, and_self, true_or, or_true, Nat.reduceLeDiff, Nat.reduceEqDiff, Nat.reduceAdd, Int.reduceLE, Int.reduceLT, Int.reduceEq, Int.reduceNeg, Int.reduceNe, Nat.reduceSub, reduceIte, implies_true, gt_1, gr_1_10, gt_179]
  refine cN_p (c_takeTape T) (by omega) ?_
  have C1 : CFR (ju σ 1 1 0) ω := C.of1 (fun c a b => ju_row (by omega))
  refine cN_w (c_freshBook C1) (by omega) (fun z τ h => ?_)
  obtain ⟨rfl, h⟩ := h
  have C2 := C1.of h.1
  have N := h.2.2.n
  have Tτ : ∀ j, 0 ≤ j → j < n → τ 2 j = t j := fun j a b => by rw [h.1.1 2 (by omega), ju_row (by omega)]; exact T.2.2 j a b
  refine cN_w (c_readFolded (t := t) C.1 C2.2.1 Tτ T2.2 (by omega) T2.1) (by omega) (fun _ υ hυ => ?_)
  obtain ⟨k, F⟩ := hυ
  rw [Int.sub_zero] at k
  generalize hχ : ju (ju υ 1 16 0) 1 17 0 = χ
  have Fχ : ∀ c, c ≠ 1 → c ≠ 179 → χ c = τ c := fun c a b => by rw [← hχ, ju_row a, ju_row a, F c b]
  have F1 : ∀ j, j ≠ 16 → j ≠ 17 → χ 1 j = τ 1 j := fun j a b => by rw [← hχ, ju_ne2 b, ju_ne2 a, F 1 (by omega)]
  have e179 : χ 179 = υ 179 := by rw [← hχ, ju_row (by omega), ju_row (by omega)]
  have kχ : KF χ 179 (bgK ω t n) (tky t 0 n.toNat).2 := by
    unfold KF
    rw [e179]
    exact k
  have Cχ : CFR χ ω := by
    refine ⟨C.1, IML_eq (fun c a b => Fχ c (by omega) (by omega)) C2.2.1, fun _ => CDR_eq (fun c a b => Fχ c (by omega) (by omega)) h.2.2⟩
  have Hχ : CDR χ ω := CDR_eq (fun c a b => Fχ c (by omega) (by omega)) h.2.2
  have z16 : χ 1 16 = 0 := by rw [← hχ, ju_ne2 (by omega), ju_self]
  have z17 : χ 1 17 = 0 := by rw [← hχ, ju_self]
  have fr : ∀ υ : jH, (∀ c, c ≠ 1 → υ c = χ c) → ∀ c, (c < 97 ∨ 134 < c) → c ≠ 1 → c ≠ 179 → υ c = σ c := fun υ g c a b b2 => by rw [g c b, Fχ c b b2, h.1.1 c a, ju_row b]
  have fr1 : ∀ j, j ≠ 1 → j ≠ 16 → j ≠ 17 → χ 1 j = σ 1 j := fun j a b c => by rw [F1 j b c, h.1.1 1 (by omega), ju_ne2 a]
  have z1 : χ 1 1 = 0 := by rw [F1 1 (by omega) (by omega), h.1.1 1 (by omega), ju_self]
  refine cN_p (c_lettersOnTape (t := t) (n := n) (fun j a b => by rw [Fχ 2 (by omega) (by omega)]; exact Tτ j a b) T2) (by omega) ?_
  refine ⟨fun q => ?_, fun q => ?_⟩
  · have ok := tky_ok t 0 n.toNat
    have kr : 0 ≤ bgK ω t n ∧ bgK ω t n < 1267650600228229401496703205376 := km_r C.1.2.2.1 _
    have kv : dv32 (bgK ω t n) (20 - (tky t 0 n.toNat).2) := km_dv ok.1 ok.2.2.2
    have hM : 0 < (32 : Int) ^ (20 - (tky t 0 n.toNat).2) := p32 _
    have B := bg_is (K := bgK ω t n) (M := 32 ^ (20 - (tky t 0 n.toNat).2)) Hχ.1 hM
    simp only [RW, true_and, and_true, and_self, true_or, or_true, Nat.reduceLeDiff, Nat.reduceEqDiff, Nat.reduceAdd, Int.reduceLE, Int.reduceLT, Int.reduceEq, Int.reduceNeg, Int.reduceNe, Nat.reduceSub, reduceIte, implies_true, gt_97, gr_97_2, gt_98]
    rw [Hχ.n.2.2, kχ.1, kχ.2.1]
    refine cN_find Hχ kr (by omega) (fun z hz => ?_)
    have eN : bgN ω t n = bgA ω (bgK ω t n + 32 ^ (20 - (tky t 0 n.toNat).2)) - bgA ω (bgK ω t n) := if_pos q
    have eF : bgF ω t n = bgA ω (bgK ω t n) := if_pos q
    obtain ⟨⟨b1, b2, b3⟩, b4, b5, b6⟩ := B
    have go : ∀ x : Int, x = bgA ω (bgK ω t n) → Ev (l, (fun _ => 0), 0) d 0 0 m_WordPlaces_begins (RW fun z τ => BGP σ τ ω n t z) 79 [some (vR 1), none, some (vR 97), none] [] gW (ju χ 1 16 x) 0 0 := fun x hx => by
      have r2 : ∀ c, c ≠ 1 → ju χ 1 16 x c = χ c := fun c hc => ju_row hc
      have Hx : CDR (ju χ 1 16 x) ω := CDR_eq (fun c a b => r2 c (by omega)) Hχ
      have kx : KF (ju χ 1 16 x) 179 (bgK ω t n) (tky t 0 n.toNat).2 := by
        unfold KF
        rw [r2 179 (by omega)]
        exact kχ
      have ev := l_bg_79 (l := l) hd Hx kx ok.1 kr kv ⟨⟨b1, b2, b3⟩, b4, b5, b6⟩ (bgA ω (bgK ω t n + 32 ^ (20 - (tky t 0 n.toNat).2)) - bgA ω (bgK ω t n)).toNat 0 (ju χ 1 16 x) (by omega) (fun _ _ => rfl) (fun _ _ => rfl) (by rw [ju_self, hx]) (by rw [ju_ne2 (by omega), z17]; rfl)
      refine Ev_post ev (fun z υ hz => ?_)
      obtain ⟨h1, h2, h3, h4⟩ := hz
      have g2 : ∀ c, c ≠ 1 → υ c = χ c := fun c hc => by rw [h2 c hc, r2 c hc]
      refine ⟨by rw [eN]; exact h1, ⟨by rw [h3 16 (by omega), ju_self, eF, hx], by rw [h4, eN], by rw [eF]; omega, by rw [eN]; omega⟩, Cχ.of1 (fun c a b => g2 c (by omega)), fr υ g2, by rw [h3 1 (by omega), ju_ne2 (by omega)]; exact z1, fun j a b c => by rw [h3 j c, ju_ne2 b]; exact fr1 j a b c⟩
    rcases hz with ⟨u0, u1, u2⟩ | ⟨u0, u1, u2, u3⟩
    · refine ⟨fun x => absurd x (by omega), fun _ => go z ?_⟩
      by_cases y : z < bgA ω (bgK ω t n)
      · have := b4 z u0 y
        omega
      · by_cases w : bgA ω (bgK ω t n) < z
        · have c1 := Hχ.1.2.1 (bgA ω (bgK ω t n)) z b1 w u1
          have c2 : dF ω (bgA ω (bgK ω t n)) < dF ω z := c1
          by_cases w2 : bgA ω (bgK ω t n) < bgA ω (bgK ω t n + 32 ^ (20 - (tky t 0 n.toNat).2))
          · have := (b5 (bgA ω (bgK ω t n)) (Int.le_refl _) w2).1
            omega
          · have := b6 (bgA ω (bgK ω t n)) (by omega) (by omega)
            omega
        · omega
    · rw [w32_of (x := -1 - z) (by omega) (by omega)]
      refine ⟨fun _ => go (-1 - z) ?_, fun x => absurd x (by omega)⟩
      by_cases y : -1 - z < bgA ω (bgK ω t n)
      · have c1 := b4 (-1 - z) (by omega) y
        have c2 := u3 (-1 - z) (Int.le_refl _) (by omega)
        omega
      · by_cases w : bgA ω (bgK ω t n) < -1 - z
        · have c1 := u2 (bgA ω (bgK ω t n)) b1 w
          by_cases w2 : bgA ω (bgK ω t n) < bgA ω (bgK ω t n + 32 ^ (20 - (tky t 0 n.toNat).2))
          · have := (b5 (bgA ω (bgK ω t n)) (Int.le_refl _) w2).1
            omega
          · have := b6 (bgA ω (bgK ω t n)) (by omega) (by omega)
            omega
        · omega
  · have eN : bgN ω t n = 0 := if_neg (by omega)
    have eF : bgF ω t n = 0 := if_neg (by omega)
    exact ⟨eN.symm, ⟨by rw [z16, eF], by rw [z17, eN], by omega, by omega⟩, Cχ, fr χ (fun _ _ => rfl), z1, fr1⟩
def s_begun (F N i : Int) : Int := if 0 ≤ i ∧ i < N then F + i else -1
theorem c_begun {F N : Int} (B : BGC σ F N) (i : Int) : Cw 10 m_WordPlaces_begun [vR 1, vI i] σ (fun z τ => z = s_begun F N i ∧ τ = σ) := by
  obtain ⟨b1, b2, b3, b4⟩ := B
  refine Cw_of o_WordPlaces_begun rfl fun l d hd => jwp_sound t_WordPlaces_begun _ (b_WordPlaces_begun_0 ?_)
  simp only [RW, true_and, and_true, and_self, true_or, or_true, Nat.reduceLeDiff, Nat.reduceEqDiff, Nat.reduceAdd, Int.reduceLE, Int.reduceLT, Int.reduceEq, Int.reduceNeg, Int.reduceNe, Nat.reduceSub, reduceIte, implies_true, gt_1]
  rw [b1, b2]
  unfold s_begun
  refine ⟨fun q => by rw [if_neg (by omega)], fun q => ⟨fun q2 => by rw [if_neg (by omega)], fun q2 => ?_⟩⟩
  rw [if_pos ⟨q, q2⟩, w32_of (by omega) (by omega)]
end BG
