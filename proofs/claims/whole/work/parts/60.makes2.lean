/-! The reference: forms by the order; makes -/
def rnk (ω : Int → Int) (l : Int) : Int := ω (31 + l)
def RKO (ω : Int → Int) : Prop := okρ (rnk ω) ∧ ∀ a b, 0 ≤ a → a < 26 → 0 ≤ b → b < 26 → rnk ω a = rnk ω b → a = b
theorem rh_inj {g g' : Int → Int} : ∀ {m : Nat}, (∀ j : Int, 0 ≤ j → j < m → 0 ≤ g j ∧ g j < 32) → (∀ j : Int, 0 ≤ j → j < m → 0 ≤ g' j ∧ g' j < 32) → rh g m = rh g' m → ∀ j : Int, 0 ≤ j → j < m → g j = g' j
  | 0, _, _, _, j, h0, h1 => by omega
  | m + 1, h, h', he, j, h0, h1 => by
    have a := h m (by omega) (by omega)
    have b := h' m (by omega) (by omega)
    have he2 : rh g m * 32 + g m = rh g' m * 32 + g' m := he
    by_cases hj : j = m
    · rw [hj]
      omega
    · exact rh_inj (m := m) (fun j a b => h j a (by omega)) (fun j a b => h' j a (by omega)) (by omega) j h0 (by omega)
theorem mp_inj {ρ : Int → Int} (h : okρ ρ) (hi : ∀ a b, 0 ≤ a → a < 26 → 0 ≤ b → b < 26 → ρ a = ρ b → a = b) {d d' : Int} (h0 : 0 ≤ d) (h1 : d ≤ 26) (h2 : 0 ≤ d') (h3 : d' ≤ 26) (he : mp ρ d = mp ρ d') : d = d' := by
  unfold mp at he
  by_cases q : 1 ≤ d ∧ d ≤ 26
  · have a := h (d - 1) (by omega) (by omega)
    rw [if_pos q] at he
    by_cases q' : 1 ≤ d' ∧ d' ≤ 26
    · rw [if_pos q'] at he
      have := hi (d - 1) (d' - 1) (by omega) (by omega) (by omega) (by omega) (by omega)
      omega
    · rw [if_neg q'] at he
      omega
  · rw [if_neg q] at he
    by_cases q' : 1 ≤ d' ∧ d' ≤ 26
    · have a := h (d' - 1) (by omega) (by omega)
      rw [if_pos q'] at he
      omega
    · omega
theorem km_inj {ρ f f' : Int → Int} {a b : Int} (h : okρ ρ) (hi : ∀ a b, 0 ≤ a → a < 26 → 0 ≤ b → b < 26 → ρ a = ρ b → a = b) (V : RV f a) (V' : RV f' b) (he : km ρ (rk f a) = km ρ (rk f' b)) : rk f a = rk f' b := by
  rw [km_rk V, km_rk V'] at he
  unfold rk
  apply rh_eq
  intro j h0 h1
  have e := rh_inj (m := 20) (fun j _ _ => by have := mp_r h (dgr f a j); omega) (fun j _ _ => by have := mp_r h (dgr f' b j); omega) he j h0 h1
  have r := dgr_r V j h0
  have r' := dgr_r V' j h0
  exact mp_inj h hi r.1 r.2 r'.1 r'.2 e
def oky (ω : Int → Int) (τ : jH) (f : Int) : Int := km (rnk ω) (rk (τ 198) (21 * f))
/-- the first n forms by the order -/
def ORD (ω : Int → Int) (τ : jH) (n : Int) : Prop := (∀ i, 0 ≤ i → i < n → 0 ≤ τ 199 i ∧ τ 199 i < n) ∧ (∀ i j, 0 ≤ i → i < j → j < n → oky ω τ (τ 199 i) < oky ω τ (τ 199 j)) ∧ ∀ g, 0 ≤ g → g < n → ∃ i, 0 ≤ i ∧ i < n ∧ τ 199 i = g
def OIN (ω : Int → Int) (τ υ : jH) (f k : Int) : Prop := (∀ i, 0 ≤ i → i < k → υ 199 i = τ 199 i) ∧ (∀ i, k < i → i ≤ f → υ 199 i = τ 199 (i - 1)) ∧ (∀ i, k ≤ i → i < f → oky ω τ f < oky ω τ (τ 199 i)) ∧ ∀ c, c ≠ 199 → υ c = τ c
theorem ord_in {ω : Int → Int} {τ υ : jH} {f k : Int} (O : ORD ω τ f) (I : OIN ω τ υ f k) (k0 : 0 ≤ k) (k1 : k ≤ f) (hl : ∀ i, 0 ≤ i → i < k → oky ω τ (τ 199 i) < oky ω τ f) : ORD ω (ju υ 199 k f) (f + 1) := by
  obtain ⟨O1, O2, O3⟩ := O
  obtain ⟨I1, I2, I3, I4⟩ := I
  have new : ∀ i, 0 ≤ i → i ≤ f → ju υ 199 k f 199 i = if i < k then τ 199 i else if i = k then f else τ 199 (i - 1) := by
    intro i i0 i1
    by_cases h1 : i < k
    · rw [if_pos h1, ju_ne2 (by omega), I1 i i0 h1]
    · rw [if_neg h1]
      by_cases h2 : i = k
      · rw [if_pos h2, h2, ju_self]
      · rw [if_neg h2, ju_ne2 h2, I2 i (by omega) i1]
  have e198 : ju υ 199 k f 198 = τ 198 := by rw [ju_row (by omega), I4 198 (by omega)]
  have ok : ∀ g, oky ω (ju υ 199 k f) g = oky ω τ g := fun g => by unfold oky; rw [e198]
  refine ⟨fun i i0 i1 => ?_, fun i j i0 i1 i2 => ?_, fun g g0 g1 => ?_⟩
  · rw [new i i0 (by omega)]
    split
    · have := O1 i i0 (by omega)
      omega
    · split
      · omega
      · have := O1 (i - 1) (by omega) (by omega)
        omega
  · rw [ok, ok, new i i0 (by omega), new j (by omega) (by omega)]
    split
    · split
      · exact O2 i j i0 i1 (by omega)
      · split
        · exact hl i i0 (by omega)
        · by_cases h : i = j - 1
          · omega
          · exact O2 i (j - 1) i0 (by omega) (by omega)
    · rw [if_neg (by omega : ¬ j < k), if_neg (by omega : ¬ j = k)]
      split
      · exact I3 (j - 1) (by omega) (by omega)
      · exact O2 (i - 1) (j - 1) (by omega) (by omega) (by omega)
  · by_cases hg : g = f
    · exact ⟨k, k0, by omega, by rw [new k k0 k1, if_neg (by omega), if_pos rfl, hg]⟩
    · obtain ⟨i, i0, i1, i2⟩ := O3 g g0 (by omega)
      by_cases h : i < k
      · exact ⟨i, i0, by omega, by rw [new i i0 (by omega), if_pos h, i2]⟩
      · exact ⟨i + 1, by omega, by omega, by rw [new (i + 1) (by omega) (by omega), if_neg (by omega), if_neg (by omega), show i + 1 - 1 = i by omega, i2]⟩
section ML
variable {l : Launch} {d : Nat} {σ : jH} {RT : Int → jG → jH → Prop}
theorem l_mk_128 {n f : Int} {τ : jH} (hd : 15 ≤ d) (hR : RKO (σ 190)) (X : MK2 σ τ n) (O : ORD (σ 190) τ f) (f0 : 0 ≤ f) (f1 : f < n)
    (H : ∀ υ, (∀ c, c ≠ 199 → υ c = τ c) → ORD (σ 190) υ (f + 1) → Ev (l, (fun _ => 0), 0) d 0 0 m_Model_makes RT 118 [some (vR 189), some (vI (f + 1)), none] [] gW υ 0 0) : ∀ (k : Nat) (υ : jH), (k : Int) ≤ f → OIN (σ 190) τ υ f k →
    Ev (l, (fun _ => 0), 0) d 0 0 m_Model_makes RT 128 [some (vR 189), some (vI f), some (vI k)] [] gW υ 0 0
  | 0, υ, hk, I => by
    have n1 := X.2.2.1.2.1
    refine jwp_sound t_Model_makes _ (b_Model_makes_128 ?_)
    simp only [RW, true_and, and_true, and_self, true_or, or_true, Nat.reduceLeDiff, Nat.reduceEqDiff, Nat.reduceAdd, Int.reduceLE, Int.reduceLT, Int.reduceEq, Int.reduceNeg, Int.reduceNe, Nat.reduceSub, reduceIte, implies_true, gt_189, gr_189_1, gt_190, gr_189_11, gt_199, gr_189_4, gt_193, gr_189_5, gt_194, gr_189_8, gt_197, gr_189_9, gt_198]
    rw [w32_of (x := f + 1) (by omega) (by omega)]
    exact ⟨fun _ => ⟨by omega, by omega, H _ (fun c hc => by rw [ju_row hc, I.2.2.2 c hc]) (ord_in O I (by omega) hk (fun i i0 i1 => absurd i1 (by omega)))⟩, fun q => absurd q (by omega)⟩
  | k + 1, υ, hk, I => by
    have I' := I
    obtain ⟨I1, I2, I3, I4⟩ := I'
    obtain ⟨X1, X2, X3, X4⟩ := X
    have X3' := X3
    obtain ⟨n0, n1, n2, F1, F2⟩ := X3'
    have eω : υ 190 = σ 190 := by rw [I4 190 (by omega), X2.1 190 (by omega) (by omega)]
    have e1 : υ 199 (((k + 1 : Nat) : Int) - 1) = τ 199 k := by
      rw [show ((k + 1 : Nat) : Int) - 1 = k by omega]
      exact I1 k (by omega) (by omega)
    obtain ⟨g0, g1⟩ := O.1 k (by omega) (by omega)
    refine jwp_sound t_Model_makes _ (b_Model_makes_128 ?_)
    simp only [RW, true_and, and_true, and_self, true_or, or_true, Nat.reduceLeDiff, Nat.reduceEqDiff, Nat.reduceAdd, Int.reduceLE, Int.reduceLT, Int.reduceEq, Int.reduceNeg, Int.reduceNe, Nat.reduceSub, reduceIte, implies_true, gt_189, gr_189_1, gt_190, gr_189_11, gt_199, gr_189_4, gt_193, gr_189_5, gt_194, gr_189_8, gt_197, gr_189_9, gt_198]
    rw [w32_of (x := f + 1) (by omega) (by omega), w32_of (x := ((k + 1 : Nat) : Int) - 1) (by omega) (by omega), e1, w32_of (x := 21 * f) (by omega) (by omega), w32_of (x := 21 * τ 199 k) (by omega) (by omega), w32_of (x := ((k + 1 : Nat) : Int) + -1) (by omega) (by omega)]
    refine ⟨fun q => absurd q (by omega), fun _ => ⟨by omega, by omega, ?_⟩⟩
    have V1 : RV (υ 198) (21 * f) := by rw [I4 198 (by omega)]; exact F1 f f0 f1
    have V2 : RV (υ 198) (21 * τ 199 k) := by rw [I4 198 (by omega)]; exact F1 _ g0 (by omega)
    refine cN_w (c_Model_compare (A := 198) (B := 198) (R := 190) (o := 31) υ gt_198 gt_198 gt_190 V1 V2 hR.1 (fun x x0 x1 => by rw [eω]; rfl) (by omega) (by omega) (by omega) (by omega) (by omega) (by omega) (by omega) (by omega) (by omega)) (by omega) (fun z τ' hz => ?_)
    obtain ⟨⟨z1, z2⟩, rfl⟩ := hz
    rw [I4 198 (by omega)] at z1 z2
    have hne : oky (σ 190) τ f ≠ oky (σ 190) τ (τ 199 k) := by
      intro q
      have q2 := km_inj hR.1 hR.2 (F1 f f0 f1) (F1 _ g0 (by omega)) q
      by_cases q3 : f < τ 199 k
      · omega
      · by_cases q4 : τ 199 k < f
        · have := F2 (τ 199 k) f g0 q4 f1
          omega
        · omega
    have z1' : z < 0 ↔ oky (σ 190) τ f < oky (σ 190) τ (τ 199 k) := z1
    have z2' : z = 0 ↔ oky (σ 190) τ f = oky (σ 190) τ (τ 199 k) := z2
    refine ⟨fun q => ⟨by omega, by omega, ?_⟩, fun q => ⟨by omega, by omega, by omega, by omega, ?_⟩⟩
    · refine H _ (fun c hc => by rw [ju_row hc, I4 c hc]) (ord_in O I (by omega) hk (fun i i0 i1 => ?_))
      by_cases h : i = k
      · rw [h]
        omega
      · have := O.2.1 i k i0 (by omega) (by omega)
        omega
    · rw [e1, show ((k + 1 : Nat) : Int) + -1 = k by omega]
      refine l_mk_128 hd hR ⟨X1, X2, X3, X4⟩ O f0 f1 H k _ (by omega) ⟨fun i i0 i1 => ?_, fun i i0 i1 => ?_, fun i i0 i1 => ?_, fun c hc => ?_⟩
      · rw [ju_ne2 (by omega)]
        exact I1 i i0 (by omega)
      · by_cases h : i = ((k + 1 : Nat) : Int)
        · rw [h, ju_self]
          congr 1
          omega
        · rw [ju_ne2 h]
          exact I2 i (by omega) i1
      · by_cases h : i = k
        · rw [h]
          exact z1'.mp q
        · exact I3 i (by omega) i1
      · rw [ju_row hc, I4 c hc]
/-- what makes has made -/
def MKD (σ τ : jH) : Prop := ∃ n, MK2 σ τ n ∧ WFD σ τ n 2 0 ∧ ORD (σ 190) τ n
theorem MK2_o {σ τ υ : jH} {n : Int} (X : MK2 σ τ n) (h : ∀ c, c ≠ 199 → υ c = τ c) : MK2 σ υ n := by
  obtain ⟨X1, X2, X3, X4⟩ := X
  refine ⟨fun e' a b => RWD_eq (X1 e' a b) (h 190 (by omega)) (h 193 (by omega)) (h 195 (by omega)) (h 196 (by omega)) (h 197 (by omega)), X2.tr ⟨fun c a b => h c (by omega), fun j _ => by rw [h 189 (by omega)]⟩, ?_, fun v => ?_⟩
  · unfold FRM
    rw [h 189 (by omega), h 198 (by omega)]
    exact X3
  · unfold FSET
    rw [h 198 (by omega)]
    exact X4 v
theorem WFD_o {σ τ υ : jH} {n e p : Int} (X : WFD σ τ n e p) (h : ∀ c, c ≠ 199 → υ c = τ c) : WFD σ υ n e p := by
  unfold WFD
  rw [h 194 (by omega), h 198 (by omega)]
  exact X
theorem l_mk_118 {n : Int} (hd : 15 ≤ d) (hR : RKO (σ 190)) : ∀ (k : Nat) (f : Int) (τ : jH), f + k = n → 0 ≤ f → MK2 σ τ n → WFD σ τ n 2 0 → ORD (σ 190) τ f →
    Ev (l, (fun _ => 0), 0) d 0 0 m_Model_makes (RW fun _ τ => MKD σ τ) 118 [some (vR 189), some (vI f), none] [] gW τ 0 0
  | 0, f, τ, hk, f0, X, Y, O => by
    have n2 := X.2.2.1.2.2.1
    have e : f = n := by omega
    rw [e] at O ⊢
    refine jwp_sound t_Model_makes _ (b_Model_makes_118 ?_)
    simp only [RW, true_and, and_true, and_self, true_or, or_true, Nat.reduceLeDiff, Nat.reduceEqDiff, Nat.reduceAdd, Int.reduceLE, Int.reduceLT, Int.reduceEq, Int.reduceNeg, Int.reduceNe, Nat.reduceSub, reduceIte, implies_true, gt_189, gr_189_1, gt_190, gr_189_11, gt_199, gr_189_4, gt_193, gr_189_5, gt_194, gr_189_8, gt_197, gr_189_9, gt_198]
    rw [n2]
    exact ⟨fun _ => ⟨n, X, Y, O⟩, fun q => absurd q (by omega)⟩
  | k + 1, f, τ, hk, f0, X, Y, O => by
    have n2 := X.2.2.1.2.2.1
    refine jwp_sound t_Model_makes _ (b_Model_makes_118 ?_)
    simp only [RW, true_and, and_true, and_self, true_or, or_true, Nat.reduceLeDiff, Nat.reduceEqDiff, Nat.reduceAdd, Int.reduceLE, Int.reduceLT, Int.reduceEq, Int.reduceNeg, Int.reduceNe, Nat.reduceSub, reduceIte, implies_true, gt_189, gr_189_1, gt_190, gr_189_11, gt_199, gr_189_4, gt_193, gr_189_5, gt_194, gr_189_8, gt_197, gr_189_9, gt_198]
    rw [n2]
    refine ⟨fun q => absurd q (by omega), fun _ => ?_⟩
    have := l_mk_128 (l := l) (d := d) (σ := σ) (RT := RW fun _ τ => MKD σ τ) hd hR X O f0 (by omega) (fun υ hυ O' => l_mk_118 hd hR k (f + 1) υ (by omega) (by omega) (MK2_o X hυ) (WFD_o Y hυ) O') f.toNat τ (by omega) ⟨fun _ _ _ => rfl, fun i a b => absurd a (by omega), fun i a b => absurd a (by omega), fun _ _ => rfl⟩
    rwa [show ((f.toNat : Nat) : Int) = f by omega] at this
end ML
theorem WFD_e {σ τ : jH} {n e : Int} (he : 0 ≤ e) (Y : WFD σ τ n e (wW (σ 190) e).1) : WFD σ τ n (e + 1) 0 := by
  intro e' p' a1 a2 a3 a4 a5
  refine Y e' p' a1 a2 a3 a4 ?_
  by_cases h : e' = e
  · exact Or.inr ⟨h, h ▸ a4⟩
  · exact Or.inl (by omega)
theorem c_Model_makes (σ : jH) (M : MOK σ) (hR : RKO (σ 190)) : Cw 15 m_Model_makes [vR 189] σ (fun _ τ => MKD σ τ) := by
  refine Cw_of o_Model_makes rfl fun l d hd => jwp_sound t_Model_makes _ (b_Model_makes_0 ?_)
  simp only [RW, true_and, and_true, and_self, true_or, or_true, Nat.reduceLeDiff, Nat.reduceEqDiff, Nat.reduceAdd, Int.reduceLE, Int.reduceLT, Int.reduceEq, Int.reduceNeg, Int.reduceNe, Nat.reduceSub, reduceIte, implies_true, gt_189, gr_189_1, gt_190, gr_189_11, gt_199, gr_189_4, gt_193, gr_189_5, gt_194, gr_189_8, gt_197, gr_189_9, gt_198]
  have W0 := wW_0 (σ 190) 0
  have W1 := wW_0 (σ 190) 1
  have M' := M
  obtain ⟨m1, m2, m3, m4, m5, m6⟩ := M'
  -- the numbers of the words
  have H57 : ∀ τ, MK1 σ τ 1 (wW (σ 190) 1).1 (wW (σ 190) 0).1 → Ev (l, (fun _ => 0), 0) d 0 0 m_Model_makes (RW fun _ τ => MKD σ τ) 57 [some (vR 189), some (vI 0), none] [] gW τ 0 0 := by
    rintro τ ⟨X1, X2, n, X3, X4, X5⟩
    have Z : MK2 σ τ n := ⟨X1, X2, X4, fun v => (X5 v).trans CO_e.symm⟩
    have H1 : ∀ τ, MK2 σ τ n → WFD σ τ n 1 0 → Ev (l, (fun _ => 0), 0) d 0 0 m_Model_makes (RW fun _ τ => MKD σ τ) 57 [some (vR 189), some (vI 1), none] [] gW τ 0 0 := by
      intro υ Z' Y'
      refine jwp_sound t_Model_makes _ (b_Model_makes_57 ?_)
      simp only [RW, true_and, and_true, and_self, true_or, or_true, Nat.reduceLeDiff, Nat.reduceEqDiff, Nat.reduceAdd, Int.reduceLE, Int.reduceLT, Int.reduceEq, Int.reduceNeg, Int.reduceNe, Nat.reduceSub, reduceIte, implies_true, true_implies, false_implies, and_true, gt_189, gr_189_1, gt_190, gr_189_11, gt_199, gr_189_4, gt_193, gr_189_5, gt_194, gr_189_8, gt_197, gr_189_9, gt_198]
      refine l_mk_64 hd ⟨by omega, by omega⟩ M (fun τ Z'' Y'' => ?_) (wW (σ 190) 1).1.toNat 0 υ (by omega) (by omega) Z' Y'
      refine jwp_sound t_Model_makes _ (b_Model_makes_57 ?_)
      simp only [RW, true_and, and_true, and_self, true_or, or_true, Nat.reduceLeDiff, Nat.reduceEqDiff, Nat.reduceAdd, Int.reduceLE, Int.reduceLT, Int.reduceEq, Int.reduceNeg, Int.reduceNe, Nat.reduceSub, reduceIte, implies_true, true_implies, false_implies, and_true, gt_189, gr_189_1, gt_190, gr_189_11, gt_199, gr_189_4, gt_193, gr_189_5, gt_194, gr_189_8, gt_197, gr_189_9, gt_198, show (1 : Int) + 1 = 2 by omega]
      have n0 := Z''.2.2.1.1
      exact l_mk_118 hd hR n.toNat 0 τ (by omega) (by omega) Z'' (WFD_e (by omega) Y'') ⟨fun i a b => absurd b (by omega), fun i j a b c => absurd c (by omega), fun g a b => absurd b (by omega)⟩
    refine jwp_sound t_Model_makes _ (b_Model_makes_57 ?_)
    simp only [RW, true_and, and_true, and_self, true_or, or_true, Nat.reduceLeDiff, Nat.reduceEqDiff, Nat.reduceAdd, Int.reduceLE, Int.reduceLT, Int.reduceEq, Int.reduceNeg, Int.reduceNe, Nat.reduceSub, reduceIte, implies_true, true_implies, false_implies, and_true, gt_189, gr_189_1, gt_190, gr_189_11, gt_199, gr_189_4, gt_193, gr_189_5, gt_194, gr_189_8, gt_197, gr_189_9, gt_198]
    refine l_mk_64 hd ⟨by omega, by omega⟩ M (fun τ Z'' Y'' => H1 τ Z'' (WFD_e (by omega) Y'')) (wW (σ 190) 0).1.toNat 0 τ (by omega) (by omega) Z ?_
    intro e' p' a1 a2 a3 a4 a5
    omega
  -- the words and forms of one edition more
  have H7 : ∀ (e : Int) (τ : jH), 0 ≤ e → e ≤ 1 → (∀ e', 0 ≤ e' → e' < e → RWD τ e' (wW (σ 190) e')) → FMK σ τ → (∃ n, n ≤ (if e = 1 then (wW (σ 190) 0).1 else 0) ∧ FRM τ n ∧ ∀ v, FSET τ n v ↔ CO (σ 190) e 0 v) →
      (∀ υ, MK1 σ υ e (wW (σ 190) e).1 (if e = 1 then (wW (σ 190) 0).1 else 0) → Ev (l, (fun _ => 0), 0) d 0 0 m_Model_makes (RW fun _ τ => MKD σ τ) 7 [some (vR 189), some (vI (e + 1)), none] [] gW υ 0 0) →
      Ev (l, (fun _ => 0), 0) d 0 0 m_Model_makes (RW fun _ τ => MKD σ τ) 7 [some (vR 189), some (vI e), none] [] gW τ 0 0 := by
    intro e τ e0 e1 X1 X2 X3 H
    have eω : τ 190 = σ 190 := X2.1 190 (by omega) (by omega)
    obtain ⟨ML, Mc⟩ := M.l (e := e) ⟨e0, e1⟩
    refine jwp_sound t_Model_makes _ (b_Model_makes_7 ?_)
    simp only [RW, true_and, and_true, and_self, true_or, or_true, Nat.reduceLeDiff, Nat.reduceEqDiff, Nat.reduceAdd, Int.reduceLE, Int.reduceLT, Int.reduceEq, Int.reduceNeg, Int.reduceNe, Nat.reduceSub, reduceIte, implies_true, gt_189, gr_189_1, gt_190, gr_189_11, gt_199, gr_189_4, gt_193, gr_189_5, gt_194, gr_189_8, gt_197, gr_189_9, gt_198]
    refine ⟨fun q => absurd q (by omega), fun _ => ?_⟩
    refine cN_w (c_Model_makesWords (e := e) τ ⟨e0, e1⟩ (by rw [eω]; exact ML) (by rw [eω]; exact m3) (by rw [eω]; exact Mc)) (by omega) (fun _ υ S => ?_)
    rw [eω] at S
    have hn : (if e = 1 then (wW (σ 190) 0).1 else 0) + (wW (σ 190) e).1 ≤ 680 := by
      split <;> omega
    refine l_mk_19 hd ⟨e0, e1⟩ M hn H (wW (σ 190) e).1.toNat 0 υ (by have := wW_0 (σ 190) e; omega) (by omega) ⟨fun e' a b => ?_, X2.tr S.2.k, ?_⟩
    · by_cases h : e' = e
      · rw [h]
        exact S.1
      · exact RWD_o (X1 e' a (by omega)) (M.l (e := e') ⟨a, by omega⟩).2 ⟨a, by omega⟩ ⟨e0, e1⟩ h S.2
    · obtain ⟨n, a, b, c⟩ := X3
      refine ⟨n, by omega, ?_, fun v => ?_⟩
      · unfold FRM
        rw [S.2.1 189 (by omega) (by omega) (by omega) (by omega), S.2.1 198 (by omega) (by omega) (by omega) (by omega)]
        exact b
      · unfold FSET
        rw [S.2.1 198 (by omega) (by omega) (by omega) (by omega)]
        exact c v
  have K0 : FMK σ (ju σ 189 10 0) := ⟨fun c a b => ju_row a, fun j hj => ju_ne2 hj⟩
  refine H7 0 _ (by omega) (by omega) (fun e' a b => absurd b (by omega)) K0 ⟨0, by simp, ⟨by omega, by omega, ju_self, fun f a b => absurd b (by omega), fun f g a b c => absurd c (by omega)⟩, fun v => ⟨fun ⟨f, a, b, _⟩ => absurd b (by omega), fun h => absurd h CO_0⟩⟩ (fun υ Y => ?_)
  obtain ⟨Y1, Y2, n, Y3, Y4, Y5⟩ := Y
  refine H7 1 υ (by omega) (by omega) (fun e' a b => Y1 e' a (by omega)) Y2 ⟨n, by simp at Y3 ⊢; omega, Y4, fun v => (Y5 v).trans CO_e.symm⟩ (fun υ' Z => ?_)
  refine jwp_sound t_Model_makes _ (b_Model_makes_7 ?_)
  simp only [RW, true_and, and_true, and_self, true_or, or_true, Nat.reduceLeDiff, Nat.reduceEqDiff, Nat.reduceAdd, Int.reduceLE, Int.reduceLT, Int.reduceEq, Int.reduceNeg, Int.reduceNe, Nat.reduceSub, reduceIte, implies_true, true_implies, false_implies, and_true, show (1 : Int) + 1 = 2 by omega]
  simp only [if_true] at Z
  exact H57 υ' Z
