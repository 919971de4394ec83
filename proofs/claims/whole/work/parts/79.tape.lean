/-! The TAPE -/
theorem Ev_post {C : jC} {d mc ms : Nat} {m : jM} {P Q : Int → jH → Prop} {pc : Nat} {ls : List (Option jV)} {st : List jV} {G : jG} {σ : jH} {cs ss : Nat} (h : Ev C d mc ms m (RW P) pc ls st G σ cs ss) (hk : ∀ x τ, P x τ → Q x τ) : Ev C d mc ms m (RW Q) pc ls st G σ cs ss := by
  intro p e R s mi args below meth c E Q' H locs lc X
  refine h p e R s mi args below meth c E Q' H locs lc ⟨?_, X.2⟩
  obtain ⟨a1, a2, a3, a4, a5, a6, a7, a8, a9, a10, a11⟩ := X.1
  exact ⟨a1, a2, a3, a4, a5, a6, a7, a8, a9, a10, fun pc lc H locs x G σ cs ss h1 h2 hr => a11 pc lc H locs x G σ cs ss h1 h2 ⟨hr.1, hk _ _ hr.2⟩⟩
/-- twenty bytes behind n -/
def fedT (n : Int) (t : Int → Int) (g : Int → Int) : Int → Int := fun j => if n ≤ j then g (j - n) else t j
theorem w8_w8 (x : Int) : w8 (w8 x) = w8 x := by
  unfold w8
  omega
theorem w8_r (x : Int) : -128 ≤ w8 x ∧ w8 x < 128 := by
  unfold w8
  omega
def fdb (a b c d e k : Int) : Int := w8 (jshr32 (if k < 4 then a else if k < 8 then b else if k < 12 then c else if k < 16 then d else e) (24 - 8 * (k % 4)))
/-- the TAPE as the class and as the reference keep it -/
def TPC (σ : jH) (n : Int) (t : Int → Int) : Prop := σ 1 1 = n ∧ (0 ≤ n ∧ n ≤ 400) ∧ ∀ j, 0 ≤ j → j < n → σ 2 j = t j
def TPR (σ : jH) (n : Int) (t : Int → Int) : Prop := σ 189 15 = n ∧ (0 ≤ n ∧ n ≤ 400) ∧ ∀ j, 0 ≤ j → j < n → σ 202 j = t j
def FRT (σ τ : jH) : Prop := (∀ c, c ≠ 1 → c ≠ 2 → τ c = σ c) ∧ ∀ j, j ≠ 1 → τ 1 j = σ 1 j
theorem FRT.tr {σ τ υ : jH} (h : FRT σ τ) (h' : FRT τ υ) : FRT σ υ := ⟨fun c a b => (h'.1 c a b).trans (h.1 c a b), fun j hj => (h'.2 j hj).trans (h.2 j hj)⟩
section TA
variable {l : Launch} {d : Nat} {σ : jH}
theorem l_putNumber {x n : Int} (n0 : 0 ≤ n) (n1 : n ≤ 396) : ∀ (m k : Nat) (τ : jH), k + m = 4 → τ 1 1 = n + k → (∀ j, τ 2 j = if n ≤ j ∧ j < n + k then w8 (jshr32 x (24 - 8 * (j - n))) else σ 2 j) → FRT σ τ →
    Ev (l, (fun _ => 0), 0) d 0 0 m_WordPlaces_putNumber (RW fun _ τ => τ 1 1 = n + 4 ∧ (∀ j, τ 2 j = if n ≤ j ∧ j < n + 4 then w8 (jshr32 x (24 - 8 * (j - n))) else σ 2 j) ∧ FRT σ τ) 3 [some (vR 1), some (vI x), some (vI (24 - 8 * (k : Int)))] [] gW τ 0 0
  | 0, k, τ, hk, h1, h2, F => by
    have e : k = 4 := by omega
    subst e
    refine jwp_sound t_WordPlaces_putNumber _ (b_WordPlaces_putNumber_3 ?_)
    simp only [RW, true_and, and_true, and_self, true_or, or_true, Nat.reduceLeDiff, Nat.reduceEqDiff, Nat.reduceAdd, Int.reduceLE, Int.reduceLT, Int.reduceEq, Int.reduceNeg, Int.reduceNe, Nat.reduceSub, reduceIte, implies_true, gt_1, gr_1_0, gt_2]
    exact ⟨fun _ => ⟨h1, h2, F⟩, fun q => absurd q (by omega)⟩
  | m + 1, k, τ, hk, h1, h2, F => by
    have ek : ju τ 2 (n + k) (w8 (w8 (jshr32 x (24 - 8 * (k : Int))))) 1 1 = n + k := by rw [ju_row (by omega)]; exact h1
    refine jwp_sound t_WordPlaces_putNumber _ (b_WordPlaces_putNumber_3 ?_)
    simp only [RW, true_and, and_true, and_self, true_or, or_true, Nat.reduceLeDiff, Nat.reduceEqDiff, Nat.reduceAdd, Int.reduceLE, Int.reduceLT, Int.reduceEq, Int.reduceNeg, Int.reduceNe, Nat.reduceSub, reduceIte, implies_true, gt_1, gr_1_0, gt_2]
    rw [h1, ek, w32_of (x := n + (k : Int) + 1) (by omega) (by omega), w32_of (x := 24 - 8 * (k : Int) + -8) (by omega) (by omega)]
    refine ⟨fun q => absurd q (by omega), fun _ => ⟨fun q => absurd q (by omega), fun _ => ⟨fun q => absurd q (by omega), fun _ => ⟨by omega, by omega, ?_⟩⟩⟩⟩
    have := l_putNumber (x := x) n0 n1 m (k + 1) (ju (ju τ 2 (n + k) (w8 (w8 (jshr32 x (24 - 8 * (k : Int)))))) 1 1 (n + k + 1)) (by omega) (by rw [ju_self]; omega) (fun j => ?_) (F.tr ⟨fun c a b => by rw [ju_row a, ju_row b], fun j hj => by rw [ju_ne2 hj, ju_row (by omega)]⟩)
    · rw [show 24 - 8 * (((k + 1 : Nat)) : Int) = 24 - 8 * (k : Int) + -8 by omega] at this
      exact this
    · rw [ju_row (by omega)]
      by_cases hj : j = n + k
      · rw [hj, ju_self, if_pos (by omega), w8_w8, show n + (k : Int) - n = k by omega]
      · rw [ju_ne2 hj, h2 j]
        by_cases q : n ≤ j ∧ j < n + k
        · rw [if_pos q, if_pos (by omega)]
        · rw [if_neg q, if_neg (by omega)]
theorem c_putNumber {x n : Int} (n0 : 0 ≤ n) (n1 : n ≤ 396) (h : σ 1 1 = n) : Cw 10 m_WordPlaces_putNumber [vR 1, vI x] σ (fun _ τ => τ 1 1 = n + 4 ∧ (∀ j, τ 2 j = if n ≤ j ∧ j < n + 4 then w8 (jshr32 x (24 - 8 * (j - n))) else σ 2 j) ∧ FRT σ τ) := by
  refine Cw_of o_WordPlaces_putNumber rfl fun l d hd => jwp_sound t_WordPlaces_putNumber _ (b_WordPlaces_putNumber_0 ?_)
  exact l_putNumber n0 n1 4 0 σ (by omega) (by rw [h]; simp) (fun j => by rw [if_neg (by omega)]) ⟨fun _ _ _ => rfl, fun _ _ => rfl⟩
theorem c_feed {n : Int} {t : Int → Int} (T : TPC σ n t) (a b c e f : Int) : Cw 11 m_WordPlaces_feed [vR 1, vI a, vI b, vI c, vI e, vI f] σ (fun z τ => z = (if n + 20 ≤ 400 then n + 20 else -1) ∧ TPC τ (if n + 20 ≤ 400 then n + 20 else n) (fedT n t (fdb a b c e f)) ∧ FRT σ τ) := by
  obtain ⟨h1, ⟨h2, h3⟩, h4⟩ := T
  refine Cw_of o_WordPlaces_feed rfl fun l d hd => jwp_sound t_WordPlaces_feed _ (b_WordPlaces_feed_0 ?_)
  simp only [RW, true_and, and_true, and_self, true_or, or_true, Nat.reduceLeDiff, Nat.reduceEqDiff, Nat.reduceAdd, Int.reduceLE, Int.reduceLT, Int.reduceEq, Int.reduceNeg, Int.reduceNe, Nat.reduceSub, reduceIte, implies_true, gt_1]
  rw [h1, w32_of (by omega) (by omega)]
  refine ⟨fun q => ?_, fun q => ?_⟩
  · rw [if_pos q, if_pos q]
    refine cN_w (c_putNumber h2 (by omega) h1) (by omega) (fun _ σ1 s1 => ?_)
    refine cN_w (c_putNumber (n := n + 4) (by omega) (by omega) s1.1) (by omega) (fun _ σ2 s2 => ?_)
    refine cN_w (c_putNumber (n := n + 8) (by omega) (by omega) (by rw [s2.1]; omega)) (by omega) (fun _ σ3 s3 => ?_)
    refine cN_w (c_putNumber (n := n + 12) (by omega) (by omega) (by rw [s3.1]; omega)) (by omega) (fun _ σ4 s4 => ?_)
    refine cN_w (c_putNumber (n := n + 16) (by omega) (by omega) (by rw [s4.1]; omega)) (by omega) (fun _ σ5 s5 => ?_)
    refine ⟨by rw [s5.1]; omega, ⟨by rw [s5.1]; omega, by omega, fun j j0 j1 => ?_⟩, s1.2.2.tr (s2.2.2.tr (s3.2.2.tr (s4.2.2.tr s5.2.2)))⟩
    rw [s5.2.1 j, s4.2.1 j, s3.2.1 j, s2.2.1 j, s1.2.1 j]
    unfold fedT fdb
    by_cases q0 : n ≤ j
    · rw [if_pos q0]
      have em : (j - n) % 4 = j - n - 4 * ((j - n) / 4) := by omega
      by_cases p1 : j - n < 4
      · rw [if_neg (by omega), if_neg (by omega), if_neg (by omega), if_neg (by omega), if_pos (by omega), if_pos p1, show (j - n) % 4 = j - n by omega]
      · by_cases p2 : j - n < 8
        · rw [if_neg (by omega), if_neg (by omega), if_neg (by omega), if_pos (by omega), if_neg p1, if_pos p2, show (j - n) % 4 = j - (n + 4) by omega]
        · by_cases p3 : j - n < 12
          · rw [if_neg (by omega), if_neg (by omega), if_pos (by omega), if_neg p1, if_neg p2, if_pos p3, show (j - n) % 4 = j - (n + 8) by omega]
          · by_cases p4 : j - n < 16
            · rw [if_neg (by omega), if_pos (by omega), if_neg p1, if_neg p2, if_neg p3, if_pos p4, show (j - n) % 4 = j - (n + 12) by omega]
            · rw [if_pos (by omega), if_neg p1, if_neg p2, if_neg p3, if_neg p4, show (j - n) % 4 = j - (n + 16) by omega]
    · rw [if_neg (by omega), if_neg (by omega), if_neg (by omega), if_neg (by omega), if_neg (by omega), if_neg q0]
      exact h4 j j0 (by omega)
  · rw [if_neg (by omega), if_neg (by omega)]
    refine ⟨rfl, ⟨h1, ⟨h2, h3⟩, fun j j0 j1 => ?_⟩, fun _ _ _ => rfl, fun _ _ => rfl⟩
    unfold fedT
    rw [if_neg (by omega)]
    exact h4 j j0 j1
theorem c_end {n : Int} {t : Int → Int} (T : TPC σ n t) (x : Int) : Cw 10 m_WordPlaces_end [vR 1, vI x] σ (fun z τ => z = (if 0 ≤ x ∧ x ≤ n then x else -1) ∧ TPC τ (if 0 ≤ x ∧ x ≤ n then x else n) t ∧ FRT σ τ) := by
  obtain ⟨h1, ⟨h2, h3⟩, h4⟩ := T
  refine Cw_of o_WordPlaces_end rfl fun l d hd => jwp_sound t_WordPlaces_end _ (b_WordPlaces_end_0 ?_)
  simp only [RW, true_and, and_true, and_self, true_or, or_true, Nat.reduceLeDiff, Nat.reduceEqDiff, Nat.reduceAdd, Int.reduceLE, Int.reduceLT, Int.reduceEq, Int.reduceNeg, Int.reduceNe, Nat.reduceSub, reduceIte, implies_true, gt_1]
  rw [h1]
  refine ⟨fun q => ?_, fun q => ⟨fun q2 => ?_, fun q2 => ?_⟩⟩
  · rw [if_neg (by omega), if_neg (by omega)]
    exact ⟨rfl, ⟨h1, ⟨h2, h3⟩, h4⟩, fun _ _ _ => rfl, fun _ _ => rfl⟩
  · rw [if_pos ⟨q, q2⟩, if_pos ⟨q, q2⟩]
    refine ⟨rfl, ⟨ju_self, by omega, fun j j0 j1 => ?_⟩, fun c a b => ju_row a, fun j hj => ju_ne2 hj⟩
    rw [ju_row (by omega)]
    exact h4 j j0 (by omega)
  · rw [if_neg (by omega), if_neg (by omega)]
    exact ⟨rfl, ⟨h1, ⟨h2, h3⟩, h4⟩, fun _ _ _ => rfl, fun _ _ => rfl⟩
theorem c_takeTape {n : Int} {t : Int → Int} (T : TPC σ n t) : Cw 10 m_WordPlaces_takeTape [vR 1] σ (fun z τ => z = n ∧ τ = ju σ 1 1 0) := by
  refine Cw_of o_WordPlaces_takeTape rfl fun l d hd => jwp_sound t_WordPlaces_takeTape _ (b_WordPlaces_takeTape_0 ?_)
  simp only [RW, true_and, and_true, and_self, true_or, or_true, Nat.reduceLeDiff, Nat.reduceEqDiff, Nat.reduceAdd, Int.reduceLE, Int.reduceLT, Int.reduceEq, Int.reduceNeg, Int.reduceNe, Nat.reduceSub, reduceIte, implies_true, gt_1]
  exact T.1
def FTR (σ τ : jH) : Prop := (∀ c, c ≠ 189 → c ≠ 202 → c ≠ 203 → τ c = σ c) ∧ ∀ j, j ≠ 15 → τ 189 j = σ 189 j
theorem l_Model_feed {a b c e f n : Int} (n0 : 0 ≤ n) (n1 : n + 20 ≤ 400) : ∀ (m k : Nat) (τ : jH), k + m = 20 → τ 189 15 = n → (τ 203 0 = a ∧ τ 203 1 = b ∧ τ 203 2 = c ∧ τ 203 3 = e ∧ τ 203 4 = f) → (∀ j, τ 202 j = if n ≤ j ∧ j < n + k then fdb a b c e f (j - n) else σ 202 j) → FTR σ τ →
    Ev (l, (fun _ => 0), 0) d 0 0 m_Model_feed (RW fun z τ => z = n + 20 ∧ τ 189 15 = n + 20 ∧ (∀ j, τ 202 j = if n ≤ j ∧ j < n + 20 then fdb a b c e f (j - n) else σ 202 j) ∧ FTR σ τ) 55 [some (vR 189), none, none, none, none, none, some (vI k)] [] gW τ 0 0
  | 0, k, τ, hk, h1, h5, h2, F => by
    have e : k = 20 := by omega
    subst e
    refine jwp_sound t_Model_feed _ (b_Model_feed_55 ?_)
    simp only [RW, true_and, and_true, and_self, true_or, or_true, Nat.reduceLeDiff, Nat.reduceEqDiff, Nat.reduceAdd, Int.reduceLE, Int.reduceLT, Int.reduceEq, Int.reduceNeg, Int.reduceNe, Nat.reduceSub, reduceIte, implies_true, gt_189, gr_189_14, gt_202, gr_189_16, gt_203]
    rw [h1, w32_of (by omega) (by omega), ju_self]
    refine ⟨fun _ => ⟨rfl, rfl, fun j => ?_, fun c a b d => ?_, fun j hj => ?_⟩, fun q => absurd q (by omega)⟩
    · rw [ju_row (by omega)]
      exact h2 j
    · rw [ju_row a]
      exact F.1 c a b d
    · rw [ju_ne2 hj]
      exact F.2 j hj
  | m + 1, k, τ, hk, h1, h5, h2, F => by
    refine jwp_sound t_Model_feed _ (b_Model_feed_55 ?_)
    simp only [RW, true_and, and_true, and_self, true_or, or_true, Nat.reduceLeDiff, Nat.reduceEqDiff, Nat.reduceAdd, Int.reduceLE, Int.reduceLT, Int.reduceEq, Int.reduceNeg, Int.reduceNe, Nat.reduceSub, reduceIte, implies_true, gt_189, gr_189_14, gt_202, gr_189_16, gt_203]
    rw [h1, Int.tdiv_eq_ediv_of_nonneg (by omega), Int.tmod_eq_emod_of_nonneg (by omega), w32_of (x := (k : Int) / 4) (by omega) (by omega), w32_of (x := n + (k : Int)) (by omega) (by omega), w32_of (x := (k : Int) + 1) (by omega) (by omega), w32_of (x := 8 * ((k : Int) % 4)) (by omega) (by omega), w32_of (x := 24 - 8 * ((k : Int) % 4)) (by omega) (by omega)]
    refine ⟨fun q => absurd q (by omega), fun _ => ⟨by omega, by omega, by omega, by omega, ?_⟩⟩
    refine l_Model_feed n0 n1 m (k + 1) _ (by omega) (by rw [ju_row (by omega)]; exact h1) (by rw [ju_row (by omega)]; exact h5) (fun j => ?_) ⟨fun c a b d => by rw [ju_row b]; exact F.1 c a b d, fun j hj => by rw [ju_row (by omega)]; exact F.2 j hj⟩
    by_cases hj : j = n + k
    · rw [hj, ju_self, if_pos (by omega), w8_w8, show n + (k : Int) - n = k by omega]
      unfold fdb
      congr 2
      obtain ⟨g0, g1, g2, g3, g4⟩ := h5
      by_cases p1 : (k : Int) < 4
      · rw [if_pos p1, show (k : Int) / 4 = 0 by omega, g0]
      · rw [if_neg p1]
        by_cases p2 : (k : Int) < 8
        · rw [if_pos p2, show (k : Int) / 4 = 1 by omega, g1]
        · rw [if_neg p2]
          by_cases p3 : (k : Int) < 12
          · rw [if_pos p3, show (k : Int) / 4 = 2 by omega, g2]
          · rw [if_neg p3]
            by_cases p4 : (k : Int) < 16
            · rw [if_pos p4, show (k : Int) / 4 = 3 by omega, g3]
            · rw [if_neg p4, show (k : Int) / 4 = 4 by omega, g4]
    · rw [ju_ne2 hj, h2 j]
      by_cases q : n ≤ j ∧ j < n + k
      · rw [if_pos q, if_pos (by omega)]
      · rw [if_neg q, if_neg (by omega)]
theorem c_Model_feed {n : Int} {t : Int → Int} (T : TPR σ n t) (a b c e f : Int) : Cw 10 m_Model_feed [vR 189, vI a, vI b, vI c, vI e, vI f] σ (fun z τ => z = (if n + 20 ≤ 400 then n + 20 else -1) ∧ TPR τ (if n + 20 ≤ 400 then n + 20 else n) (fedT n t (fdb a b c e f)) ∧ FTR σ τ) := by
  obtain ⟨h1, ⟨h2, h3⟩, h4⟩ := T
  refine Cw_of o_Model_feed rfl fun l d hd => jwp_sound t_Model_feed _ (b_Model_feed_0 ?_)
  simp only [RW, true_and, and_true, and_self, true_or, or_true, Nat.reduceLeDiff, Nat.reduceEqDiff, Nat.reduceAdd, Int.reduceLE, Int.reduceLT, Int.reduceEq, Int.reduceNeg, Int.reduceNe, Nat.reduceSub, reduceIte, implies_true, gt_189, gr_189_14, gt_202, gr_189_16, gt_203]
  rw [h1, w32_of (by omega) (by omega)]
  refine ⟨fun q => ?_, fun q => ?_⟩
  · rw [if_pos q, if_pos q]
    repeat (refine And.intro (by omega) ?_)
    have := l_Model_feed (l := l) (d := d) (σ := σ) (a := a) (b := b) (c := c) (e := e) (f := f) h2 q 20 0 (ju (ju (ju (ju (ju σ 203 0 a) 203 1 b) 203 2 c) 203 3 e) 203 4 f) (by omega) (by simp (disch := omega) only [ju_row]; exact h1) (by simp (disch := omega) only [ju_self, ju_ne2, and_self]) (fun j => by rw [if_neg (by omega)]; simp (disch := omega) only [ju_row]) ⟨fun x a b d => by simp (disch := omega) only [ju_row], fun j hj => by simp (disch := omega) only [ju_row]⟩
    refine Ev_post this (fun z τ h => ?_)
    obtain ⟨z1, z2, z3, z4⟩ := h
    refine ⟨z1, ⟨z2, by omega, fun j j0 j1 => ?_⟩, z4⟩
    rw [z3 j]
    unfold fedT
    by_cases q0 : n ≤ j
    · rw [if_pos (by omega), if_pos q0]
    · rw [if_neg (by omega), if_neg q0]
      exact h4 j j0 (by omega)
  · rw [if_neg (by omega), if_neg (by omega)]
    refine ⟨rfl, ⟨h1, ⟨h2, h3⟩, fun j j0 j1 => ?_⟩, fun _ _ _ _ => rfl, fun _ _ => rfl⟩
    unfold fedT
    rw [if_neg (by omega)]
    exact h4 j j0 j1
theorem c_Model_end {n : Int} {t : Int → Int} (T : TPR σ n t) (x : Int) : Cw 11 m_Model_end [vR 189, vI x] σ (fun z τ => z = (if 0 ≤ x ∧ x ≤ n then x else -1) ∧ TPR τ (if 0 ≤ x ∧ x ≤ n then x else n) t ∧ FTR σ τ) := by
  obtain ⟨h1, ⟨h2, h3⟩, h4⟩ := T
  refine Cw_of o_Model_end rfl fun l d hd => jwp_sound t_Model_end _ (b_Model_end_0 ?_)
  simp only [RW, true_and, and_true, and_self, true_or, or_true, Nat.reduceLeDiff, Nat.reduceEqDiff, Nat.reduceAdd, Int.reduceLE, Int.reduceLT, Int.reduceEq, Int.reduceNeg, Int.reduceNe, Nat.reduceSub, reduceIte, implies_true, gt_189]
  rw [h1]
  refine cN_p (c_Model_in _ _ _ _) (by omega) ?_
  by_cases q : 0 ≤ x ∧ x ≤ n
  · rw [if_pos q, if_pos q, if_pos q]
    refine ⟨fun _ => ⟨rfl, ⟨ju_self, by omega, fun j j0 j1 => ?_⟩, fun c a b d => ju_row a, fun j hj => ju_ne2 hj⟩, fun q => by omega⟩
    rw [ju_row (by omega)]
    exact h4 j j0 (by omega)
  · rw [if_neg q, if_neg q, if_neg q]
    exact ⟨fun q => absurd rfl q, fun _ => ⟨rfl, ⟨h1, ⟨h2, h3⟩, h4⟩, fun _ _ _ _ => rfl, fun _ _ => rfl⟩⟩
end TA
