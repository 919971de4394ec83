/-! Words begun: the reference -/
def vrw (g : Int → Int) (c : Int) : Int → Int := fun j => if j = 0 then c else g (j - 1)
theorem rh_split {g : Int → Int} (n : Nat) : ∀ k : Nat, (∀ j : Int, 0 ≤ j → j < n + k → 0 ≤ g j ∧ g j < 32) → ∃ r : Int, rh g (n + k) = rh g n * 32 ^ k + r ∧ 0 ≤ r ∧ r < 32 ^ k
  | 0, _ => ⟨0, by show rh g n = _; rw [show (32 : Int) ^ 0 = 1 from rfl]; omega, by omega, by decide⟩
  | k + 1, h => by
    obtain ⟨r, h1, h2, h3⟩ := rh_split n k (fun j a b => h j a (by omega))
    have d := h ((n + k : Nat) : Int) (by omega) (by omega)
    refine ⟨r * 32 + g ((n + k : Nat) : Int), ?_, by omega, ?_⟩
    · show rh g (n + k) * 32 + g ((n + k : Nat) : Int) = rh g n * 32 ^ (k + 1) + (r * 32 + g ((n + k : Nat) : Int))
      rw [h1, p32s, ← Int.mul_assoc, Int.add_mul]
      omega
    · rw [p32s]
      omega
theorem rh_tail {g : Int → Int} (n : Nat) : ∀ k : Nat, (∀ j : Int, n ≤ j → j < n + k → g j = 0) → rh g (n + k) = rh g n * 32 ^ k
  | 0, _ => by show rh g n = _; rw [show (32 : Int) ^ 0 = 1 from rfl]; omega
  | k + 1, h => by
    show rh g (n + k) * 32 + g ((n + k : Nat) : Int) = rh g n * 32 ^ (k + 1)
    rw [rh_tail n k (fun j a b => h j a (by omega)), h ((n + k : Nat) : Int) (by omega) (by omega), p32s, ← Int.mul_assoc]
    omega
theorem rng_eq {a b r M : Int} (hM : 0 < M) (r0 : 0 ≤ r) (r1 : r < M) : (a * M ≤ b * M + r ∧ b * M + r < a * M + M) ↔ b = a := by
  constructor
  · rintro ⟨h1, h2⟩
    by_cases q : a < b
    · have := Int.mul_le_mul_of_nonneg_right (show a + 1 ≤ b by omega) (Int.le_of_lt hM)
      rw [Int.add_mul] at this
      omega
    · by_cases q2 : b < a
      · have := Int.mul_le_mul_of_nonneg_right (show b + 1 ≤ a by omega) (Int.le_of_lt hM)
        rw [Int.add_mul] at this
        omega
      · omega
  · intro h
    rw [h]
    omega
/-- a row begins with another -/
theorem pre_iff {f g : Int → Int} {a : Int} {c : Nat} (V : RV f a) (V' : RV (vrw g c) 0) (hc : c ≤ 20) : (rk (vrw g c) 0 ≤ rk f a ∧ rk f a < rk (vrw g c) 0 + 32 ^ (20 - c)) ↔ ((c : Int) ≤ f a ∧ ∀ j, 0 ≤ j → j < (c : Int) → f (a + 1 + j) = g j) := by
  have e20 : c + (20 - c) = 20 := by omega
  have v0 : vrw g c 0 = c := if_pos rfl
  have v1 : ∀ j : Int, 0 ≤ j → vrw g c (0 + 1 + j) = g j := fun j h => by
    unfold vrw
    rw [if_neg (by omega), show (0 : Int) + 1 + j - 1 = j by omega]
  obtain ⟨r, h1, h2, h3⟩ := rh_split (g := dgr f a) c (20 - c) (fun j x y => by have := dgr_r V j x; omega)
  have t := rh_tail (g := dgr (vrw g c) 0) c (20 - c) (fun j x y => by unfold dgr; rw [v0, if_neg (by omega)])
  rw [e20] at h1 t
  have hK : rk (vrw g c) 0 = rh (dgr (vrw g c) 0) c * 32 ^ (20 - c) := t
  have hF : rk f a = rh (dgr f a) c * 32 ^ (20 - c) + r := h1
  rw [hK, hF, rng_eq (p32 _) h2 h3]
  constructor
  · intro h
    have I := rh_inj (m := c) (fun j x _ => by have := dgr_r V j x; omega) (fun j x _ => by have := dgr_r V' j x; omega) h
    have le : (c : Int) ≤ f a := by
      by_cases q : (c : Int) ≤ f a
      · exact q
      · have v := V.1
        have := I (f a) v (by omega)
        unfold dgr at this
        rw [if_neg (by omega), v0, if_pos (by omega)] at this
        have := V'.2.2 (f a) v (by rw [v0]; omega)
        omega
    refine ⟨le, fun j j0 j1 => ?_⟩
    have := I j j0 j1
    unfold dgr at this
    rw [if_pos (by omega), v0, if_pos j1, v1 j j0] at this
    omega
  · rintro ⟨h, he⟩
    apply rh_eq
    intro j j0 j1
    unfold dgr
    rw [if_pos (by omega), v0, if_pos j1, he j j0 j1, v1 j j0]
def BGQ (σ : jH) (F N : Int) : Prop := σ 189 43 = N ∧ (0 ≤ N ∧ N ≤ 680) ∧ ∀ i, 0 ≤ i → i < N → σ 226 i = F + i
def BGP2 (σ τ : jH) (ω : Int → Int) (n : Int) (t : Int → Int) (z : Int) : Prop := z = bgN ω t n ∧ BGQ τ (bgF ω t n) (bgN ω t n) ∧ (∀ c, c ≠ 189 → c ≠ 226 → c ≠ 227 → τ c = σ c) ∧ τ 189 15 = 0 ∧ ∀ j, j ≠ 15 → j ≠ 43 → τ 189 j = σ 189 j
section BR
variable {l : Launch} {d : Nat} {ω t : Int → Int} {σ : jH} {n : Int}
/-- the beginning as far as it is read -/
def BEG (τ : jH) (ω t : Int → Int) (k : Nat) : Prop := lcnt t k ≤ 20 → RV (vrw (τ 227) (lcnt t k)) 0 ∧ rk (vrw (τ 227) (lcnt t k)) 0 = km (fo ω) (tky t 0 k).1
theorem l_mb_4 {P : Int → jH → Prop} (hd : 11 ≤ d) (W : OKW ω) (h190 : σ 190 = ω) (h15 : σ 189 15 = n) (T : ∀ j, 0 ≤ j → j < n → σ 202 j = t j) (hn : 0 ≤ n ∧ n ≤ 400) (N : ∀ τ : jH, (∀ c, c ≠ 227 → τ c = σ c) → BEG τ ω t n.toNat → Ev (l, (fun _ => 0), 0) d 0 0 m_Model_begins (RW P) 67 [some (vR 189), some (vI (lcnt t n.toNat)), some (vI 0), none, none] [] gW (ju (ju τ 189 15 0) 189 43 0) 0 0) : ∀ (m k : Nat) (τ : jH), (k : Int) + m = n → (∀ c, c ≠ 227 → τ c = σ c) → BEG τ ω t k →
    Ev (l, (fun _ => 0), 0) d 0 0 m_Model_begins (RW P) 4 [some (vR 189), some (vI (lcnt t k)), some (vI k), none, none] [] gW τ 0 0
  | 0, k, τ, hk, F, B => by
    rw [show n.toNat = k by omega] at N
    refine jwp_sound t_Model_begins _ (b_Model_begins_4 ?_)
    simp only [RW, true_and, and_true, and_self, true_or, or_true, Nat.reduceLeDiff, Nat.reduceEqDiff, Nat.reduceAdd, Int.reduceLE, Int.reduceLT, Int.reduceEq, Int.reduceNeg, Int.reduceNe, Nat.reduceSub, reduceIte, implies_true, gt_189, gr_189_14, gt_202, gr_189_42, gt_226, gr_189_44, gt_227, gr_189_9, gt_198]
    rw [F 189 (by omega), h15]
    exact ⟨fun _ => N τ F B, fun q => absurd q (by omega)⟩
  | m + 1, k, τ, hk, F, B => by
    have r := lcnt_r t k
    have ok := tky_ok t 0 k
    have cn := tky_cnt t k
    have IH := fun υ F2 B2 => l_mb_4 hd W h190 h15 T hn N m (k + 1) υ (by omega) F2 B2
    rw [show ((k + 1 : Nat) : Int) = (k : Int) + 1 by omega] at IH
    have ls : lcnt t (k + 1) = lcnt t k + (if isL (t k) then 1 else 0) := rfl
    refine jwp_sound t_Model_begins _ (b_Model_begins_4 ?_)
    simp only [RW, true_and, and_true, and_self, true_or, or_true, Nat.reduceLeDiff, Nat.reduceEqDiff, Nat.reduceAdd, Int.reduceLE, Int.reduceLT, Int.reduceEq, Int.reduceNeg, Int.reduceNe, Nat.reduceSub, reduceIte, implies_true, gt_189, gr_189_14, gt_202, gr_189_42, gt_226, gr_189_44, gt_227, gr_189_9, gt_198]
    rw [F 189 (by omega), h15, F 202 (by omega), T k (by omega) (by omega), w32_of (x := (k : Int) + 1) (by omega) (by omega), w32_of (x := lcnt t k + 1) (by omega) (by omega)]
    refine ⟨fun q => absurd q (by omega), fun _ => ⟨by omega, by omega, ?_⟩⟩
    refine cN_p (c_Model_isLetter _ _) (by omega) ?_
    by_cases g : isL (t k)
    · rw [if_pos g] at ls
      rw [if_pos g, F 202 (by omega), T k (by omega) (by omega), w32_of (x := t k - 97) (by omega) (by omega)]
      refine ⟨fun _ => ⟨by omega, by omega, ?_⟩, fun x => absurd x (by omega)⟩
      refine cN_p (c_Model_folded _ (show 0 ≤ t k - 97 by omega) (show t k - 97 < 26 by omega)) (by omega) ?_
      rw [F 190 (by omega), h190]
      refine ⟨by omega, by omega, ?_⟩
      rw [ls] at IH
      refine IH _ (fun c hc => by rw [ju_row hc, F c hc]) (fun h20 => ?_)
      rw [ls] at h20 ⊢
      obtain ⟨b1, b2⟩ := B (by omega)
      have e2 : ((tky t 0 k).2 : Int) = lcnt t k := by omega
      rw [← e2] at b1 b2
      have A := told_add (f := vrw (τ 227) ((tky t 0 k).2 : Nat)) (f' := vrw (ju τ 227 (lcnt t k) (fo ω (t k - 97)) 227) (lcnt t k + 1)) W.2.2.1 b1 (if_pos rfl) (by omega) b2 ok.2.2.2 (x := t k - 97) (by omega) (by omega) (by unfold vrw; rw [if_pos rfl, e2]) (fun j a b => by unfold vrw; rw [if_neg (by omega), if_neg (by omega), ju_ne2 (by omega)]) (by unfold vrw; rw [if_neg (by omega), show (0 : Int) + 1 + ((tky t 0 k).2 : Int) - 1 = lcnt t k by omega, ju_self])
      have e : (tky t 0 (k + 1)).1 = kad (tky t 0 k).1 (tky t 0 k).2 (t k - 97) := by
        show (if isL (t (0 + k)) then _ else _ : Int × Nat).1 = _
        rw [Int.zero_add, if_pos g]
      rw [e]
      exact A
    · rw [if_neg g, Int.add_zero] at ls
      rw [if_neg g]
      rw [ls] at IH
      have e : tky t 0 (k + 1) = tky t 0 k := by
        show (if isL (t (0 + k)) then _ else _ : Int × Nat) = _
        rw [Int.zero_add, if_neg g]
      refine ⟨fun x => absurd rfl x, fun _ => IH τ F (fun h20 => ?_)⟩
      rw [ls] at h20 ⊢
      rw [e]
      exact B h20
/-- does form f begin so -/
def preP (g h : Int → Int) (a c : Int) : Prop := c ≤ g a ∧ ∀ j, 0 ≤ j → j < c → g (a + 1 + j) = h j
theorem l_mb_97 {P : Int → jH → Prop} {f c : Int} (hd : 11 ≤ d) (hf : 0 ≤ f ∧ f < 680) (hc : 0 ≤ c ∧ c ≤ 400) (V : RV (σ 198) (21 * f)) (N : ∀ v, (v = 1 ∧ preP (σ 198) (σ 227) (21 * f) c) ∨ (v = 0 ∧ ¬ preP (σ 198) (σ 227) (21 * f) c) → Ev (l, (fun _ => 0), 0) d 0 0 m_Model_begins (RW P) 143 [some (vR 189), some (vI c), some (vI f), some (vI v), none] [] gW σ 0 0) : ∀ (k : Nat) (i v : Int), i + k = c → 0 ≤ i → ((v = 1 ∧ c ≤ σ 198 (21 * f) ∧ ∀ j, 0 ≤ j → j < i → σ 198 (21 * f + 1 + j) = σ 227 j) ∨ (v = 0 ∧ ¬ preP (σ 198) (σ 227) (21 * f) c)) →
    Ev (l, (fun _ => 0), 0) d 0 0 m_Model_begins (RW P) 97 [some (vR 189), some (vI c), some (vI f), some (vI v), some (vI i)] [] gW σ 0 0
  | 0, i, v, hk, i0, h => by
    refine jwp_sound t_Model_begins _ (b_Model_begins_97 ?_)
    refine ⟨fun _ => N v ?_, fun q => absurd q (by omega)⟩
    rcases h with ⟨h1, h2, h3⟩ | h
    · exact Or.inl ⟨h1, h2, fun j a b => h3 j a (by omega)⟩
    · exact Or.inr h
  | k + 1, i, v, hk, i0, h => by
    have IH := fun v h => l_mb_97 hd hf hc V N k (i + 1) v (by omega) (by omega) h
    have v2 := V.2.1
    refine jwp_sound t_Model_begins _ (b_Model_begins_97 ?_)
    simp only [RW, true_and, and_true, and_self, true_or, or_true, Nat.reduceLeDiff, Nat.reduceEqDiff, Nat.reduceAdd, Int.reduceLE, Int.reduceLT, Int.reduceEq, Int.reduceNeg, Int.reduceNe, Nat.reduceSub, reduceIte, implies_true, gt_189, gr_189_14, gt_202, gr_189_42, gt_226, gr_189_44, gt_227, gr_189_9, gt_198]
    refine ⟨fun q => absurd q (by omega), fun _ => ⟨fun q => ?_, fun q => ?_⟩⟩
    · rcases h with ⟨h1, _⟩ | h
      · omega
      · exact N v (Or.inr h)
    · rcases h with ⟨h1, h2, h3⟩ | h
      · rw [w32_of (x := 21 * f) (by omega) (by omega), w32_of (x := 21 * f + 1) (by omega) (by omega), w32_of (x := 21 * f + 1 + i) (by omega) (by omega), w32_of (x := i + 1) (by omega) (by omega)]
        refine ⟨by omega, by omega, by omega, by omega, fun x => IH 0 (Or.inr ⟨rfl, fun y => x (y.2 i i0 (by omega))⟩), fun x => IH 1 (Or.inl ⟨rfl, h2, fun j a b => ?_⟩)⟩
        by_cases y : j = i
        · rw [y]
          exact x
        · exact h3 j a (by omega)
      · exact absurd h.1 q
theorem l_mb_67 {A B c : Int} (hd : 11 ≤ d) (R : RFR σ ω) (hc : 0 ≤ c ∧ c ≤ 400) (hAB : 0 ≤ A ∧ A ≤ B ∧ B ≤ dn ω) (hP : ∀ f, 0 ≤ f → f < dn ω → (preP (σ 198) (σ 227) (21 * f) c ↔ A ≤ f ∧ f < B)) : ∀ (k f : Nat) (τ : jH), (f : Int) + k = dn ω → (∀ x, x ≠ 189 → x ≠ 226 → τ x = σ x) → (∀ x, x ≠ 43 → τ 189 x = σ 189 x) → τ 189 43 = (if (f : Int) ≤ A then 0 else if (f : Int) ≤ B then f - A else B - A) → (∀ i, 0 ≤ i → i < τ 189 43 → τ 226 i = A + i) →
    Ev (l, (fun _ => 0), 0) d 0 0 m_Model_begins (RW fun z τ => z = B - A ∧ BGQ τ A (B - A) ∧ (∀ x, x ≠ 189 → x ≠ 226 → τ x = σ x) ∧ ∀ x, x ≠ 43 → τ 189 x = σ 189 x) 67 [some (vR 189), some (vI c), some (vI f), none, none] [] gW τ 0 0
  | 0, f, τ, hk, F, F1, V, U => by
    have d10 := R.2.2.2.2.1
    have d680 := R.2.2.1
    have e : τ 189 43 = B - A := by
      rw [V]
      split
      · omega
      · split <;> omega
    refine jwp_sound t_Model_begins _ (b_Model_begins_67 ?_)
    simp only [RW, true_and, and_true, and_self, true_or, or_true, Nat.reduceLeDiff, Nat.reduceEqDiff, Nat.reduceAdd, Int.reduceLE, Int.reduceLT, Int.reduceEq, Int.reduceNeg, Int.reduceNe, Nat.reduceSub, reduceIte, implies_true, gt_189, gr_189_14, gt_202, gr_189_42, gt_226, gr_189_44, gt_227, gr_189_9, gt_198]
    rw [F1 10 (by omega), d10]
    exact ⟨fun _ => ⟨e, ⟨e, by omega, fun i a b => U i a (by omega)⟩, F, F1⟩, fun q => absurd q (by omega)⟩
  | k + 1, f, τ, hk, F, F1, V, U => by
    have d10 := R.2.2.2.2.1
    have d680 := R.2.2.1
    have Vf := (R.2.2.2.2.2.2.2.1 f (by omega) (by omega)).1
    have hp := hP f (by omega) (by omega)
    have IH := fun υ F F1 V U => l_mb_67 hd R hc hAB hP k (f + 1) υ (by omega) F F1 V U
    rw [show ((f + 1 : Nat) : Int) = (f : Int) + 1 by omega] at IH
    have e198 : τ 198 = σ 198 := F 198 (by omega) (by omega)
    have e227 : τ 227 = σ 227 := F 227 (by omega) (by omega)
    refine jwp_sound t_Model_begins _ (b_Model_begins_67 ?_)
    simp only [RW, true_and, and_true, and_self, true_or, or_true, Nat.reduceLeDiff, Nat.reduceEqDiff, Nat.reduceAdd, Int.reduceLE, Int.reduceLT, Int.reduceEq, Int.reduceNeg, Int.reduceNe, Nat.reduceSub, reduceIte, implies_true, gt_189, gr_189_14, gt_202, gr_189_42, gt_226, gr_189_44, gt_227, gr_189_9, gt_198]
    rw [F1 10 (by omega), d10, w32_of (x := 21 * (f : Int)) (by omega) (by omega)]
    refine ⟨fun q => absurd q (by omega), fun _ => ⟨by omega, by omega, ?_⟩⟩
    have go : ∀ v : Int, (v = 1 ∧ c ≤ τ 198 (21 * f) ∧ ∀ j, 0 ≤ j → j < 0 → τ 198 (21 * f + 1 + j) = τ 227 j) ∨ (v = 0 ∧ ¬ preP (τ 198) (τ 227) (21 * f) c) → Ev (l, (fun _ => 0), 0) d 0 0 m_Model_begins (RW fun z τ => z = B - A ∧ BGQ τ A (B - A) ∧ (∀ x, x ≠ 189 → x ≠ 226 → τ x = σ x) ∧ ∀ x, x ≠ 43 → τ 189 x = σ 189 x) 97 [some (vR 189), some (vI c), some (vI f), some (vI v), some (vI 0)] [] gW τ 0 0 := fun v hv => by
      refine l_mb_97 (σ := τ) (f := f) (c := c) hd (by omega) hc (by rw [e198]; exact Vf) (fun v hv => ?_) c.toNat 0 v (by omega) (by omega) hv
      rw [e198, e227, hp] at hv
      refine jwp_sound t_Model_begins _ (b_Model_begins_143 ?_)
      simp only [RW, true_and, and_true, and_self, true_or, or_true, Nat.reduceLeDiff, Nat.reduceEqDiff, Nat.reduceAdd, Int.reduceLE, Int.reduceLT, Int.reduceEq, Int.reduceNeg, Int.reduceNe, Nat.reduceSub, reduceIte, implies_true, gt_189, gr_189_14, gt_202, gr_189_42, gt_226, gr_189_44, gt_227, gr_189_9, gt_198]
      rw [ju_row (a := 226) (c := 189) (by omega), w32_of (x := (f : Int) + 1) (by omega) (by omega)]
      rcases hv with ⟨h1, h2, h3⟩ | ⟨h1, h2⟩
      · have e : τ 189 43 = f - A := by
          rw [V]
          split
          · omega
          · rw [if_pos (by omega)]
        rw [e, w32_of (x := (f : Int) - A + 1) (by omega) (by omega)]
        refine ⟨fun _ => ⟨by omega, by omega, ?_⟩, fun x => absurd x (by omega)⟩
        refine IH _ (fun x a b => by rw [ju_row a, ju_row b, F x a b]) (fun x hx => by rw [ju_ne2 hx, ju_row (by omega), F1 x hx]) (by rw [ju_self, if_neg (by omega), if_pos (by omega)]; omega) (fun i a b => ?_)
        rw [ju_self] at b
        rw [ju_row (by omega)]
        by_cases y : i = f - A
        · rw [y, ju_self]
          omega
        · rw [ju_ne2 y]
          exact U i a (by omega)
      · refine ⟨fun x => absurd h1 x, fun _ => IH τ F F1 ?_ U⟩
        rw [V]
        by_cases y : (f : Int) ≤ A
        · rw [if_pos y]
          split
          · rfl
          · split <;> omega
        · rw [if_neg y]
          split <;> split <;> omega
    refine ⟨fun q => go 0 (Or.inr ⟨rfl, fun x => absurd x.1 (by omega)⟩), fun q => go 1 (Or.inl ⟨rfl, q, fun j a b => by omega⟩)⟩
theorem c_Model_begins (R : RFR σ ω) (T : TPR σ n t) : Cw 11 m_Model_begins [vR 189] σ (fun z τ => BGP2 σ τ ω n t z) := by
  obtain ⟨T1, T2, T3⟩ := T
  have d0 : 0 ≤ dn ω := R.2.1.1
  have lr := lcnt_r t n.toNat
  refine Cw_of o_Model_begins rfl fun l d hd => jwp_sound t_Model_begins _ (b_Model_begins_0 ?_)
  refine l_mb_4 (t := t) (σ := σ) hd R.1 R.2.2.2.1 T1 T3 T2 (fun τ F B => ?_) n.toNat 0 σ (by omega) (fun _ _ => rfl) (fun _ => ⟨⟨by show (0 : Int) ≤ if (0 : Int) = 0 then _ else _; rw [if_pos rfl]; exact Int.le_refl _, by show (if (0 : Int) = 0 then _ else _) ≤ (20 : Int); rw [if_pos rfl]; show (0 : Int) ≤ 20; omega, fun j a b => absurd b (by show ¬ j < (if (0 : Int) = 0 then (0 : Int) else _); rw [if_pos rfl]; omega)⟩, by have h0 : vrw (σ 227) (lcnt t 0) 0 = 0 := if_pos rfl; rw [rk_0 h0]; show (0 : Int) = km (fo ω) 0; rw [km_0]⟩)
  generalize hχ : ju (ju τ 189 15 0) 189 43 0 = χ
  have Fχ : ∀ c, c ≠ 189 → c ≠ 227 → χ c = σ c := fun c a b => by rw [← hχ, ju_row a, ju_row a, F c b]
  have F1 : ∀ j, j ≠ 15 → j ≠ 43 → χ 189 j = σ 189 j := fun j a b => by rw [← hχ, ju_ne2 b, ju_ne2 a, F 189 (by omega)]
  have z43 : χ 189 43 = 0 := by rw [← hχ, ju_self]
  have z15 : χ 189 15 = 0 := by rw [← hχ, ju_ne2 (by omega), ju_self]
  have e227 : χ 227 = τ 227 := by rw [← hχ, ju_row (by omega), ju_row (by omega)]
  have Rχ : RFR χ ω := R.of2 (fun c a b => Fχ c (by omega) (by omega)) (F1 10 (by omega) (by omega))
  have post : ∀ A B, bgF ω t n = A → bgN ω t n = B - A → (0 ≤ A ∧ A ≤ B ∧ B ≤ dn ω) → (∀ f, 0 ≤ f → f < dn ω → (preP (χ 198) (χ 227) (21 * f) (lcnt t n.toNat) ↔ A ≤ f ∧ f < B)) → Ev (l, (fun _ => 0), 0) d 0 0 m_Model_begins (RW fun z τ => BGP2 σ τ ω n t z) 67 [some (vR 189), some (vI (lcnt t n.toNat)), some (vI 0), none, none] [] gW χ 0 0 := fun A B hA hB hAB hP => by
    have ev := l_mb_67 (l := l) hd Rχ ⟨lr.1, by omega⟩ hAB hP (dn ω).toNat 0 χ (by omega) (fun _ _ _ => rfl) (fun _ _ => rfl) (by rw [z43, if_pos (by omega)]) (fun i a b => by rw [z43] at b; omega)
    refine Ev_post ev (fun z υ hz => ?_)
    obtain ⟨h1, h2, h3, h4⟩ := hz
    unfold BGP2
    rw [hA, hB]
    exact ⟨h1, h2, fun c a b b2 => by rw [h3 c a b, Fχ c a b2], by rw [h4 15 (by omega), z15], fun j a b => by rw [h4 j b, F1 j a b]⟩
  by_cases h20 : lcnt t n.toNat ≤ 20
  · obtain ⟨b1, b2⟩ := B h20
    have cn := tky_cnt t n.toNat
    have ce : lcnt t n.toNat = (((tky t 0 n.toNat).2 : Nat) : Int) := by omega
    have ok := tky_ok t 0 n.toNat
    have hM : 0 < (32 : Int) ^ (20 - (tky t 0 n.toNat).2) := p32 _
    have B0 := bg_is (K := bgK ω t n) (M := 32 ^ (20 - (tky t 0 n.toNat).2)) R.2.1 hM
    obtain ⟨g1, g4, g5, g6⟩ := B0
    refine post (bgA ω (bgK ω t n)) (bgA ω (bgK ω t n + 32 ^ (20 - (tky t 0 n.toNat).2))) (if_pos h20) (if_pos h20) g1 (fun f f0 f1 => ?_)
    obtain ⟨Vf, Kf⟩ := Rχ.2.2.2.2.2.2.2.1 f f0 f1
    rw [ce] at b1 b2 ⊢
    have px := pre_iff (g := τ 227) Vf b1 ok.1
    rw [b2, Kf] at px
    unfold preP
    rw [e227, ← px]
    have kk : km (fo ω) (tky t 0 n.toNat).1 = bgK ω t n := rfl
    rw [kk]
    constructor
    · rintro ⟨u, v⟩
      refine ⟨?_, ?_⟩
      · by_cases q : f < bgA ω (bgK ω t n)
        · have := g4 f f0 q
          omega
        · omega
      · by_cases q : f < bgA ω (bgK ω t n + 32 ^ (20 - (tky t 0 n.toNat).2))
        · exact q
        · have := g6 f (by omega) f1
          omega
    · rintro ⟨u, v⟩
      exact g5 f u v
  · refine post 0 0 (if_neg h20) (by unfold bgN; rw [if_neg h20]; rfl) (by omega) (fun f f0 f1 => ?_)
    have Vf := (Rχ.2.2.2.2.2.2.2.1 f f0 f1).1
    have v2 := Vf.2.1
    unfold preP
    exact ⟨fun x => absurd x.1 (by omega), fun x => by omega⟩
theorem c_Model_begun {F N : Int} (B : BGQ σ F N) (i : Int) : Cw 11 m_Model_begun [vR 189, vI i] σ (fun z τ => z = s_begun F N i ∧ τ = σ) := by
  obtain ⟨b1, b2, b3⟩ := B
  refine Cw_of o_Model_begun rfl fun l d hd => jwp_sound t_Model_begun _ (b_Model_begun_0 ?_)
  simp only [RW, true_and, and_true, and_self, true_or, or_true, Nat.reduceLeDiff, Nat.reduceEqDiff, Nat.reduceAdd, Int.reduceLE, Int.reduceLT, Int.reduceEq, Int.reduceNeg, Int.reduceNe, Nat.reduceSub, reduceIte, implies_true, gt_189, gr_189_42, gt_226]
  rw [b1, w32_of (x := N - 1) (by omega) (by omega)]
  refine cN_p (c_Model_in _ _ _ _) (by omega) ?_
  unfold s_begun
  by_cases q : 0 ≤ i ∧ i ≤ N - 1
  · rw [if_pos q, if_pos ⟨q.1, by omega⟩]
    refine ⟨fun x => absurd x (by omega), fun _ => ?_⟩
    repeat (refine And.intro (by omega) ?_)
    exact ⟨b3 i q.1 (by omega), rfl⟩
  · rw [if_neg q, if_neg (fun x => q ⟨x.1, by omega⟩)]
    exact ⟨fun _ => ⟨rfl, rfl⟩, fun x => absurd rfl x⟩
end BR
