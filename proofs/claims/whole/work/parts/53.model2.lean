/-! The reference: words compared, sought, put in -/
theorem c_Model_adds {a b : Int} (σ : jH) (h0 : 0 ≤ a) (h1 : a + 20 < 14280) (h2 : 0 ≤ σ 197 a) (h3 : σ 197 a ≤ 20) (hb : isL b) : Cw 11 m_Model_adds [vR 189, vI a, vI b] σ (fun _ τ => τ = if σ 197 a = 20 then σ else ju (ju σ 197 a (σ 197 a + 1)) 197 (a + (σ 197 a + 1)) (fo (σ 190) (b - 97))) := by
  refine Cw_of o_Model_adds rfl fun l d hd => jwp_sound t_Model_adds _ (b_Model_adds_0 ?_)
  simp only [RW, true_and, and_true, and_self, true_or, or_true, Nat.reduceLeDiff, Nat.reduceEqDiff, Nat.reduceAdd, Int.reduceLE, Int.reduceLT, Int.reduceEq, Int.reduceNeg, Int.reduceNe, Nat.reduceSub, reduceIte, implies_true, gt_189, gr_189_8, gt_197]
  rw [w32_of (x := b - 97) (by omega) (by omega), w32_of (x := σ 197 a + 1) (by omega) (by omega), ju_self, w32_of (x := a + (σ 197 a + 1)) (by omega) (by omega)]
  refine ⟨by omega, by omega, fun q => ?_, fun q => by rw [if_pos q]⟩
  repeat (refine And.intro (by omega) ?_)
  refine cN_p (c_Model_folded _ (by omega) (by omega)) (by omega) ?_
  rw [if_neg q, ju_row (by omega)]
  exact ⟨by omega, by omega, rfl⟩
theorem cmp_lt {g g' : Int → Int} {n : Nat} (hn : n < 20) (he : ∀ j : Int, 0 ≤ j → j < n → g j = g' j) (hl : g n < g' n) (h1 : ∀ j : Int, 0 ≤ j → 0 ≤ g j ∧ g j ≤ 26) (h2 : ∀ j : Int, 0 ≤ j → 0 ≤ g' j ∧ g' j ≤ 26) : rh g 20 < rh g' 20 := by
  obtain ⟨k, hk⟩ : ∃ k, n + 1 + k = 20 := ⟨19 - n, by omega⟩
  rw [← hk]
  exact rh_lt he hl k (fun j a _ => by have := h1 j a; omega) (fun j a _ => by have := h2 j a; omega)
/-- what a comparison tells -/
def CMP (x u v : Int) : Prop := (x < 0 ↔ u < v) ∧ (x = 0 ↔ u = v)
theorem CMP_lt {x u v : Int} (hx : x < 0) (h : u < v) : CMP x u v := ⟨by omega, by omega⟩
theorem CMP_gt {x u v : Int} (hx : 0 < x) (h : v < u) : CMP x u v := ⟨by omega, by omega⟩
theorem CMP_eq {x u v : Int} (hx : x = 0) (h : u = v) : CMP x u v := ⟨by omega, by omega⟩
theorem mg_in {ρ f : Int → Int} {a j : Int} (V : RV f a) (h0 : 0 ≤ j) (h : j < f a) : mp ρ (dgr f a j) = ρ (f (a + 1 + j)) + 1 := by
  have := V.2.2 j h0 h
  unfold dgr mp
  rw [if_pos h, if_pos (by omega)]
  congr 2
  omega
theorem mp_0 (ρ : Int → Int) : mp ρ 0 = 0 := by
  unfold mp
  rw [if_neg (by omega)]
theorem mg_out {ρ f : Int → Int} {a j : Int} (h : f a ≤ j) : mp ρ (dgr f a j) = 0 := by
  unfold dgr
  rw [if_neg (by omega), mp_0]
theorem l_Model_compare {l : Launch} {d : Nat} {A B R a b o nA nB nR : Int} {σ : jH} {ρ : Int → Int} (tA : gW.2.1 A = (1, nA)) (tB : gW.2.1 B = (1, nB)) (tR : gW.2.1 R = (1, nR)) (VA : RV (σ A) a) (VB : RV (σ B) b) (hρ : okρ ρ) (hR : ∀ l, 0 ≤ l → l < 26 → σ R (o + l) = ρ l)
    (a0 : 0 ≤ a) (a1 : a + 20 < nA) (b0 : 0 ≤ b) (b1 : b + 20 < nB) (o0 : 0 ≤ o) (o1 : o + 25 < nR) (mA : nA < 1000000) (mB : nB < 1000000) (mR : nR < 1000000) : ∀ (n : Nat) (k : Int), 21 - k ≤ n → 1 ≤ k → k - 1 ≤ σ A a → k - 1 ≤ σ B b → (∀ j, 0 ≤ j → j < k - 1 → ρ (σ A (a + 1 + j)) = ρ (σ B (b + 1 + j))) →
    Ev (l, (fun _ => 0), 0) d 0 0 m_Model_compare (RW fun z τ => CMP z (km ρ (rk (σ A) a)) (km ρ (rk (σ B) b)) ∧ τ = σ) 3 [some (vR A), some (vI a), some (vR B), some (vI b), some (vR R), some (vI o), some (vI k), none] [] gW σ 0 0 := by
  have rA : ∀ j : Int, 0 ≤ j → 0 ≤ mp ρ (dgr (σ A) a j) ∧ mp ρ (dgr (σ A) a j) ≤ 26 := fun j _ => mp_r hρ _
  have rB : ∀ j : Int, 0 ≤ j → 0 ≤ mp ρ (dgr (σ B) b j) ∧ mp ρ (dgr (σ B) b j) ≤ 26 := fun j _ => mp_r hρ _
  have lA20 := VA.2.1
  have lB20 := VB.2.1
  have same : ∀ k : Int, 1 ≤ k → k - 1 ≤ σ A a → k - 1 ≤ σ B b → (∀ j, 0 ≤ j → j < k - 1 → ρ (σ A (a + 1 + j)) = ρ (σ B (b + 1 + j))) → ∀ j : Int, 0 ≤ j → j < (k - 1).toNat → mp ρ (dgr (σ A) a j) = mp ρ (dgr (σ B) b j) := by
    intro k hk hka hkb h j j0 j1
    rw [mg_in VA j0 (by omega), mg_in VB j0 (by omega), h j j0 (by omega)]
  -- a row has ended
  have fin : ∀ k : Int, 1 ≤ k → k - 1 ≤ σ A a → k - 1 ≤ σ B b → (∀ j, 0 ≤ j → j < k - 1 → ρ (σ A (a + 1 + j)) = ρ (σ B (b + 1 + j))) → (σ A a < k ∨ σ B b < k) → CMP (w32 (σ A a - σ B b)) (km ρ (rk (σ A) a)) (km ρ (rk (σ B) b)) := by
    intro k hk hka hkb h he
    have sm := same k hk hka hkb h
    rw [km_rk VA, km_rk VB, w32_of (by omega) (by omega)]
    by_cases q : σ A a = σ B b
    · refine CMP_eq (by omega) (rh_eq fun j j0 _ => ?_)
      by_cases hj : j < k - 1
      · exact sm j j0 (by omega)
      · rw [mg_out (by omega), mg_out (by omega)]
    · by_cases q2 : σ A a < σ B b
      · have e : (((k - 1).toNat : Nat) : Int) = k - 1 := by omega
        refine CMP_lt (by omega) (cmp_lt (n := (k - 1).toNat) (by omega) sm ?_ rA rB)
        show mp ρ (dgr (σ A) a (((k - 1).toNat : Nat) : Int)) < mp ρ (dgr (σ B) b (((k - 1).toNat : Nat) : Int))
        rw [mg_out (by omega), mg_in VB (by omega) (by omega)]
        have h1 := VB.2.2 (k - 1) (by omega) (by omega)
        have h2 := hρ _ h1.1 h1.2
        rw [e]
        omega
      · have e : (((k - 1).toNat : Nat) : Int) = k - 1 := by omega
        refine CMP_gt (by omega) (cmp_lt (n := (k - 1).toNat) (by omega) (fun j x y => (sm j x y).symm) ?_ rB rA)
        show mp ρ (dgr (σ B) b (((k - 1).toNat : Nat) : Int)) < mp ρ (dgr (σ A) a (((k - 1).toNat : Nat) : Int))
        rw [mg_out (by omega), mg_in VA (by omega) (by omega)]
        have h1 := VA.2.2 (k - 1) (by omega) (by omega)
        have h2 := hρ _ h1.1 h1.2
        rw [e]
        omega
  intro n
  induction n with
  | zero =>
    intro k hn hk hka hkb h
    refine jwp_sound t_Model_compare _ (b_Model_compare_3 ?_)
    simp only [RW, true_and, and_true, and_self, true_or, or_true, Nat.reduceLeDiff, Nat.reduceEqDiff, Nat.reduceAdd, Int.reduceLE, Int.reduceLT, Int.reduceEq, Int.reduceNeg, Int.reduceNe, Nat.reduceSub, reduceIte, implies_true, tA, tB, tR]
    refine ⟨a0, by omega, fun q => ⟨a0, by omega, b0, by omega, fin k hk hka hkb h (Or.inl q)⟩, fun q => absurd q (by omega)⟩
  | succ n ih =>
    intro k hn hk hka hkb h
    refine jwp_sound t_Model_compare _ (b_Model_compare_3 ?_)
    simp only [RW, true_and, and_true, and_self, true_or, or_true, Nat.reduceLeDiff, Nat.reduceEqDiff, Nat.reduceAdd, Int.reduceLE, Int.reduceLT, Int.reduceEq, Int.reduceNeg, Int.reduceNe, Nat.reduceSub, reduceIte, implies_true, tA, tB, tR]
    refine ⟨a0, by omega, fun q => ⟨a0, by omega, b0, by omega, fin k hk hka hkb h (Or.inl q)⟩, fun q => ⟨b0, by omega, fun q2 => ⟨a0, by omega, b0, by omega, fin k hk hka hkb h (Or.inr q2)⟩, fun q2 => ?_⟩⟩
    have h1 := VA.2.2 (k - 1) (by omega) (by omega)
    have h2 := VB.2.2 (k - 1) (by omega) (by omega)
    have e1 : a + 1 + (k - 1) = a + k := by omega
    have e2 : b + 1 + (k - 1) = b + k := by omega
    rw [e1] at h1
    rw [e2] at h2
    have r1 := hρ _ h1.1 h1.2
    have r2 := hρ _ h2.1 h2.2
    rw [w32_of (x := a + k) (by omega) (by omega), w32_of (x := b + k) (by omega) (by omega), w32_of (x := o + _) (by omega) (by omega), w32_of (x := o + _) (by omega) (by omega), hR _ h1.1 h1.2, hR _ h2.1 h2.2, w32_of (by omega) (by omega), w32_of (x := k + 1) (by omega) (by omega)]
    refine ⟨by omega, by omega, by omega, by omega, by omega, by omega, by omega, by omega, fun q3 => ?_, fun q3 => ?_⟩
    · refine ih (k + 1) (by omega) (by omega) (by omega) (by omega) (fun j j0 j1 => ?_)
      by_cases hj : j = k - 1
      · subst hj
        rw [e1, e2]
        omega
      · exact h j j0 (by omega)
    · have sm := same k hk hka hkb h
      have e : (((k - 1).toNat : Nat) : Int) = k - 1 := by omega
      rw [km_rk VA, km_rk VB]
      have eA : mp ρ (dgr (σ A) a (k - 1)) = ρ (σ A (a + k)) + 1 := by rw [mg_in VA (by omega) (by omega), e1]
      have eB : mp ρ (dgr (σ B) b (k - 1)) = ρ (σ B (b + k)) + 1 := by rw [mg_in VB (by omega) (by omega), e2]
      by_cases q4 : ρ (σ A (a + k)) < ρ (σ B (b + k))
      · refine CMP_lt (by omega) (cmp_lt (n := (k - 1).toNat) (by omega) sm ?_ rA rB)
        show mp ρ (dgr (σ A) a (((k - 1).toNat : Nat) : Int)) < mp ρ (dgr (σ B) b (((k - 1).toNat : Nat) : Int))
        rw [e, eA, eB]
        omega
      · refine CMP_gt (by omega) (cmp_lt (n := (k - 1).toNat) (by omega) (fun j x y => (sm j x y).symm) ?_ rB rA)
        show mp ρ (dgr (σ B) b (((k - 1).toNat : Nat) : Int)) < mp ρ (dgr (σ A) a (((k - 1).toNat : Nat) : Int))
        rw [e, eA, eB]
        omega
theorem c_Model_compare {A B R a b o nA nB nR : Int} (σ : jH) {ρ : Int → Int} (tA : gW.2.1 A = (1, nA)) (tB : gW.2.1 B = (1, nB)) (tR : gW.2.1 R = (1, nR)) (VA : RV (σ A) a) (VB : RV (σ B) b) (hρ : okρ ρ) (hR : ∀ l, 0 ≤ l → l < 26 → σ R (o + l) = ρ l)
    (a0 : 0 ≤ a) (a1 : a + 20 < nA) (b0 : 0 ≤ b) (b1 : b + 20 < nB) (o0 : 0 ≤ o) (o1 : o + 25 < nR) (mA : nA < 1000000) (mB : nB < 1000000) (mR : nR < 1000000) :
    Cw 10 m_Model_compare [vR A, vI a, vR B, vI b, vR R, vI o] σ (fun z τ => CMP z (km ρ (rk (σ A) a)) (km ρ (rk (σ B) b)) ∧ τ = σ) := by
  refine Cw_of o_Model_compare rfl fun l d hd => jwp_sound t_Model_compare _ (b_Model_compare_0 ?_)
  exact l_Model_compare tA tB tR VA VB hρ hR a0 a1 b0 b1 o0 o1 mA mB mR 20 1 (by omega) (by omega) (by have := VA.1; omega) (by have := VB.1; omega) (fun j j0 j1 => absurd j1 (by omega))
def ALP (σ : jH) : Prop := ∀ l, 0 ≤ l → l < 26 → σ 200 l = l
theorem ok_id : okρ (fun l => l) := fun l h0 h1 => ⟨h0, h1⟩
/-- by the alphabet -/
theorem c_Model_compareA {A B a b nA nB : Int} (σ : jH) (hal : ALP σ) (tA : gW.2.1 A = (1, nA)) (tB : gW.2.1 B = (1, nB)) (VA : RV (σ A) a) (VB : RV (σ B) b) (a0 : 0 ≤ a) (a1 : a + 20 < nA) (b0 : 0 ≤ b) (b1 : b + 20 < nB) (mA : nA < 1000000) (mB : nB < 1000000) :
    Cw 10 m_Model_compare [vR A, vI a, vR B, vI b, vR 200, vI 0] σ (fun z τ => CMP z (rk (σ A) a) (rk (σ B) b) ∧ τ = σ) := by
  have h := c_Model_compare (R := 200) (o := 0) σ tA tB gt_200 VA VB ok_id (fun l h0 h1 => by rw [Int.zero_add]; exact hal l h0 h1) a0 a1 b0 b1 (by omega) (by omega) mA mB (by omega)
  rwa [km_id VA (fun l _ _ => rfl), km_id VB (fun l _ _ => rfl)] at h
/-- the forms: rising -/
def FRM (σ : jH) (n : Int) : Prop := 0 ≤ n ∧ n ≤ 680 ∧ σ 189 10 = n ∧ (∀ f, 0 ≤ f → f < n → RV (σ 198) (21 * f)) ∧ ∀ f g, 0 ≤ f → f < g → g < n → rk (σ 198) (21 * f) < rk (σ 198) (21 * g)
def FDM (σ : jH) (n K x : Int) : Prop := (x = -1 ∧ ∀ f, 0 ≤ f → f < n → rk (σ 198) (21 * f) ≠ K) ∨ (0 ≤ x ∧ x < n ∧ rk (σ 198) (21 * x) = K)
theorem l_Model_find {l : Launch} {d : Nat} {X a nX n : Int} {σ : jH} (hd : 11 ≤ d) (hal : ALP σ) (tX : gW.2.1 X = (1, nX)) (VX : RV (σ X) a) (a0 : 0 ≤ a) (a1 : a + 20 < nX) (mX : nX < 1000000) (F : FRM σ n) : ∀ (k : Nat) (lo hi : Int), hi - lo < k → 0 ≤ lo → lo ≤ hi + 1 → hi < n → (∀ f, 0 ≤ f → f < lo → rk (σ 198) (21 * f) < rk (σ X) a) → (∀ f, hi < f → f < n → rk (σ X) a < rk (σ 198) (21 * f)) →
    Ev (l, (fun _ => 0), 0) d 0 0 m_Model_find (RW fun z τ => FDM σ n (rk (σ X) a) z ∧ τ = σ) 10 [some (vR 189), some (vR X), some (vI a), some (vI lo), some (vI hi), none, none] [] gW σ 0 0 := by
  obtain ⟨n0, n1, n2, F1, F2⟩ := F
  intro k
  induction k with
  | zero =>
    intro lo hi hk h0 h1 h2 hl hh
    refine jwp_sound t_Model_find _ (b_Model_find_10 ?_)
    simp only [RW, true_and, and_true, and_self, true_or, or_true, Nat.reduceLeDiff, Nat.reduceEqDiff, Nat.reduceAdd, Int.reduceLE, Int.reduceLT, Int.reduceEq, Int.reduceNeg, Int.reduceNe, Nat.reduceSub, reduceIte, implies_true, gt_189, gr_189_12, gt_200, gr_189_9, gt_198]
    refine ⟨fun _ => Or.inl ⟨rfl, fun f f0 f1 e => ?_⟩, fun q => absurd q (by omega)⟩
    by_cases q : f < lo
    · have := hl f f0 q
      omega
    · have := hh f (by omega) f1
      omega
  | succ k ih =>
    intro lo hi hk h0 h1 h2 hl hh
    refine jwp_sound t_Model_find _ (b_Model_find_10 ?_)
    simp only [RW, true_and, and_true, and_self, true_or, or_true, Nat.reduceLeDiff, Nat.reduceEqDiff, Nat.reduceAdd, Int.reduceLE, Int.reduceLT, Int.reduceEq, Int.reduceNeg, Int.reduceNe, Nat.reduceSub, reduceIte, implies_true, gt_189, gr_189_12, gt_200, gr_189_9, gt_198]
    refine ⟨fun _ => Or.inl ⟨rfl, fun f f0 f1 e => ?_⟩, fun q => ?_⟩
    · by_cases q : f < lo
      · have := hl f f0 q
        omega
      · have := hh f (by omega) f1
        omega
    · have em : w32 ((w32 (lo + hi)).tdiv 2) = (lo + hi) / 2 := by
        rw [w32_of (x := lo + hi) (by omega) (by omega), Int.tdiv_eq_ediv_of_nonneg (by omega), w32_of (by omega) (by omega)]
      rw [em]
      have hm : lo ≤ (lo + hi) / 2 ∧ (lo + hi) / 2 ≤ hi := by omega
      generalize (lo + hi) / 2 = m at hm ⊢
      rw [w32_of (x := 21 * m) (by omega) (by omega)]
      refine cN_w (c_Model_compareA (A := 198) (B := X) σ hal gt_198 tX (F1 m (by omega) (by omega)) VX (by omega) (by omega) a0 a1 (by omega) mX) (by omega) (fun z τ hz => ?_)
      obtain ⟨⟨z1, z2⟩, rfl⟩ := hz
      rw [w32_of (x := m - 1) (by omega) (by omega), w32_of (x := m + 1) (by omega) (by omega)]
      refine ⟨fun q2 => ⟨fun q3 => ?_, fun q3 => ?_⟩, fun q2 => ⟨Or.inr ⟨by omega, by omega, z2.mp q2⟩, rfl⟩⟩
      · refine ih lo (m - 1) (by omega) h0 (by omega) (by omega) hl (fun f f0 f1 => ?_)
        have hgt : rk (τ X) a < rk (τ 198) (21 * m) := by omega
        by_cases hf : f = m
        · rw [hf]
          exact hgt
        · have := F2 m f (by omega) (by omega) f1
          omega
      · refine ih (m + 1) hi (by omega) (by omega) (by omega) h2 (fun f f0 f1 => ?_) hh
        have hgt := z1.mp q3
        by_cases hf : f = m
        · rw [hf]
          exact hgt
        · have := F2 f m f0 (by omega) (by omega)
          omega
theorem c_Model_find {X a nX n : Int} (σ : jH) (hal : ALP σ) (tX : gW.2.1 X = (1, nX)) (VX : RV (σ X) a) (a0 : 0 ≤ a) (a1 : a + 20 < nX) (mX : nX < 1000000) (F : FRM σ n) :
    Cw 11 m_Model_find [vR 189, vR X, vI a] σ (fun z τ => FDM σ n (rk (σ X) a) z ∧ τ = σ) := by
  have F' := F
  obtain ⟨n0, n1, n2, F1, F2⟩ := F'
  refine Cw_of o_Model_find rfl fun l d hd => jwp_sound t_Model_find _ (b_Model_find_0 ?_)
  simp only [RW, true_and, and_true, and_self, true_or, or_true, Nat.reduceLeDiff, Nat.reduceEqDiff, Nat.reduceAdd, Int.reduceLE, Int.reduceLT, Int.reduceEq, Int.reduceNeg, Int.reduceNe, Nat.reduceSub, reduceIte, implies_true, gt_189, gr_189_12, gt_200, gr_189_9, gt_198]
  rw [n2, w32_of (by omega) (by omega)]
  exact l_Model_find hd hal tX VX a0 a1 mX F n.toNat 0 (n - 1) (by omega) (by omega) (by omega) (by omega) (fun f f0 f1 => absurd f1 (by omega)) (fun f f0 f1 => absurd f1 (by omega))
theorem jcpy_0 (σ : jH) (F a T b : Int) : jcpy σ F a T b 0 = σ := by
  funext c j
  unfold jcpy
  grind
theorem jcpy_s (σ : jH) (F a T b k : Int) (h : F ≠ T ∨ b + k ≤ a ∨ a + k < b) (h0 : 0 ≤ k) : ju (jcpy σ F a T b k) T (b + k) (jcpy σ F a T b k F (a + k)) = jcpy σ F a T b (k + 1) := by
  have e : jcpy σ F a T b k F (a + k) = σ F (a + k) := by
    unfold jcpy
    rw [if_neg (by omega)]
  rw [e]
  funext c j
  unfold ju jcpy
  by_cases hc : c = T
  · subst hc
    by_cases hj : j = b + k
    · subst hj
      rw [if_pos ⟨rfl, rfl⟩, if_pos ⟨rfl, by omega, by omega⟩]
      congr 1
      omega
    · rw [if_neg (fun x => hj x.2)]
      by_cases hj2 : b ≤ j ∧ j < b + k
      · rw [if_pos ⟨rfl, hj2.1, hj2.2⟩, if_pos ⟨rfl, hj2.1, by omega⟩]
      · rw [if_neg (fun x => hj2 x.2), if_neg (fun x => hj2 ⟨x.2.1, by omega⟩)]
  · rw [if_neg (fun x => hc x.1), if_neg (fun x => hc x.1), if_neg (fun x => hc x.1)]
theorem l_Model_copies {l : Launch} {d : Nat} {F a T b nF nT : Int} {σ : jH} (tF : gW.2.1 F = (1, nF)) (tT : gW.2.1 T = (1, nT)) (a0 : 0 ≤ a) (a1 : a + 20 < nF) (b0 : 0 ≤ b) (b1 : b + 20 < nT) (mF : nF < 1000000) (mT : nT < 1000000) (h : F ≠ T ∨ b + 21 ≤ a ∨ a + 21 ≤ b) : ∀ (n : Nat) (k : Int), 0 ≤ k → k + n = 21 →
    Ev (l, (fun _ => 0), 0) d 0 0 m_Model_copies (RW fun _ τ => τ = jcpy σ F a T b 21) 3 [some (vR F), some (vI a), some (vR T), some (vI b), some (vI k)] [] gW (jcpy σ F a T b k) 0 0
  | 0, k, h0, h1 => by
    refine jwp_sound t_Model_copies _ (b_Model_copies_3 ?_)
    have e : k = 21 := by omega
    subst e
    exact ⟨fun _ => ⟨rfl, rfl⟩, fun q => absurd q (by omega)⟩
  | n + 1, k, h0, h1 => by
    refine jwp_sound t_Model_copies _ (b_Model_copies_3 ?_)
    simp only [RW, true_and, and_true, and_self, true_or, or_true, Nat.reduceLeDiff, Nat.reduceEqDiff, Nat.reduceAdd, Int.reduceLE, Int.reduceLT, Int.reduceEq, Int.reduceNeg, Int.reduceNe, Nat.reduceSub, reduceIte, implies_true, tF, tT]
    refine ⟨fun q => absurd q (by omega), fun q => ?_⟩
    rw [w32_of (x := a + k) (by omega) (by omega), w32_of (x := b + k) (by omega) (by omega), w32_of (x := k + 1) (by omega) (by omega), jcpy_s _ _ _ _ _ _ (by omega) h0]
    exact ⟨by omega, by omega, by omega, by omega, l_Model_copies tF tT a0 a1 b0 b1 mF mT h n (k + 1) (by omega) (by omega)⟩
theorem c_Model_copies {F a T b nF nT : Int} (σ : jH) (tF : gW.2.1 F = (1, nF)) (tT : gW.2.1 T = (1, nT)) (a0 : 0 ≤ a) (a1 : a + 20 < nF) (b0 : 0 ≤ b) (b1 : b + 20 < nT) (mF : nF < 1000000) (mT : nT < 1000000) (h : F ≠ T ∨ b + 21 ≤ a ∨ a + 21 ≤ b) :
    Cw 10 m_Model_copies [vR F, vI a, vR T, vI b] σ (fun _ τ => τ = jcpy σ F a T b 21) := by
  refine Cw_of o_Model_copies rfl fun l d hd => jwp_sound t_Model_copies _ (b_Model_copies_0 ?_)
  have := l_Model_copies (l := l) (d := d) (σ := σ) tF tT a0 a1 b0 b1 mF mT h 21 0 (by omega) (by omega)
  rwa [jcpy_0] at this
