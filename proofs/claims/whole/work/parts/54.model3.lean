/-! The reference: a form comes in -/
theorem jcpy_in {σ : jH} {F a T b n i : Int} (h0 : 0 ≤ i) (h1 : i < n) : jcpy σ F a T b n T (b + i) = σ F (a + i) := by
  unfold jcpy
  rw [if_pos ⟨rfl, by omega, by omega⟩]
  congr 1
  omega
theorem jcpy_out {σ : jH} {F a T b n c j : Int} (h : c ≠ T ∨ j < b ∨ b + n ≤ j) : jcpy σ F a T b n c j = σ c j := by
  unfold jcpy
  rw [if_neg (by omega)]
theorem jcpy_row {σ : jH} {F a T b n c : Int} (h : c ≠ T) : jcpy σ F a T b n c = σ c := by
  funext j
  exact jcpy_out (Or.inl h)
theorem rk_in {σ : jH} {F a T b : Int} (V : RV (σ F) a) : RV (jcpy σ F a T b 21 T) b ∧ rk (jcpy σ F a T b 21 T) b = rk (σ F) a := by
  have h0 : σ F a = jcpy σ F a T b 21 T b := by
    have := jcpy_in (σ := σ) (F := F) (a := a) (T := T) (b := b) (n := 21) (i := 0) (by omega) (by omega)
    simpa using this.symm
  have h1 : ∀ j, 0 ≤ j → j < σ F a → σ F (a + 1 + j) = jcpy σ F a T b 21 T (b + 1 + j) := by
    intro j j0 j1
    have v := V.2.1
    have := jcpy_in (σ := σ) (F := F) (a := a) (T := T) (b := b) (n := 21) (i := 1 + j) (by omega) (by omega)
    rw [show b + 1 + j = b + (1 + j) by omega, this]
    congr 1
    omega
  exact ⟨RV_eq V h0 h1, (rk_eq h0 h1).symm⟩
theorem rk_out {σ : jH} {F a T b c : Int} (V : RV (σ T) c) (h : c + 20 < b ∨ b + 21 ≤ c) : RV (jcpy σ F a T b 21 T) c ∧ rk (jcpy σ F a T b 21 T) c = rk (σ T) c := by
  have h0 : σ T c = jcpy σ F a T b 21 T c := (jcpy_out (by omega)).symm
  have h1 : ∀ j, 0 ≤ j → j < σ T c → σ T (c + 1 + j) = jcpy σ F a T b 21 T (c + 1 + j) := by
    intro j j0 j1
    have v := V.2.1
    exact (jcpy_out (by omega)).symm
  exact ⟨RV_eq V h0 h1, (rk_eq h0 h1).symm⟩
def INS (σ τ : jH) (n K k : Int) : Prop := (∀ f, 0 ≤ f → f < k → RV (τ 198) (21 * f) ∧ rk (τ 198) (21 * f) = rk (σ 198) (21 * f)) ∧ (∀ f, k < f → f ≤ n → RV (τ 198) (21 * f) ∧ rk (τ 198) (21 * f) = rk (σ 198) (21 * (f - 1))) ∧ (∀ f, k ≤ f → f < n → K < rk (σ 198) (21 * f)) ∧ ∀ c, c ≠ 198 → τ c = σ c
/-- a form came in -/
def CAME (σ τ : jH) (n K : Int) : Prop := (∃ m, n ≤ m ∧ m ≤ n + 1 ∧ FRM τ m ∧ ∀ v, (∃ f, 0 ≤ f ∧ f < m ∧ rk (τ 198) (21 * f) = v) ↔ ((∃ f, 0 ≤ f ∧ f < n ∧ rk (σ 198) (21 * f) = v) ∨ v = K)) ∧ (∀ c, c ≠ 198 → c ≠ 189 → τ c = σ c) ∧ ∀ j, j ≠ 10 → τ 189 j = σ 189 j
theorem s_comes_76 {l : Launch} {d : Nat} {a n k K : Int} {σ τ : jH} (hd : 12 ≤ d) (V : RV (σ 197) a) (hK : rk (σ 197) a = K) (a0 : 0 ≤ a) (a1 : a + 20 < 14280) (F : FRM σ n) (hn : n < 680) (k0 : 0 ≤ k) (k1 : k ≤ n) (I : INS σ τ n K k) (hl : ∀ f, 0 ≤ f → f < k → rk (σ 198) (21 * f) < K) :
    Ev (l, (fun _ => 0), 0) d 0 0 m_Model_comes (RW fun _ τ => CAME σ τ n K) 76 [some (vR 189), some (vI a), some (vI k)] [] gW τ 0 0 := by
  obtain ⟨n0, n1, n2, F1, F2⟩ := F
  obtain ⟨I1, I2, I3, I4⟩ := I
  have V' : RV (τ 197) a := by rw [I4 197 (by omega)]; exact V
  refine jwp_sound t_Model_comes _ (b_Model_comes_76 ?_)
  simp only [RW, true_and, and_true, and_self, true_or, or_true, Nat.reduceLeDiff, Nat.reduceEqDiff, Nat.reduceAdd, Int.reduceLE, Int.reduceLT, Int.reduceEq, Int.reduceNeg, Int.reduceNe, Nat.reduceSub, reduceIte, implies_true, gt_189, gr_189_12, gt_200, gr_189_8, gt_197, gr_189_9, gt_198]
  rw [w32_of (x := 21 * k) (by omega) (by omega)]
  refine cN_v (c_Model_copies (F := 197) (T := 198) τ gt_197 gt_198 a0 (by omega) (by omega) (by omega) (by omega) (by omega) (by omega)) (by omega) (fun _ => ?_)
  have e10 : jcpy τ 197 a 198 (21 * k) 21 189 10 = n := by
    rw [jcpy_row (by omega), I4 189 (by omega), n2]
  rw [e10, w32_of (by omega) (by omega)]
  have rows : ∀ c, c ≠ 189 → ju (jcpy τ 197 a 198 (21 * k) 21) 189 10 (n + 1) c = jcpy τ 197 a 198 (21 * k) 21 c := fun c hc => ju_row hc
  have in_ := rk_in (σ := τ) (F := 197) (T := 198) (b := 21 * k) V'
  have new : ∀ f, 0 ≤ f → f ≤ n → RV (jcpy τ 197 a 198 (21 * k) 21 198) (21 * f) ∧ rk (jcpy τ 197 a 198 (21 * k) 21 198) (21 * f) = if f < k then rk (σ 198) (21 * f) else if f = k then K else rk (σ 198) (21 * (f - 1)) := by
    intro f f0 f1
    by_cases h1 : f < k
    · rw [if_pos h1]
      have o := I1 f f0 h1
      have := rk_out (σ := τ) (F := 197) (a := a) (T := 198) (b := 21 * k) (c := 21 * f) o.1 (by omega)
      exact ⟨this.1, this.2.trans o.2⟩
    · rw [if_neg h1]
      by_cases h2 : f = k
      · rw [if_pos h2, h2]
        refine ⟨in_.1, in_.2.trans ?_⟩
        rw [I4 197 (by omega), hK]
      · rw [if_neg h2]
        have o := I2 f (by omega) f1
        have := rk_out (σ := τ) (F := 197) (a := a) (T := 198) (b := 21 * k) (c := 21 * f) o.1 (by omega)
        exact ⟨this.1, this.2.trans o.2⟩
  refine ⟨⟨n + 1, by omega, by omega, ⟨by omega, by omega, ju_self, fun f f0 f1 => ?_, fun f g f0 f1 f2 => ?_⟩, fun v => ?_⟩, fun c c1 c2 => ?_, fun j hj => ?_⟩
  · rw [rows 198 (by omega)]
    exact (new f f0 (by omega)).1
  · rw [rows 198 (by omega), (new f f0 (by omega)).2, (new g (by omega) (by omega)).2]
    split
    · split
      · exact F2 f g f0 f1 (by omega)
      · split
        · exact hl f f0 (by omega)
        · by_cases h : f = g - 1
          · omega
          · exact F2 f (g - 1) f0 (by omega) (by omega)
    · rw [if_neg (by omega : ¬ g < k), if_neg (by omega : ¬ g = k)]
      split
      · exact I3 (g - 1) (by omega) (by omega)
      · exact F2 (f - 1) (g - 1) (by omega) (by omega) (by omega)
  · rw [rows 198 (by omega)]
    constructor
    · rintro ⟨f, f0, f1, hf⟩
      rw [(new f f0 (by omega)).2] at hf
      split at hf
      · exact Or.inl ⟨f, f0, by omega, hf⟩
      · split at hf
        · exact Or.inr hf.symm
        · exact Or.inl ⟨f - 1, by omega, by omega, hf⟩
    · rintro (⟨f, f0, f1, hf⟩ | hv)
      · by_cases h : f < k
        · exact ⟨f, f0, by omega, by rw [(new f f0 (by omega)).2, if_pos h, hf]⟩
        · refine ⟨f + 1, by omega, by omega, ?_⟩
          rw [(new (f + 1) (by omega) (by omega)).2, if_neg (by omega), if_neg (by omega), show f + 1 - 1 = f by omega, hf]
      · refine ⟨k, k0, by omega, ?_⟩
        rw [(new k k0 k1).2, if_neg (by omega), if_pos rfl, hv]
  · rw [ju_row c2, jcpy_row c1, I4 c c1]
  · rw [ju_ne2 hj, jcpy_row (by omega), I4 189 (by omega)]
theorem l_Model_comes {l : Launch} {d : Nat} {a n K : Int} {σ : jH} (hd : 12 ≤ d) (hal : ALP σ) (V : RV (σ 197) a) (hK : rk (σ 197) a = K) (a0 : 0 ≤ a) (a1 : a + 20 < 14280) (F : FRM σ n) (hn : n < 680) (hno : ∀ f, 0 ≤ f → f < n → rk (σ 198) (21 * f) ≠ K) : ∀ (m : Nat) (τ : jH), (m : Int) ≤ n → INS σ τ n K m →
    Ev (l, (fun _ => 0), 0) d 0 0 m_Model_comes (RW fun _ τ => CAME σ τ n K) 19 [some (vR 189), some (vI a), some (vI m)] [] gW τ 0 0
  | 0, τ, hm, I => by
    refine jwp_sound t_Model_comes _ (b_Model_comes_19 ?_)
    simp only [RW, true_and, and_true, and_self, true_or, or_true, Nat.reduceLeDiff, Nat.reduceEqDiff, Nat.reduceAdd, Int.reduceLE, Int.reduceLT, Int.reduceEq, Int.reduceNeg, Int.reduceNe, Nat.reduceSub, reduceIte, implies_true, gt_189, gr_189_12, gt_200, gr_189_8, gt_197, gr_189_9, gt_198]
    exact ⟨fun _ => s_comes_76 hd V hK a0 a1 F hn (by omega) hm I (fun f f0 f1 => absurd f1 (by omega)), fun q => absurd q (by omega)⟩
  | m + 1, τ, hm, I => by
    have F' := F
    obtain ⟨n0, n1, n2, F1, F2⟩ := F'
    have I' := I
    obtain ⟨I1, I2, I3, I4⟩ := I'
    refine jwp_sound t_Model_comes _ (b_Model_comes_19 ?_)
    simp only [RW, true_and, and_true, and_self, true_or, or_true, Nat.reduceLeDiff, Nat.reduceEqDiff, Nat.reduceAdd, Int.reduceLE, Int.reduceLT, Int.reduceEq, Int.reduceNeg, Int.reduceNe, Nat.reduceSub, reduceIte, implies_true, gt_189, gr_189_12, gt_200, gr_189_8, gt_197, gr_189_9, gt_198]
    refine ⟨fun q => absurd q (by omega), fun _ => ?_⟩
    have e : ((m + 1 : Nat) : Int) - 1 = m := by omega
    rw [w32_of (x := ((m + 1 : Nat) : Int) - 1) (by omega) (by omega), e, w32_of (x := 21 * (m : Int)) (by omega) (by omega), w32_of (x := ((m + 1 : Nat) : Int) + -1) (by omega) (by omega), w32_of (x := 21 * ((m + 1 : Nat) : Int)) (by omega) (by omega)]
    have V' : RV (τ 197) a := by rw [I4 197 (by omega)]; exact V
    have o := I1 m (by omega) (by omega)
    refine cN_w (c_Model_compareA (A := 197) (B := 198) τ (by intro x x0 x1; rw [I4 200 (by omega)]; exact hal x x0 x1) gt_197 gt_198 V' o.1 a0 a1 (by omega) (by omega) (by omega) (by omega)) (by omega) (fun z τ' hz => ?_)
    obtain ⟨⟨z1, z2⟩, rfl⟩ := hz
    rw [I4 197 (by omega), hK, o.2] at z1 z2
    have hne := hno m (by omega) (by omega)
    refine ⟨fun q => ?_, fun q => ?_⟩
    · refine s_comes_76 hd V hK a0 a1 F hn (by omega) hm I (fun f f0 f1 => ?_)
      by_cases h : f = m
      · rw [h]
        omega
      · have := F2 f m f0 (by omega) (by omega)
        omega
    · refine cN_v (c_Model_copies (F := 198) (T := 198) τ' gt_198 gt_198 (by omega) (by omega) (by omega) (by omega) (by omega) (by omega) (by omega)) (by omega) (fun _ => ?_)
      have e2 : ((m + 1 : Nat) : Int) + -1 = m := by omega
      rw [e2]
      refine l_Model_comes hd hal V hK a0 a1 F hn hno m _ (by omega) ⟨fun f f0 f1 => ?_, fun f f0 f1 => ?_, fun f f0 f1 => ?_, fun c hc => ?_⟩
      · have o2 := I1 f f0 (by omega)
        have := rk_out (σ := τ') (F := 198) (a := 21 * (m : Int)) (T := 198) (b := 21 * ((m + 1 : Nat) : Int)) (c := 21 * f) o2.1 (by omega)
        exact ⟨this.1, this.2.trans o2.2⟩
      · by_cases h : f = ((m + 1 : Nat) : Int)
        · rw [h]
          have := rk_in (σ := τ') (F := 198) (a := 21 * (m : Int)) (T := 198) (b := 21 * ((m + 1 : Nat) : Int)) o.1
          rw [e]
          exact ⟨this.1, this.2.trans o.2⟩
        · have o2 := I2 f (by omega) f1
          have := rk_out (σ := τ') (F := 198) (a := 21 * (m : Int)) (T := 198) (b := 21 * ((m + 1 : Nat) : Int)) (c := 21 * f) o2.1 (by omega)
          exact ⟨this.1, this.2.trans o2.2⟩
      · by_cases h : f = m
        · rw [h]
          omega
        · exact I3 f (by omega) f1
      · rw [jcpy_row hc, I4 c hc]
theorem c_Model_comes {a n : Int} {σ : jH} (hal : ALP σ) (V : RV (σ 197) a) (a0 : 0 ≤ a) (a1 : a + 20 < 14280) (F : FRM σ n) (hn : n < 680) :
    Cw 12 m_Model_comes [vR 189, vI a] σ (fun _ τ => CAME σ τ n (rk (σ 197) a)) := by
  have F' := F
  obtain ⟨n0, n1, n2, F1, F2⟩ := F'
  refine Cw_of o_Model_comes rfl fun l d hd => jwp_sound t_Model_comes _ (b_Model_comes_0 ?_)
  simp only [RW, true_and, and_true, and_self, true_or, or_true, Nat.reduceLeDiff, Nat.reduceEqDiff, Nat.reduceAdd, Int.reduceLE, Int.reduceLT, Int.reduceEq, Int.reduceNeg, Int.reduceNe, Nat.reduceSub, reduceIte, implies_true, gt_189, gr_189_12, gt_200, gr_189_8, gt_197, gr_189_9, gt_198]
  refine cN_w (c_Model_find (X := 197) σ hal gt_197 V a0 a1 (by omega) F) (by omega) (fun z τ hz => ?_)
  obtain ⟨hz, rfl⟩ := hz
  rcases hz with ⟨rfl, hz⟩ | ⟨z0, z1, z2⟩
  · refine ⟨fun _ => ?_, fun q => absurd rfl q⟩
    rw [n2]
    have := l_Model_comes (l := l) (d := d) hd hal V rfl a0 a1 F hn hz n.toNat τ (by omega) ⟨fun f f0 f1 => ⟨F1 f f0 (by omega), rfl⟩, fun f f0 f1 => absurd f1 (by omega), fun f f0 f1 => absurd f1 (by omega), fun _ _ => rfl⟩
    rwa [show ((n.toNat : Nat) : Int) = n by omega] at this
  · refine ⟨fun q => absurd q (by omega), fun _ => ⟨⟨n, by omega, by omega, F, fun v => ⟨fun h => Or.inl h, fun h => ?_⟩⟩, fun _ _ _ => rfl, fun _ _ => rfl⟩⟩
    rcases h with h | h
    · exact h
    · exact ⟨z, z0, z1, z2.trans h.symm⟩
