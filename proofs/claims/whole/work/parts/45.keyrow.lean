/-! Rows of keys -/
theorem bv32_of {x : Int} (h0 : 0 ≤ x) (h : x < 2147483648) : (Int32.ofInt x).toBitVec.toNat = x.toNat := by
  rw [Int32.toBitVec_ofInt, BitVec.toNat_ofInt]
  omega
theorem bv32_toInt {v : Int32} {n : Nat} (h : v.toBitVec.toNat = n) (hn : n < 2147483648) : v.toInt = (n : Int) := by
  rw [← Int32.toInt_toBitVec, BitVec.toInt_eq_toNat_of_lt (by omega), h]
theorem sh32u : ((Int32.ofInt 1).toUInt32 &&& Int32.toUInt32 31).toBitVec % 32 = 1 := by decide +kernel
theorem jushr1 {x : Int} (h0 : 0 ≤ x) (h : x < 2147483648) : jushr32 x 1 = x / 2 := by
  unfold jushr32
  have e : x / 2 = ((x.toNat / 2 : Nat) : Int) := by omega
  rw [e]
  apply bv32_toInt
  · show ((Int32.ofInt x).toUInt32 >>> ((Int32.ofInt 1).toUInt32 &&& Int32.toUInt32 31)).toBitVec.toNat = _
    rw [UInt32.toBitVec_shiftRight]
    show ((Int32.ofInt x).toBitVec >>> (((Int32.ofInt 1).toUInt32 &&& Int32.toUInt32 31).toBitVec % 32).toNat).toNat = _
    rw [sh32u, BitVec.toNat_ushiftRight, bv32_of h0 h, Nat.shiftRight_eq_div_pow]
    rfl
  · omega
theorem jcmp_0 {x y : Int} : jcmp x y = 0 ↔ x = y := by
  unfold jcmp
  split
  · omega
  · split <;> omega
theorem jcmp_n0 {x y : Int} : jcmp x y ≠ 0 ↔ x ≠ y := not_congr jcmp_0
theorem jcmp_neg {x y : Int} : jcmp x y < 0 ↔ x < y := by
  unfold jcmp
  split
  · omega
  · split <;> omega
/-- a whole row put -/
def jr (σ : jH) (a : Int) (f : Int → Int) : jH := fun c j => if c = a then f j else σ c j
theorem jr_self (σ : jH) (a : Int) (f : Int → Int) : jr σ a f a = f := by
  funext j
  unfold jr
  rw [if_pos rfl]
theorem jr_ne {σ : jH} {a c : Int} {f : Int → Int} (h : c ≠ a) : jr σ a f c = σ c := by
  funext j
  unfold jr
  rw [if_neg h]
theorem ju_row {σ : jH} {a c i v : Int} (h : c ≠ a) : ju σ a i v c = σ c := by
  funext j
  exact ju_ne h
def KR (o n : Int) : Prop := gW.2.1 o = (12, 2) ∧ gW.2.2 o 0 = o + 1 ∧ gW.2.2 o 1 = o + 2 ∧ gW.2.1 (o + 1) = (4, n) ∧ gW.2.1 (o + 2) = (4, n)
def kk (σ : jH) (o p : Int) : Int := σ (o + 1) p * 1125899906842624 + σ (o + 2) p
theorem c_KeyRow_holds {o n : Int} (K : KR o n) (i h w : Int) (σ : jH) : Cw 10 m_KeyRow_holds [vR o, vI i, vL h, vL w] σ (fun x τ => x = (if 0 ≤ i ∧ i < n ∧ σ (o + 1) i = h ∧ σ (o + 2) i = w then 1 else 0) ∧ τ = σ) := by
  obtain ⟨k1, k2, k3, k4, k5⟩ := K
  refine Cw_of o_KeyRow_holds rfl fun l d hd => jwp_sound t_KeyRow_holds _ (b_KeyRow_holds_0 ?_)
  simp only [RW, true_and, k1, k2, k3, k4, k5, jcmp_0, jcmp_n0]
  grind
theorem c_KeyRow_put {o n : Int} (K : KR o n) (i h w : Int) (σ : jH) : Cw 10 m_KeyRow_put [vR o, vI i, vL h, vL w] σ (fun _ τ => τ = if 0 ≤ i ∧ i < n then ju (ju σ (o + 1) i h) (o + 2) i w else σ) := by
  obtain ⟨k1, k2, k3, k4, k5⟩ := K
  refine Cw_of o_KeyRow_put rfl fun l d hd => jwp_sound t_KeyRow_put _ (b_KeyRow_put_0 ?_)
  simp only [RW, true_and, and_true, and_self, true_or, or_true, Nat.reduceLeDiff, Nat.reduceEqDiff, Nat.reduceAdd, Int.reduceLE, Int.reduceLT, Int.reduceEq, Int.reduceNeg, Int.reduceNe, Nat.reduceSub, reduceIte, implies_true, k1, k2, k3, k4, k5]
  grind
/-- where a key stands in a rising row, or would stand -/
def FND (f : Int → Int) (n k x : Int) : Prop := (0 ≤ x ∧ x < n ∧ f x = k) ∨ (x < 0 ∧ -1 - x ≤ n ∧ (∀ p, 0 ≤ p → p < -1 - x → f p < k) ∧ ∀ p, -1 - x ≤ p → p < n → k < f p)
theorem l_KeyRow_find {l : Launch} {d : Nat} {o n h w N : Int} {σ : jH} (K : KR o n) (hn : n < 1000000) (hN : N ≤ n) (hd : 11 ≤ d) (hw : 0 ≤ w ∧ w < 1125899906842624) (hb : ∀ p, 0 ≤ p → p < N → 0 ≤ σ (o + 2) p ∧ σ (o + 2) p < 1125899906842624) (hs : ∀ p q, 0 ≤ p → p < q → q < N → kk σ o p < kk σ o q) :
    ∀ (k : Nat) (f t : Int), t - f ≤ k → 0 ≤ f → f ≤ t → t ≤ N → (∀ p, 0 ≤ p → p < f → kk σ o p < h * 1125899906842624 + w) → (∀ p, t ≤ p → p < N → h * 1125899906842624 + w < kk σ o p) →
    Ev (l, (fun _ => 0), 0) d 0 0 m_KeyRow_find (RW fun z τ => FND (kk σ o) N (h * 1125899906842624 + w) z ∧ τ = σ) 14 [some (vR o), none, some (vL h), none, some (vL w), none, some (vI f), some (vI t), none, none] [] gW σ 0 0 := by
  intro k
  obtain ⟨k1, k2, k3, k4, k5⟩ := K
  induction k with
  | zero =>
    intro f t hk h0 h1 h2 hl hg
    refine jwp_sound t_KeyRow_find _ (b_KeyRow_find_14 ?_)
    simp only [RW, true_and]
    refine ⟨fun _ => ⟨Or.inr ?_, trivial⟩, fun q => absurd q (by omega)⟩
    have e : f = t := by omega
    subst e
    rw [w32_of (by omega) (by omega)]
    refine ⟨by omega, by omega, fun p q1 q2 => hl p q1 (by omega), fun p q1 q2 => hg p (by omega) q2⟩
  | succ k ih =>
    intro f t hk h0 h1 h2 hl hg
    refine jwp_sound t_KeyRow_find _ (b_KeyRow_find_14 ?_)
    simp only [RW, true_and, and_true, and_self, true_or, or_true, Nat.reduceLeDiff, Nat.reduceEqDiff, Nat.reduceAdd, Int.reduceLE, Int.reduceLT, Int.reduceEq, Int.reduceNeg, Int.reduceNe, Nat.reduceSub, reduceIte, implies_true, k1, k2, k3, k4, k5]
    refine ⟨fun _ => Or.inr ?_, fun q => ?_⟩
    · have e : f = t := by omega
      subst e
      rw [w32_of (by omega) (by omega)]
      refine ⟨by omega, by omega, fun p q1 q2 => hl p q1 (by omega), fun p q1 q2 => hg p (by omega) q2⟩
    · rw [w32_of (x := f + t) (by omega) (by omega), jushr1 (by omega) (by omega)]
      have hm : f ≤ (f + t) / 2 ∧ (f + t) / 2 < t := by omega
      generalize (f + t) / 2 = m at hm ⊢
      have hbm := hb m (by omega) (by omega)
      have key : ∀ r : Int, (r = 0 ↔ kk σ o m = h * 1125899906842624 + w) → (r < 0 ↔ kk σ o m < h * 1125899906842624 + w) →
          Ev (l, (fun _ => 0), 0) d 0 0 m_KeyRow_find (RW fun z τ => FND (kk σ o) N (h * 1125899906842624 + w) z ∧ τ = σ) 62 [some (vR o), none, some (vL h), none, some (vL w), none, some (vI f), some (vI t), some (vI m), some (vI r)] [] gW σ 0 0 := by
        intro r hr0 hr1
        refine jwp_sound t_KeyRow_find _ (b_KeyRow_find_62 ?_)
        simp only [RW, true_and]
        refine ⟨fun q => ⟨fun q2 => ?_, fun q2 => ?_⟩, fun q => ⟨Or.inl ⟨by omega, by omega, hr0.mp q⟩, trivial⟩⟩
        · refine ih f m (by omega) h0 (by omega) (by omega) hl (fun p p1 p2 => ?_)
          have h3 : h * 1125899906842624 + w < kk σ o m := by omega
          by_cases hp : p = m
          · subst hp
            exact h3
          · have := hs m p (by omega) (by omega) p2
            omega
        · rw [w32_of (by omega) (by omega)]
          refine ih (m + 1) t (by omega) (by omega) (by omega) h2 (fun p p1 p2 => ?_) hg
          have h3 := hr1.mp q2
          by_cases hp : p = m
          · subst hp
            exact h3
          · have := hs p m p1 (by omega) (by omega)
            omega
      refine ⟨by omega, by omega, cN_p (c_Long_compare _ _ _) (by omega) ⟨fun q2 => ?_, fun q2 => ⟨by omega, by omega, cN_p (c_Long_compare _ _ _) (by omega) ?_⟩⟩⟩
      · apply key
        · refine ⟨fun q3 => absurd q3 q2, fun q3 => ?_⟩
          unfold kk at q3
          have : σ (o + 1) m = h := by omega
          exact absurd (jcmp_0.mpr this) q2
        · have q4 := jcmp_n0.mp q2
          rw [jcmp_neg]
          unfold kk
          omega
      · have q4 := jcmp_0.mp q2
        apply key
        · rw [jcmp_0]
          unfold kk
          omega
        · rw [jcmp_neg]
          unfold kk
          omega
theorem c_KeyRow_find {o n : Int} (K : KR o n) (hn0 : 0 ≤ n) (hn : n < 1000000) (size h w : Int) (σ : jH) (h0 : 0 ≤ size) (hw : 0 ≤ w ∧ w < 1125899906842624) (hb : ∀ p, 0 ≤ p → p < min size n → 0 ≤ σ (o + 2) p ∧ σ (o + 2) p < 1125899906842624) (hs : ∀ p q, 0 ≤ p → p < q → q < min size n → kk σ o p < kk σ o q) :
    Cw 11 m_KeyRow_find [vR o, vI size, vL h, vL w] σ (fun z τ => FND (kk σ o) (min size n) (h * 1125899906842624 + w) z ∧ τ = σ) := by
  have K0 := K
  obtain ⟨k1, k2, k3, k4, k5⟩ := K
  refine Cw_of o_KeyRow_find rfl fun l d hd => jwp_sound t_KeyRow_find _ (b_KeyRow_find_0 ?_)
  simp only [k1, k2, k3, k4, k5]
  refine ⟨trivial, by omega, by omega, ?_⟩
  exact l_KeyRow_find K0 hn (by omega) hd hw hb hs (min size n).toNat 0 (min size n) (by omega) (by omega) (by omega) (by omega) (fun p q1 q2 => absurd q2 (by omega)) (fun p q1 q2 => absurd q2 (by omega))
def ins (f : Int → Int) (size at0 v : Int) : Int → Int := fun j => if j < at0 then f j else if j = at0 then v else if j ≤ size then f (j - 1) else f j
theorem c_KeyRow_insert {o n : Int} (K : KR o n) (hn : n < 1000000) (size at0 h w : Int) (σ : jH) (h0 : 0 ≤ at0) (h1 : at0 ≤ size) (h2 : size < n) :
    Cw 11 m_KeyRow_insert [vR o, vI size, vI at0, vL h, vL w] σ (fun _ τ => τ = jr (jr σ (o + 1) (ins (σ (o + 1)) size at0 h)) (o + 2) (ins (σ (o + 2)) size at0 w)) := by
  have K0 := K
  obtain ⟨k1, k2, k3, k4, k5⟩ := K
  refine Cw_of o_KeyRow_insert rfl fun l d hd => jwp_sound t_KeyRow_insert _ (b_KeyRow_insert_0 ?_)
  simp only [RW, true_and, and_true, and_self, true_or, or_true, Nat.reduceLeDiff, Nat.reduceEqDiff, Nat.reduceAdd, Int.reduceLE, Int.reduceLT, Int.reduceEq, Int.reduceNeg, Int.reduceNe, Nat.reduceSub, reduceIte, implies_true, k1, k2, k3, k4, k5]
  refine ⟨fun q => absurd q (by omega), fun _ => ⟨fun q => absurd q (by omega), fun _ => ⟨fun _ => ?_, fun q => absurd q (by omega)⟩⟩⟩
  rw [w32_of (x := at0 + 1) (by omega) (by omega), w32_of (x := size - at0) (by omega) (by omega)]
  refine ⟨by omega, by omega, by omega, by omega, by omega, by omega, by omega, by omega, by omega, by omega, by omega, by omega, cN_v (c_KeyRow_put K0 _ _ _ _) (by omega) (fun _ => ?_)⟩
  rw [if_pos (by omega)]
  funext c j
  unfold ju jcpy jr ins
  grind
theorem c_KeyRow_map {o n a : Int} (K : KR o n) (i : Int) (σ : jH) (ht : gW.2.1 a = (2, 26)) (hρ : okρ (σ a)) (h0 : 0 ≤ σ (o + 1) i ∧ σ (o + 1) i < 1125899906842624) (h1 : 0 ≤ σ (o + 2) i ∧ σ (o + 2) i < 1125899906842624) (hi : 0 ≤ i) (hin : i < n) :
    Cw 11 m_KeyRow_map [vR o, vI i, vR a] σ (fun _ τ => τ = ju (ju σ (o + 1) i (hm (σ a) 10 (σ (o + 1) i))) (o + 2) i (hm (σ a) 10 (σ (o + 2) i))) := by
  have K0 := K
  obtain ⟨k1, k2, k3, k4, k5⟩ := K
  refine Cw_of o_KeyRow_map rfl fun l d hd => jwp_sound t_KeyRow_map _ (b_KeyRow_map_0 ?_)
  simp only [RW, true_and, and_true, and_self, true_or, or_true, Nat.reduceLeDiff, Nat.reduceEqDiff, Nat.reduceAdd, Int.reduceLE, Int.reduceLT, Int.reduceEq, Int.reduceNeg, Int.reduceNe, Nat.reduceSub, reduceIte, implies_true, k1, k2, k3, k4, k5]
  refine ⟨fun q => absurd q (by omega), fun _ => ⟨fun q => absurd q (by omega), fun _ => ⟨by omega, by omega, ?_⟩⟩⟩
  refine cN_p (c_Key_mapped _ ht hρ h0.1 h0.2) (by omega) ⟨by omega, by omega, ?_⟩
  refine cN_p (c_Key_mapped _ ht hρ h1.1 h1.2) (by omega) ?_
  refine cN_v (c_KeyRow_put K0 _ _ _ _) (by omega) (fun _ => ?_)
  rw [if_pos ⟨hi, hin⟩]
theorem c_KeyRow_copyFrom {o p n : Int} (K : KR o n) (K' : KR p n) (hn : 0 ≤ n) (σ : jH) (h : p + 2 ≠ o + 1) :
    Cw 10 m_KeyRow_copyFrom [vR o, vR p] σ (fun _ τ => τ = jcpy (jcpy σ (p + 1) 0 (o + 1) 0 n) (p + 2) 0 (o + 2) 0 n) := by
  obtain ⟨k1, k2, k3, k4, k5⟩ := K
  obtain ⟨r1, r2, r3, r4, r5⟩ := K'
  refine Cw_of o_KeyRow_copyFrom rfl fun l d hd => jwp_sound t_KeyRow_copyFrom _ (b_KeyRow_copyFrom_0 ?_)
  simp only [RW, true_and, and_true, and_self, true_or, or_true, Nat.reduceLeDiff, Nat.reduceEqDiff, Nat.reduceAdd, Int.reduceLE, Int.reduceLT, Int.reduceEq, Int.reduceNeg, Int.reduceNe, Nat.reduceSub, reduceIte, implies_true, k1, k2, k3, k4, k5, r1, r2, r3, r4, r5, Int.min_self]
  omega
