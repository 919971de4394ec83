/-! form(f, what) -/
theorem rh_dg {g : Int → Int} {j : Nat} : ∀ (k : Nat), (∀ i : Int, 0 ≤ i → i < j + 1 + k → 0 ≤ g i ∧ g i < 32) → rh g (j + 1 + k) / 32 ^ k % 32 = g j
  | 0, h => by
    have := h j (by omega) (by omega)
    show (rh g j * 32 + g j) / 32 ^ 0 % 32 = g j
    rw [Int.pow_zero]
    omega
  | k + 1, h => by
    have IH := rh_dg (g := g) (j := j) k (fun i a b => h i a (by omega))
    have := h ((j + 1 + k : Nat) : Int) (by omega) (by omega)
    show (rh g (j + 1 + k) * 32 + g ((j + 1 + k : Nat) : Int)) / 32 ^ (k + 1) % 32 = g j
    rw [p32s, Int.mul_comm (32 ^ k) 32, ← Int.ediv_ediv_of_nonneg (by omega : (0 : Int) ≤ 32), show (rh g (j + 1 + k) * 32 + g ((j + 1 + k : Nat) : Int)) / 32 = rh g (j + 1 + k) by omega]
    exact IH
theorem dgk_rk {f : Int → Int} {a : Int} (V : RV f a) {j : Nat} (hj : j < 20) : dgk (rk f a) j = dgr f a j := by
  unfold dgk rk
  obtain ⟨k, hk⟩ : ∃ k, j + 1 + k = 20 := ⟨19 - j, by omega⟩
  have := rh_dg (g := dgr f a) (j := j) k (fun i i0 _ => by have := dgr_r V i i0; omega)
  rw [hk] at this
  rw [show 19 - j = k by omega]
  exact this
theorem VK_rk {f : Int → Int} {a : Int} (V : RV f a) : VK (rk f a) (f a).toNat := by
  obtain ⟨v1, v2, v3⟩ := V
  have r := rk_r ⟨v1, v2, v3⟩
  refine ⟨by omega, r.1, r.2, fun j hj => ?_, fun j h0 h1 => ?_⟩
  · rw [dgk_rk ⟨v1, v2, v3⟩ (by omega)]
    unfold dgr
    rw [if_pos (by omega)]
    have := v3 j (by omega) (by omega)
    omega
  · rw [dgk_rk ⟨v1, v2, v3⟩ h1]
    unfold dgr
    rw [if_neg (by omega)]
def klen (K : Int) : Nat → Int
  | 0 => 0
  | j + 1 => klen K j + (if dgk K j = 0 then 0 else 1)
theorem klen_VK {K : Int} {n : Nat} (V : VK K n) : klen K 20 = n := by
  obtain ⟨v1, v2, v3, v4, v5⟩ := V
  have key : ∀ m : Nat, m ≤ 20 → klen K m = if m ≤ n then (m : Int) else n := by
    intro m
    induction m with
    | zero =>
      intro _
      rw [if_pos (by omega)]
      rfl
    | succ m ih =>
      intro h
      show klen K m + _ = _
      rw [ih (by omega)]
      by_cases q : m < n
      · have := v4 m q
        rw [if_pos (by omega), if_neg (by omega), if_pos (by omega)]
        omega
      · rw [v5 m (by omega) (by omega), if_pos rfl]
        by_cases q2 : m ≤ n
        · rw [if_pos q2, if_neg (by omega)]
          omega
        · rw [if_neg q2, if_neg (by omega)]
          omega
  rw [key 20 (Nat.le_refl _)]
  split <;> omega
noncomputable def s_form (ω : Int → Int) (f what : Int) : Int := if 0 ≤ f ∧ f < dn ω then (if what = 0 then klen (dF ω f) 20 else if what = 1 then cq (dw ω 0) (wW ω 0).1.toNat f else if what = 2 then cq (dw ω 1) (wW ω 1).1.toNat f else if what = 3 then b2i (stopB ω (dF ω f)) else if what = 4 then rootI ω (dF ω f) else if 10 ≤ what then (if what < 30 ∧ dgk (dF ω f) (what - 10).toNat ≠ 0 then 96 + dgk (dF ω f) (what - 10).toNat else -1) else -2000000000) else -2000000000
def FVK (ω : Int → Int) : Prop := ∀ f, 0 ≤ f → f < dn ω → ∃ n, VK (dF ω f) n
section FO
variable {l : Launch} {d : Nat} {ω : Int → Int} {σ : jH}
theorem RFR.vk (R : RFR σ ω) : FVK ω := fun f a b => by
  obtain ⟨h1, h2⟩ := R.2.2.2.2.2.2.2.1 f a b
  exact ⟨_, h2 ▸ VK_rk h1⟩
theorem c_Model_form (R : RFR σ ω) (hal : ALP σ) (U : RLO ω) (f what : Int) (hw : -2147483648 ≤ what ∧ what < 2147483648) : Cw 14 m_Model_form [vR 189, vI f, vI what] σ (fun z τ => z = s_form ω f what ∧ FR1 σ τ 201) := by
  have N := R.N
  have f0 : FR1 σ σ 201 := fun _ _ => rfl
  refine Cw_of o_Model_form rfl fun l d hd => jwp_sound t_Model_form _ (b_Model_form_0 ?_)
  simp only [RW, true_and, and_true, and_self, true_or, or_true, Nat.reduceLeDiff, Nat.reduceEqDiff, Nat.reduceAdd, Int.reduceLE, Int.reduceLT, Int.reduceEq, Int.reduceNeg, Int.reduceNe, Nat.reduceSub, reduceIte, implies_true, gt_189, gr_189_9, gt_198]
  refine cN_p (c_Model_isForm R _) (by omega) ?_
  unfold s_form
  by_cases hf : 0 ≤ f ∧ f < dn ω
  · obtain ⟨V, hv⟩ := R.2.2.2.2.2.2.2.1 f hf.1 hf.2
    have V' := V
    obtain ⟨v1, v2, v3⟩ := V'
    rw [if_pos hf, if_pos hf, w32_of (x := 21 * f) (by omega) (by omega)]
    refine ⟨fun _ => ⟨fun a => ⟨fun b => ⟨by omega, by omega, fun c => ⟨?_, f0⟩, fun c => ?_⟩, fun b => ⟨?_, f0⟩⟩, fun a => ⟨by omega, by omega, ?_, f0⟩, fun a => ?_, fun a => ?_, fun a => ?_, fun a => ?_⟩, fun q => by omega⟩
    · rw [if_neg (by omega), if_neg (by omega), if_neg (by omega), if_neg (by omega), if_neg (by omega), if_pos b, if_neg]
      rw [w32_of (by omega) (by omega)] at c
      intro x
      apply x.2
      rw [← hv, dgk_rk V (by omega)]
      unfold dgr
      rw [if_neg (by omega)]
    · rw [w32_of (by omega) (by omega)] at c
      rw [w32_of (x := 21 * f + 1) (by omega) (by omega), w32_of (x := 21 * f + 1 + what) (by omega) (by omega), w32_of (x := 21 * f + 1 + what - 10) (by omega) (by omega)]
      have v := v3 (what - 10) (by omega) c
      rw [show 21 * f + 1 + (what - 10) = 21 * f + 1 + what - 10 by omega] at v
      rw [w32_of (x := 97 + _) (by omega) (by omega)]
      refine ⟨by omega, by omega, ?_, f0⟩
      rw [if_neg (by omega), if_neg (by omega), if_neg (by omega), if_neg (by omega), if_neg (by omega), if_pos b]
      have dg : dgk (dF ω f) (what - 10).toNat = σ 198 (21 * f + 1 + what - 10) + 1 := by
        rw [← hv, dgk_rk V (by omega)]
        unfold dgr
        rw [if_pos (by omega), show (((what - 10).toNat : Nat) : Int) = what - 10 by omega, show 21 * f + 1 + (what - 10) = 21 * f + 1 + what - 10 by omega]
      rw [dg, if_pos ⟨by omega, by omega⟩]
      omega
    · rw [if_neg (by omega), if_neg (by omega), if_neg (by omega), if_neg (by omega), if_neg (by omega), if_neg (by omega)]
    · rw [if_pos a, ← hv, klen_VK (VK_rk V)]
      omega
    · rw [a, show w32 (1 - 1) = 0 by rfl]
      refine cN_p (c_Model_manyOf R (by omega)) (by omega) ⟨?_, f0⟩
      simp
    · rw [a, show w32 (2 - 1) = 1 by rfl]
      refine cN_p (c_Model_manyOf R (by omega)) (by omega) ⟨?_, f0⟩
      simp
    · refine cN_w (c_Model_isStop R hal U hf.1 hf.2) (by omega) (fun z τ h => ?_)
      obtain ⟨rfl, h⟩ := h
      rw [if_neg (by omega), if_neg (by omega), if_neg (by omega), if_pos a]
      have := b2i_r (stopB ω (dF ω f))
      exact ⟨fun q => ⟨q.symm, h⟩, fun q => ⟨by omega, h⟩⟩
    · refine cN_w (c_Model_rootOf R hal U hf.1 hf.2) (by omega) (fun z τ h => ?_)
      obtain ⟨rfl, h⟩ := h
      rw [if_neg (by omega), if_neg (by omega), if_neg (by omega), if_neg (by omega), if_pos a]
      exact ⟨rfl, h⟩
  · rw [if_neg hf, if_neg hf]
    exact ⟨fun q => absurd rfl q, fun _ => ⟨rfl, f0⟩⟩
theorem c_form (C : CFR σ ω) (hV : FVK ω) (U : RLO ω) (S : RLS σ 4 ω) (f what : Int) (hw : -2147483648 ≤ what ∧ what < 2147483648) : Cw 16 m_WordPlaces_form [vR 1, vI f, vI what] σ (fun z τ => z = s_form ω f what ∧ FRQ σ τ ω) := by
  refine Cw_of o_WordPlaces_form rfl fun l d hd => jwp_sound t_WordPlaces_form _ (b_WordPlaces_form_0 ?_)
  simp only [RW, true_and, and_true, and_self, true_or, or_true, Nat.reduceLeDiff, Nat.reduceEqDiff, Nat.reduceAdd, Int.reduceLE, Int.reduceLT, Int.reduceEq, Int.reduceNeg, Int.reduceNe, Nat.reduceSub, reduceIte, implies_true, gt_1, gr_1_2, gt_3, gr_3_0, gt_4]
  refine cN_w (c_freshBook C) (by omega) (fun z τ h => ?_)
  obtain ⟨rfl, h⟩ := h
  have N := h.2.2.n
  have S' : RLS τ 4 ω := RLS_eq S (fun c a b => h.1.1 c (by omega))
  simp only [RW, true_and, and_true, and_self, true_or, or_true, Nat.reduceLeDiff, Nat.reduceEqDiff, Nat.reduceAdd, Int.reduceLE, Int.reduceLT, Int.reduceEq, Int.reduceNeg, Int.reduceNe, Nat.reduceSub, reduceIte, implies_true, gt_97, gr_97_2, gr_97_3, gr_97_4, gr_97_5, gr_97_6, gt_98, gr_98_0, gr_98_1, gt_99, gt_100]
  refine cN_p (c_Book_has N.2.2 (by omega) f) (by omega) ?_
  unfold s_form
  by_cases hf : 0 ≤ f ∧ f < dn ω
  case neg =>
    rw [if_neg hf, if_neg hf]
    exact ⟨fun _ => ⟨rfl, h.1⟩, fun x => absurd rfl x⟩
  rw [if_pos hf, if_pos hf]
  obtain ⟨q, q2⟩ := hf
  refine ⟨fun x => by omega, fun _ => ⟨fun q3 => ⟨by omega, by omega, by omega, by omega, ?_⟩, fun q3 => ⟨?_, h.1⟩⟩⟩
  · obtain ⟨kv, kr⟩ := h.2.2.2.2.2.1 f q q2
    obtain ⟨n, vk⟩ := hV f q q2
    have kv' := kv
    unfold KKV at kv'
    rw [show (98 : Int) + 1 = 99 by omega, show (98 : Int) + 2 = 100 by omega] at kv'
    rw [kv'.1, kv'.2]
    have T0 := h.2.2.W (e := 0) (by omega)
    have T1 := h.2.2.W (e := 1) (by omega)
    refine ⟨fun a => ⟨fun b => ⟨?_, h.1⟩, fun b => ?_, fun b => ?_, fun b => ?_, fun b => ?_, fun b => ?_⟩, fun a => ?_⟩
    · rw [if_neg (by omega), if_neg (by omega), if_neg (by omega), if_neg (by omega), if_neg (by omega), if_neg (by omega)]
    · refine cN_p (c_Key_lengthOf vk _) (by omega) ⟨?_, h.1⟩
      rw [if_pos b, klen_VK vk]
    · refine cN_p (c_wordsOf _ _) (by omega) ?_
      simp only [RW, true_and, and_true, and_self, true_or, or_true, Nat.reduceLeDiff, Nat.reduceEqDiff, Nat.reduceAdd, Int.reduceLE, Int.reduceLT, Int.reduceEq, Int.reduceNeg, Int.reduceNe, Nat.reduceSub, reduceIte, implies_true, gt_105, gr_105_1, gr_105_2, gr_105_3, gr_105_4, gr_105_5, gr_105_6, gr_105_7, gr_105_8, gr_105_10, gr_105_11, gr_105_12, gr_105_13]
      have O := c_oftenOf (e := 0) h.2.2 C.1 (by omega) f
      rw [show wb 0 = 105 by unfold wb; omega] at O
      refine cN_p O (by omega) ⟨?_, h.1⟩
      rw [if_neg (by omega), if_pos b]
    · refine cN_p (c_wordsOf _ _) (by omega) ?_
      simp only [RW, true_and, and_true, and_self, true_or, or_true, Nat.reduceLeDiff, Nat.reduceEqDiff, Nat.reduceAdd, Int.reduceLE, Int.reduceLT, Int.reduceEq, Int.reduceNeg, Int.reduceNe, Nat.reduceSub, reduceIte, implies_true, show ((1 : Int) = 0) = False by simp, if_false, gt_120, gr_120_1, gr_120_2, gr_120_3, gr_120_4, gr_120_5, gr_120_6, gr_120_7, gr_120_8, gr_120_10, gr_120_11, gr_120_12, gr_120_13]
      have O := c_oftenOf (e := 1) h.2.2 C.1 (by omega) f
      rw [show wb 1 = 120 by unfold wb; omega] at O
      refine cN_p O (by omega) ⟨?_, h.1⟩
      rw [if_neg (by omega), if_neg (by omega), if_pos b]
    · refine cN_p (c_isStop _ (Or.inl rfl) U S') (by omega) ?_
      rw [if_neg (by omega), if_neg (by omega), if_neg (by omega), if_pos b]
      have := b2i_r (stopB ω (dF ω f))
      exact ⟨fun q => ⟨q.symm, h.1⟩, fun q => ⟨by omega, h.1⟩⟩
    · refine cN_p (c_rootOf _ (Or.inl rfl) U S') (by omega) ?_
      rw [if_neg (by omega), if_neg (by omega), if_neg (by omega), if_neg (by omega), if_pos b]
      exact ⟨rfl, h.1⟩
    · rw [w32_of (x := what - 10) (by omega) (by omega)]
      refine cN_p (c_Key_letterAt _ kr.1 kr.2) (by omega) ?_
      have dr := dig_r (dF ω f) (19 - (what - 10).toNat)
      have dd : dgk (dF ω f) (what - 10).toNat = dF ω f / 32 ^ (19 - (what - 10).toNat) % 32 := rfl
      rw [← dd] at dr
      clear dd
      by_cases c : 0 ≤ what - 10 ∧ what - 10 < 20
      · rw [if_pos c, if_neg (by omega : ¬ what = 0), if_neg (by omega : ¬ what = 1), if_neg (by omega : ¬ what = 2), if_neg (by omega : ¬ what = 3), if_neg (by omega : ¬ what = 4), if_pos a, w32_of (x := 97 + _) (by omega) (by omega)]
        refine ⟨fun e => ⟨?_, h.1⟩, fun e => ⟨?_, h.1⟩⟩
        · rw [if_pos ⟨by omega, by omega⟩]
          omega
        · rw [if_neg (by omega)]
      · rw [if_neg c, if_neg (by omega : ¬ what = 0), if_neg (by omega : ¬ what = 1), if_neg (by omega : ¬ what = 2), if_neg (by omega : ¬ what = 3), if_neg (by omega : ¬ what = 4), if_pos a]
        refine ⟨fun e => absurd rfl e, fun e => ⟨?_, h.1⟩⟩
        rw [if_neg (by omega)]
  · rw [if_neg (by omega), if_neg (by omega), if_neg (by omega), if_neg (by omega), if_neg (by omega), if_neg (by omega)]
end FO
