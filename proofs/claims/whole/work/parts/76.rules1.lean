/-! STOPS and ROOTS in a row, and in the class's rules -/
def exI (g : Int → Int) (v : Int) : Nat → Bool
  | 0 => false
  | n + 1 => exI g v n || decide (g n = v)
theorem exI_iff {g : Int → Int} {v : Int} : ∀ {n : Nat}, exI g v n = true ↔ ∃ k : Int, 0 ≤ k ∧ k < n ∧ g k = v
  | 0 => by simp [exI]; omega
  | n + 1 => by
    simp only [exI, Bool.or_eq_true, decide_eq_true_eq, exI_iff]
    constructor
    · rintro (⟨k, h1, h2, h3⟩ | h)
      · exact ⟨k, h1, by omega, h3⟩
      · exact ⟨n, by omega, by omega, h⟩
    · rintro ⟨k, h1, h2, h3⟩
      by_cases hk : k = n
      · exact Or.inr (hk ▸ h3)
      · exact Or.inl ⟨k, h1, by omega, h3⟩
/-- the first that is so -/
def fsB (P : Int → Bool) : Nat → Int
  | 0 => -1
  | n + 1 => if fsB P n ≠ -1 then fsB P n else if P n = true then n else -1
theorem fsB_no {P : Int → Bool} : ∀ {n : Nat}, (∀ k : Int, 0 ≤ k → k < n → P k = false) → fsB P n = -1
  | 0, _ => rfl
  | n + 1, h => by
    simp only [fsB]
    rw [fsB_no (fun k a b => h k a (by omega)), if_neg (by omega), h n (by omega) (by omega), if_neg (by simp)]
theorem fsB_more {P : Int → Bool} (a : Nat) (h : fsB P a ≠ -1) : ∀ n : Nat, fsB P (a + n) = fsB P a
  | 0 => rfl
  | n + 1 => by
    show (if fsB P (a + n) ≠ -1 then fsB P (a + n) else _) = _
    rw [fsB_more a h n, if_pos h]
theorem fsB_is {P : Int → Bool} {k : Int} {n : Nat} (h0 : 0 ≤ k) (h1 : k < n) (hk : P k = true) (hn : ∀ j, 0 ≤ j → j < k → P j = false) : fsB P n = k := by
  have e : fsB P (k.toNat + 1) = k := by
    show (if fsB P k.toNat ≠ -1 then _ else if P ((k.toNat : Nat) : Int) = true then ((k.toNat : Nat) : Int) else -1) = k
    rw [fsB_no (fun j a b => hn j a (by omega)), if_neg (by omega), show ((k.toNat : Nat) : Int) = k by omega, if_pos hk]
  have := fsB_more (P := P) (k.toNat + 1) (by rw [e]; omega) (n - (k.toNat + 1))
  rw [show k.toNat + 1 + (n - (k.toNat + 1)) = n by omega] at this
  rw [this, e]
/-- words of RULES as the row has them, folded -/
def wst0 (ω : Int → Int) (s : Int) : Int := km (fo ω) (rk ω (57 + 21 * s))
def wrt (ω : Int → Int) (r i : Int) : Int := km (fo ω) (rk ω (478 + 106 * r + 21 * i))
def stopB (ω : Int → Int) (v : Int) : Bool := exI (wst0 ω) v (ω 1).toNat
def memB (ω : Int → Int) (v r : Int) : Bool := exI (fun i => wrt ω r (i + 1)) v (ω (477 + 106 * r) - 1).toNat
def rootI (ω : Int → Int) (v : Int) : Int := fsB (memB ω v) (ω 2).toNat
def nameI (ω : Int → Int) (v : Int) : Int := fsB (fun r => decide (wrt ω r 0 = v)) (ω 2).toNat
/-- RULES that can be read -/
def RLO (ω : Int → Int) : Prop := (0 ≤ ω 0 ∧ ω 0 ≤ 20) ∧ (0 ≤ ω 1 ∧ ω 1 ≤ 20) ∧ (0 ≤ ω 2 ∧ ω 2 ≤ 20) ∧ (∀ s, 0 ≤ s → s < ω 1 → RV ω (57 + 21 * s) ∧ 1 ≤ ω (57 + 21 * s)) ∧ ∀ r, 0 ≤ r → r < ω 2 → (2 ≤ ω (477 + 106 * r) ∧ ω (477 + 106 * r) ≤ 5) ∧ ∀ i, 0 ≤ i → i < ω (477 + 106 * r) → RV ω (478 + 106 * r + 21 * i) ∧ 1 ≤ ω (478 + 106 * r + 21 * i)
section RL
variable {l : Launch} {d : Nat} {ω : Int → Int} {σ : jH}
def FR1 (σ τ : jH) (a : Int) : Prop := ∀ c, c ≠ a → τ c = σ c
theorem FR1.tr {a : Int} {τ υ : jH} (h : FR1 σ τ a) (h' : FR1 τ υ a) : FR1 σ υ a := fun c hc => (h' c hc).trans (h c hc)
/-- which form has a key -/
def IXF (ω : Int → Int) (K x : Int) : Prop := (x = -1 ∧ ∀ f, 0 ≤ f → f < dn ω → dF ω f ≠ K) ∨ (0 ≤ x ∧ x < dn ω ∧ dF ω x = K)
theorem RFR.FRM (R : RFR σ ω) : FRM σ (dn ω) := ⟨R.2.1.1, R.2.2.1, R.2.2.2.2.1, fun f a b => (R.2.2.2.2.2.2.2.1 f a b).1, fun f g a b c => by
  rw [(R.2.2.2.2.2.2.2.1 f a (by omega)).2, (R.2.2.2.2.2.2.2.1 g (by omega) c).2]
  exact R.2.1.2.1 f g a b c⟩
theorem RFR.IX (R : RFR σ ω) {K x : Int} (h : FDM σ (dn ω) K x) : IXF ω K x := by
  rcases h with ⟨h1, h2⟩ | ⟨h1, h2, h3⟩
  · exact Or.inl ⟨h1, fun f a b => by rw [← (R.2.2.2.2.2.2.2.1 f a b).2]; exact h2 f a b⟩
  · exact Or.inr ⟨h1, h2, by rw [← (R.2.2.2.2.2.2.2.1 x h1 h2).2]; exact h3⟩
theorem RFR.of {τ : jH} (R : RFR σ ω) (h : ∀ c, c = 189 ∨ (190 ≤ c ∧ c ≤ 199) → τ c = σ c) : RFR τ ω := by
  refine ⟨R.1, R.2.1, R.2.2.1, ?_⟩
  obtain ⟨r1, r2, r3, r4, r5, r6⟩ := R.2.2.2
  refine ⟨by rw [h 190 (by omega)]; exact r1, by rw [h 189 (by omega)]; exact r2, fun e a b => RWD_eq (r3 e a b) (h 190 (by omega)) (h 193 (by omega)) (h 195 (by omega)) (h 196 (by omega)) (h 197 (by omega)), fun e p a b c d => by rw [h 194 (by omega)]; exact r4 e p a b c d, fun f a b => by rw [h 198 (by omega)]; exact r5 f a b, fun i a b => by rw [h 199 (by omega)]; exact r6 i a b⟩
/-- a folded word is written into a row -/
theorem l_ruledForm {at0 : Int} (hd : 12 ≤ d) (R : RFR σ ω) (hal : ALP σ) (V : RV ω at0) (a0 : 0 ≤ at0) (a1 : at0 + 20 < 32677) : ∀ (m : Nat) (k : Int) (τ : jH), k + m = ω at0 + 1 → 1 ≤ k → FR1 σ τ 201 → τ 201 0 = ω at0 → (∀ j, 1 ≤ j → j < k → τ 201 j = fo ω (ω (at0 + j))) →
    Ev (l, (fun _ => 0), 0) d 0 0 m_Model_ruledForm (RW fun z τ => IXF ω (km (fo ω) (rk ω at0)) z ∧ FR1 σ τ 201) 14 [some (vR 189), some (vI at0), some (vI k)] [] gW τ 0 0
  | 0, k, τ, hk, k1, F, h0, hj => by
    have e190 : τ 190 = ω := by rw [F 190 (by omega)]; exact R.2.2.2.1
    have hφ := R.1.2.2.1
    have V2 : RV (τ 201) 0 := by
      refine ⟨by rw [h0]; exact V.1, by rw [h0]; exact V.2.1, fun j j0 j1 => ?_⟩
      rw [show (0 : Int) + 1 + j = j + 1 by omega, hj (j + 1) (by omega) (by omega)]
      have := V.2.2 j j0 (by omega)
      rw [show at0 + 1 + j = at0 + (j + 1) by omega] at this
      exact hφ _ this.1 this.2
    have hk2 : rk (τ 201) 0 = km (fo ω) (rk ω at0) := by
      rw [km_rk V]
      unfold rk
      apply rh_eq
      intro j j0 _
      by_cases q : j < ω at0
      · rw [mg_in V j0 q]
        unfold dgr
        rw [if_pos (by rw [h0]; exact q), show (0 : Int) + 1 + j = j + 1 by omega, hj (j + 1) (by omega) (by omega), show at0 + 1 + j = at0 + (j + 1) by omega]
      · rw [mg_out (by omega)]
        unfold dgr
        rw [if_neg (by rw [h0]; exact q)]
    refine jwp_sound t_Model_ruledForm _ (b_Model_ruledForm_14 ?_)
    simp only [RW, true_and, and_true, and_self, true_or, or_true, Nat.reduceLeDiff, Nat.reduceEqDiff, Nat.reduceAdd, Int.reduceLE, Int.reduceLT, Int.reduceEq, Int.reduceNeg, Int.reduceNe, Nat.reduceSub, reduceIte, implies_true, gt_189, gr_189_1, gt_190, gr_189_13, gt_201]
    rw [e190]
    have R' := R.of (τ := τ) (fun c h => F c (by omega))
    refine ⟨a0, by omega, fun _ => ?_, fun q => absurd q (by omega)⟩
    refine cN_w (c_Model_find (X := 201) τ (fun x a b => by rw [F 200 (by omega)]; exact hal x a b) gt_201 V2 (by omega) (by omega) (by omega) R'.FRM) (by omega) (fun z υ hz => ?_)
    obtain ⟨hz, rfl⟩ := hz
    rw [hk2] at hz
    exact ⟨R'.IX hz, F⟩
  | m + 1, k, τ, hk, k1, F, h0, hj => by
    have e190 : τ 190 = ω := by rw [F 190 (by omega)]; exact R.2.2.2.1
    have v := V.2.2 (k - 1) (by omega) (by omega)
    rw [show at0 + 1 + (k - 1) = at0 + k by omega] at v
    have v2 := V.2.1
    refine jwp_sound t_Model_ruledForm _ (b_Model_ruledForm_14 ?_)
    simp only [RW, true_and, and_true, and_self, true_or, or_true, Nat.reduceLeDiff, Nat.reduceEqDiff, Nat.reduceAdd, Int.reduceLE, Int.reduceLT, Int.reduceEq, Int.reduceNeg, Int.reduceNe, Nat.reduceSub, reduceIte, implies_true, gt_189, gr_189_1, gt_190, gr_189_13, gt_201]
    rw [e190, w32_of (x := at0 + k) (by omega) (by omega), w32_of (x := k + 1) (by omega) (by omega)]
    refine ⟨a0, by omega, fun q => absurd q (by omega), fun _ => ⟨by omega, by omega, ?_⟩⟩
    refine cN_p (c_Model_folded τ v.1 v.2) (by omega) ⟨by omega, by omega, ?_⟩
    rw [e190]
    refine l_ruledForm hd R hal V a0 a1 m (k + 1) _ (by omega) (by omega) (F.tr (fun c hc => ju_row hc)) ?_ (fun j j0 j1 => ?_)
    · rw [ju_ne2 (by omega)]
      exact h0
    · by_cases hjk : j = k
      · rw [hjk, ju_self]
      · rw [ju_ne2 hjk]
        exact hj j j0 (by omega)
theorem c_ruledForm {at0 : Int} (R : RFR σ ω) (hal : ALP σ) (V : RV ω at0) (a0 : 0 ≤ at0) (a1 : at0 + 20 < 32677) : Cw 12 m_Model_ruledForm [vR 189, vI at0] σ (fun z τ => IXF ω (km (fo ω) (rk ω at0)) z ∧ FR1 σ τ 201) := by
  have e190 := R.2.2.2.1
  have v := V.1
  refine Cw_of o_Model_ruledForm rfl fun l d hd => jwp_sound t_Model_ruledForm _ (b_Model_ruledForm_0 ?_)
  simp only [RW, true_and, and_true, and_self, true_or, or_true, Nat.reduceLeDiff, Nat.reduceEqDiff, Nat.reduceAdd, Int.reduceLE, Int.reduceLT, Int.reduceEq, Int.reduceNeg, Int.reduceNe, Nat.reduceSub, reduceIte, implies_true, gt_189, gr_189_1, gt_190, gr_189_13, gt_201]
  rw [e190]
  refine ⟨a0, by omega, ?_⟩
  exact l_ruledForm hd R hal V a0 a1 (ω at0).toNat 1 _ (by omega) (by omega) (fun c hc => ju_row hc) ju_self (fun j a b => by omega)
theorem ixf_f {K x f : Int} (R : RFR σ ω) (h : IXF ω K x) (f0 : 0 ≤ f) (f1 : f < dn ω) : x = f ↔ K = dF ω f := by
  rcases h with ⟨h1, h2⟩ | ⟨h1, h2, h3⟩
  · exact ⟨fun q => by omega, fun q => absurd q.symm (h2 f f0 f1)⟩
  · refine ⟨fun q => by rw [← q]; exact h3.symm, fun q => ?_⟩
    exact inc_inj R.2.1.2.1 h1 h2 f0 f1 (h3.trans q)
theorem l_Model_isStop {f : Int} (hd : 13 ≤ d) (R : RFR σ ω) (hal : ALP σ) (U : RLO ω) (f0 : 0 ≤ f) (f1 : f < dn ω) : ∀ (m s : Nat) (τ : jH), s + m = (ω 1).toNat → FR1 σ τ 201 → exI (wst0 ω) (dF ω f) s = false →
    Ev (l, (fun _ => 0), 0) d 0 0 m_Model_isStop (RW fun z τ => z = b2i (stopB ω (dF ω f)) ∧ FR1 σ τ 201) 2 [some (vR 189), some (vI f), some (vI s)] [] gW τ 0 0
  | 0, s, τ, hs, F, hx => by
    have e190 : τ 190 = ω := by rw [F 190 (by omega)]; exact R.2.2.2.1
    refine jwp_sound t_Model_isStop _ (b_Model_isStop_2 ?_)
    simp only [RW, true_and, and_true, and_self, true_or, or_true, Nat.reduceLeDiff, Nat.reduceEqDiff, Nat.reduceAdd, Int.reduceLE, Int.reduceLT, Int.reduceEq, Int.reduceNeg, Int.reduceNe, Nat.reduceSub, reduceIte, implies_true, gt_189, gr_189_1, gt_190]
    rw [e190]
    refine ⟨fun _ => ⟨?_, F⟩, fun q => absurd q (by omega)⟩
    unfold stopB
    rw [show (ω 1).toNat = s by omega, hx]
    rfl
  | m + 1, s, τ, hs, F, hx => by
    obtain ⟨U1, U2, U3, U4, U5⟩ := U
    have e190 : τ 190 = ω := by rw [F 190 (by omega)]; exact R.2.2.2.1
    have R' := R.of (τ := τ) (fun c h => F c (by omega))
    obtain ⟨V, V1⟩ := U4 s (by omega) (by omega)
    refine jwp_sound t_Model_isStop _ (b_Model_isStop_2 ?_)
    simp only [RW, true_and, and_true, and_self, true_or, or_true, Nat.reduceLeDiff, Nat.reduceEqDiff, Nat.reduceAdd, Int.reduceLE, Int.reduceLT, Int.reduceEq, Int.reduceNeg, Int.reduceNe, Nat.reduceSub, reduceIte, implies_true, gt_189, gr_189_1, gt_190]
    rw [e190, w32_of (x := (s : Int) + 1) (by omega) (by omega), w32_of (x := 21 * (s : Int)) (by omega) (by omega), w32_of (x := 57 + 21 * (s : Int)) (by omega) (by omega)]
    refine ⟨fun q => absurd q (by omega), fun _ => ⟨fun q => absurd q (by omega), fun _ => ?_⟩⟩
    refine cN_w (c_ruledForm R' (fun x a b => by rw [F 200 (by omega)]; exact hal x a b) V (by omega) (by omega)) (by omega) (fun z υ hz => ?_)
    obtain ⟨hz, F2⟩ := hz
    have ix := ixf_f R hz f0 f1
    refine ⟨fun q => ?_, fun q => ⟨?_, F.tr F2⟩⟩
    · refine l_Model_isStop hd R hal ⟨U1, U2, U3, U4, U5⟩ f0 f1 m (s + 1) υ (by omega) (F.tr F2) ?_
      show (exI (wst0 ω) (dF ω f) s || decide (wst0 ω s = dF ω f)) = false
      rw [hx, Bool.false_or]
      simp only [decide_eq_false_iff_not]
      exact fun e => q (ix.mpr e)
    · have : stopB ω (dF ω f) = true := exI_iff.mpr ⟨s, by omega, by omega, ix.mp q⟩
      rw [this]
      rfl
theorem c_Model_isStop {f : Int} (R : RFR σ ω) (hal : ALP σ) (U : RLO ω) (f0 : 0 ≤ f) (f1 : f < dn ω) : Cw 13 m_Model_isStop [vR 189, vI f] σ (fun z τ => z = b2i (stopB ω (dF ω f)) ∧ FR1 σ τ 201) := by
  refine Cw_of o_Model_isStop rfl fun l d hd => jwp_sound t_Model_isStop _ (b_Model_isStop_0 ?_)
  exact l_Model_isStop hd R hal U f0 f1 (ω 1).toNat 0 σ (by omega) (fun _ _ => rfl) rfl
theorem l_Model_rootOf24 {f : Int} {r : Nat} (hd : 13 ≤ d) (R : RFR σ ω) (hal : ALP σ) (U : RLO ω) (f0 : 0 ≤ f) (f1 : f < dn ω) (hr : (r : Int) < ω 2) (hn : ∀ j, 0 ≤ j → j < (r : Int) → memB ω (dF ω f) j = false)
    (H : ∀ τ, FR1 σ τ 201 → memB ω (dF ω f) r = false → Ev (l, (fun _ => 0), 0) d 0 0 m_Model_rootOf (RW fun z τ => z = rootI ω (dF ω f) ∧ FR1 σ τ 201) 2 [some (vR 189), some (vI f), some (vI ((r : Int) + 1)), none, none] [] gW τ 0 0) : ∀ (m i : Nat) (τ : jH), (i : Int) + m = ω (477 + 106 * r) → 1 ≤ i → FR1 σ τ 201 → exI (fun i => wrt ω r (i + 1)) (dF ω f) (i - 1) = false →
    Ev (l, (fun _ => 0), 0) d 0 0 m_Model_rootOf (RW fun z τ => z = rootI ω (dF ω f) ∧ FR1 σ τ 201) 24 [some (vR 189), some (vI f), some (vI r), some (vI (477 + 106 * r)), some (vI i)] [] gW τ 0 0
  | 0, i, τ, hs, i1, F, hx => by
    obtain ⟨U1, U2, U3, U4, U5⟩ := U
    have e190 : τ 190 = ω := by rw [F 190 (by omega)]; exact R.2.2.2.1
    refine jwp_sound t_Model_rootOf _ (b_Model_rootOf_24 ?_)
    simp only [RW, true_and, and_true, and_self, true_or, or_true, Nat.reduceLeDiff, Nat.reduceEqDiff, Nat.reduceAdd, Int.reduceLE, Int.reduceLT, Int.reduceEq, Int.reduceNeg, Int.reduceNe, Nat.reduceSub, reduceIte, implies_true, gt_189, gr_189_1, gt_190]
    rw [e190, w32_of (x := (r : Int) + 1) (by omega) (by omega)]
    refine ⟨by omega, by omega, fun _ => H τ F ?_, fun q => absurd q (by omega)⟩
    unfold memB
    rw [show (ω (477 + 106 * (r : Int)) - 1).toNat = i - 1 by omega]
    exact hx
  | m + 1, i, τ, hs, i1, F, hx => by
    have U' := U
    obtain ⟨U1, U2, U3, U4, U5⟩ := U'
    have e190 : τ 190 = ω := by rw [F 190 (by omega)]; exact R.2.2.2.1
    have R' := R.of (τ := τ) (fun c h => F c (by omega))
    obtain ⟨u5, u6⟩ := U5 r (by omega) hr
    obtain ⟨V, V1⟩ := u6 i (by omega) (by omega)
    refine jwp_sound t_Model_rootOf _ (b_Model_rootOf_24 ?_)
    simp only [RW, true_and, and_true, and_self, true_or, or_true, Nat.reduceLeDiff, Nat.reduceEqDiff, Nat.reduceAdd, Int.reduceLE, Int.reduceLT, Int.reduceEq, Int.reduceNeg, Int.reduceNe, Nat.reduceSub, reduceIte, implies_true, gt_189, gr_189_1, gt_190]
    rw [e190, w32_of (x := (r : Int) + 1) (by omega) (by omega), w32_of (x := (i : Int) + 1) (by omega) (by omega), w32_of (x := 477 + 106 * (r : Int) + 1) (by omega) (by omega), w32_of (x := 21 * (i : Int)) (by omega) (by omega), show 477 + 106 * (r : Int) + 1 = 478 + 106 * r by omega, w32_of (x := 478 + 106 * (r : Int) + 21 * i) (by omega) (by omega)]
    refine ⟨by omega, by omega, fun q => absurd q (by omega), fun _ => ?_⟩
    refine cN_w (c_ruledForm R' (fun x a b => by rw [F 200 (by omega)]; exact hal x a b) V (by omega) (by omega)) (by omega) (fun z υ hz => ?_)
    obtain ⟨hz, F2⟩ := hz
    have ix := ixf_f R hz f0 f1
    have ew : wrt ω r (((i - 1 : Nat) : Int) + 1) = km (fo ω) (rk ω (478 + 106 * (r : Int) + 21 * i)) := by
      unfold wrt
      rw [show ((i - 1 : Nat) : Int) + 1 = i by omega]
    refine ⟨fun q => ?_, fun q => ⟨?_, F.tr F2⟩⟩
    · refine l_Model_rootOf24 hd R hal U f0 f1 hr hn H m (i + 1) υ (by omega) (by omega) (F.tr F2) ?_
      rw [show i + 1 - 1 = (i - 1) + 1 by omega]
      show (exI (fun i => wrt ω r (i + 1)) (dF ω f) (i - 1) || decide (wrt ω r (((i - 1 : Nat) : Int) + 1) = dF ω f)) = false
      rw [hx, Bool.false_or, ew]
      simp only [decide_eq_false_iff_not]
      exact fun e => q (ix.mpr e)
    · have : memB ω (dF ω f) r = true := exI_iff.mpr ⟨((i - 1 : Nat) : Int), by omega, by omega, by show wrt ω r (((i - 1 : Nat) : Int) + 1) = _; rw [ew]; exact ix.mp q⟩
      unfold rootI
      rw [fsB_is (by omega) (by omega) this hn]
theorem l_Model_rootOf {f : Int} (hd : 13 ≤ d) (R : RFR σ ω) (hal : ALP σ) (U : RLO ω) (f0 : 0 ≤ f) (f1 : f < dn ω) : ∀ (m r : Nat) (τ : jH), r + m = (ω 2).toNat → FR1 σ τ 201 → (∀ j, 0 ≤ j → j < (r : Int) → memB ω (dF ω f) j = false) →
    Ev (l, (fun _ => 0), 0) d 0 0 m_Model_rootOf (RW fun z τ => z = rootI ω (dF ω f) ∧ FR1 σ τ 201) 2 [some (vR 189), some (vI f), some (vI r), none, none] [] gW τ 0 0
  | 0, r, τ, hs, F, hn => by
    obtain ⟨U1, U2, U3, U4, U5⟩ := U
    have e190 : τ 190 = ω := by rw [F 190 (by omega)]; exact R.2.2.2.1
    refine jwp_sound t_Model_rootOf _ (b_Model_rootOf_2 ?_)
    simp only [RW, true_and, and_true, and_self, true_or, or_true, Nat.reduceLeDiff, Nat.reduceEqDiff, Nat.reduceAdd, Int.reduceLE, Int.reduceLT, Int.reduceEq, Int.reduceNeg, Int.reduceNe, Nat.reduceSub, reduceIte, implies_true, gt_189, gr_189_1, gt_190]
    rw [e190]
    refine ⟨fun _ => ⟨?_, F⟩, fun q => absurd q (by omega)⟩
    unfold rootI
    rw [fsB_no (fun k a b => hn k a (by omega))]
  | m + 1, r, τ, hs, F, hn => by
    have U' := U
    obtain ⟨U1, U2, U3, U4, U5⟩ := U'
    have e190 : τ 190 = ω := by rw [F 190 (by omega)]; exact R.2.2.2.1
    obtain ⟨u5, u6⟩ := U5 r (by omega) (by omega)
    refine jwp_sound t_Model_rootOf _ (b_Model_rootOf_2 ?_)
    simp only [RW, true_and, and_true, and_self, true_or, or_true, Nat.reduceLeDiff, Nat.reduceEqDiff, Nat.reduceAdd, Int.reduceLE, Int.reduceLT, Int.reduceEq, Int.reduceNeg, Int.reduceNe, Nat.reduceSub, reduceIte, implies_true, gt_189, gr_189_1, gt_190]
    rw [e190, w32_of (x := 106 * (r : Int)) (by omega) (by omega), w32_of (x := 477 + 106 * (r : Int)) (by omega) (by omega)]
    refine ⟨fun q => absurd q (by omega), fun _ => ?_⟩
    refine l_Model_rootOf24 hd R hal U f0 f1 (by omega) hn (fun υ F2 hm => ?_) (ω (477 + 106 * r) - 1).toNat 1 τ (by omega) (by omega) F rfl
    have := l_Model_rootOf hd R hal U f0 f1 m (r + 1) υ (by omega) F2 (fun j a b => ?_)
    · rw [show ((r + 1 : Nat) : Int) = (r : Int) + 1 by omega] at this
      exact this
    · by_cases hj : j = r
      · rw [hj]
        exact hm
      · exact hn j a (by omega)
theorem c_Model_rootOf {f : Int} (R : RFR σ ω) (hal : ALP σ) (U : RLO ω) (f0 : 0 ≤ f) (f1 : f < dn ω) : Cw 13 m_Model_rootOf [vR 189, vI f] σ (fun z τ => z = rootI ω (dF ω f) ∧ FR1 σ τ 201) := by
  refine Cw_of o_Model_rootOf rfl fun l d hd => jwp_sound t_Model_rootOf _ (b_Model_rootOf_0 ?_)
  exact l_Model_rootOf hd R hal U f0 f1 (ω 2).toNat 0 σ (by omega) (fun _ _ => rfl) (fun j a b => by omega)
end RL
