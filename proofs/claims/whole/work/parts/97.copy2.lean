/-! Images kept and gone back to -/
def OMG (ω : Int → Int) : Prop := OKW ω ∧ RLO ω ∧ SPO ω
def IMG (σ : jH) (o : Int) (ω : Int → Int) : Prop := IML σ o ω ∧ RLS σ (o + 1) ω ∧ SPC σ o ω ∧ (σ (o + 1) 11 = 0 ∨ σ (o + 1) 11 = 1)
theorem IMG_eq {σ τ : jH} {o : Int} {ω : Int → Int} (h : ∀ c, o ≤ c → c ≤ o + 22 → τ c = σ c) (H : IMG σ o ω) : IMG τ o ω := by
  obtain ⟨h1, h2, h3, h4⟩ := H
  refine ⟨IML_eq h h1, RLS_eq h2 (fun c a b => h c (by omega) (by omega)), fun q a b => ?_, by rw [h _ (by omega) (by omega)]; exact h4⟩
  have := h3 q a b
  unfold KKV at this ⊢
  rw [h _ (by omega) (by omega), h _ (by omega) (by omega)]
  exact this
theorem img_copy {σ τ : jH} {a b : Int} {ω : Int → Int} (I : IEQ τ a σ b) (W : OMG ω) (H : IMG σ b ω) : IMG τ a ω := by
  obtain ⟨W1, W2, W3⟩ := W
  obtain ⟨⟨H1, H2, H3, H4⟩, ⟨R1, R2, R3⟩, S, O⟩ := H
  obtain ⟨⟨Q1, Q2⟩, I2⟩ := I
  obtain ⟨q0, q3, q5, q7, q11⟩ := Q1
  obtain ⟨r0, r1, r2, r3, r4⟩ := W2
  have lin : ∀ e, 0 ≤ e → e ≤ 1 → LIN σ b ω e → LIN τ a ω e := fun e e0 e1 L => by
    obtain ⟨L1, L2⟩ := L
    obtain ⟨w1, w2, w3⟩ := (W1.L ⟨e0, e1⟩).1
    refine ⟨by rw [I2 19 2 (by omega) e e0 (by omega)]; exact L1, fun i i0 i1 => ?_⟩
    obtain ⟨m1, m2, m3, m4⟩ := L2 i i0 i1
    have w := w3 i i0 i1
    refine ⟨by rw [I2 16 80 (by omega) _ (by omega) (by omega)]; exact m1, fun k k0 k1 => ?_, by rw [I2 17 80 (by omega) _ (by omega) (by omega)]; exact m3, by rw [I2 18 80 (by omega) _ (by omega) (by omega)]; exact m4⟩
    rw [I2 15 4800 (by omega) _ (by omega) (by omega)]
    exact m2 k k0 k1
  have one : ∀ k j, ((k = 1 ∨ k = 13) ∧ 0 ≤ j ∧ j < 26) → τ (a + (k + 1)) j = σ (b + (k + 1)) j := fun k j h => by
    have := Q2 k 26 (by omega) j h.2.1 h.2.2
    rwa [show a + 1 + k = a + (k + 1) by omega, show b + 1 + k = b + (k + 1) by omega] at this
  refine ⟨⟨lin 0 (by omega) (by omega) H1, lin 1 (by omega) (by omega) H2, fun x x0 x1 => ?_, fun x x0 x1 => ?_⟩, ⟨⟨q0.trans R1.1, q3.trans R1.2.1, q5.trans R1.2.2.1, q7.trans R1.2.2.2⟩, fun s s0 s1 => ?_, fun t t0 t1 => ?_⟩, fun q p0 p1 => ?_, by rw [q11]; exact O⟩
  · exact (one 1 x ⟨by omega, x0, x1⟩).trans (H3 x x0 x1)
  · exact (one 13 x ⟨by omega, x0, x1⟩).trans (H4 x x0 x1)
  · obtain ⟨k1, k2⟩ := R2 s s0 s1
    have a1 := Q2 4 20 (by omega) s s0 (by omega)
    have a2 := Q2 5 20 (by omega) s s0 (by omega)
    unfold KKV
    rw [show a + 1 + 3 + 1 = a + 1 + 4 by omega, show a + 1 + 3 + 2 = a + 1 + 5 by omega, a1, a2]
    rw [show b + 1 + 3 + 1 = b + 1 + 4 by omega] at k1
    rw [show b + 1 + 3 + 2 = b + 1 + 5 by omega] at k2
    exact ⟨k1, k2⟩
  · obtain ⟨k0, ⟨k1, k2⟩, k3⟩ := R3 t t0 t1
    have rr := (r4 t t0 t1).1
    have a1 := Q2 7 20 (by omega) t t0 (by omega)
    have a2 := Q2 8 20 (by omega) t t0 (by omega)
    have a3 := Q2 12 20 (by omega) t t0 (by omega)
    refine ⟨by rw [a3]; exact k0, ⟨?_, ?_⟩, fun i i0 i1 => ?_⟩
    · rw [show a + 1 + 6 + 1 = a + 1 + 7 by omega, a1]
      rwa [show b + 1 + 6 + 1 = b + 1 + 7 by omega] at k1
    · rw [show a + 1 + 6 + 2 = a + 1 + 8 by omega, a2]
      rwa [show b + 1 + 6 + 2 = b + 1 + 8 by omega] at k2
    · obtain ⟨x1, x2⟩ := k3 i i0 i1
      have a1 := Q2 10 80 (by omega) (4 * t + i) (by omega) (by omega)
      have a2 := Q2 11 80 (by omega) (4 * t + i) (by omega) (by omega)
      refine ⟨?_, ?_⟩
      · rw [show a + 1 + 9 + 1 = a + 1 + 10 by omega, a1]
        rwa [show b + 1 + 9 + 1 = b + 1 + 10 by omega] at x1
      · rw [show a + 1 + 9 + 2 = a + 1 + 11 by omega, a2]
        rwa [show b + 1 + 9 + 2 = b + 1 + 11 by omega] at x2
  · obtain ⟨k1, k2⟩ := S q p0 p1
    have a1 := I2 21 1200 (by omega) q p0 (by omega)
    have a2 := I2 22 1200 (by omega) q p0 (by omega)
    refine ⟨?_, ?_⟩
    · rw [show a + 20 + 1 = a + 21 by omega, a1]
      rwa [show b + 20 + 1 = b + 21 by omega] at k1
    · rw [show a + 20 + 2 = a + 22 by omega, a2]
      rwa [show b + 20 + 2 = b + 22 by omega] at k2
/-- images kept, class -/
def KPC (σ : jH) (η : Int → Bool) (ψ : Int → Int → Int) : Prop := ∀ k, 0 ≤ k → k ≤ 2 → (σ 96 k = b2i (η k)) ∧ (σ (27 + 23 * k + 1) 11 = 0 ∨ σ (27 + 23 * k + 1) 11 = 1) ∧ (η k = true → IMG σ (27 + 23 * k) (ψ k) ∧ OMG (ψ k))
def KEC (σ τ : jH) (η : Int → Bool) (ψ : Int → Int → Int) (ω : Int → Int) (k z : Int) : Prop := z = (if 0 ≤ k ∧ k ≤ 2 then 0 else -2) ∧ (¬ (0 ≤ k ∧ k ≤ 2) → τ = σ) ∧ ((0 ≤ k ∧ k ≤ 2) → KPC τ (up η k true) (up ψ k ω) ∧ ∀ c, (c < 27 ∨ 96 < c) → τ c = σ c)
section KB
variable {l : Launch} {d : Nat} {k : Int} {ω : Int → Int} {σ : jH} {η : Int → Bool} {ψ : Int → Int → Int}
theorem isI3 : isImage 3 := by
  unfold isImage
  omega
theorem isIk (h : 0 ≤ k ∧ k ≤ 2) : isImage (27 + 23 * k) := by
  unfold isImage
  omega
theorem KPC_eq {τ : jH} (h : ∀ c, 27 ≤ c → c ≤ 96 → τ c = σ c) (K : KPC σ η ψ) : KPC τ η ψ := fun k k0 k1 => by
  obtain ⟨a, b, c⟩ := K k k0 k1
  refine ⟨by rw [h 96 (by omega) (by omega)]; exact a, by rw [h _ (by omega) (by omega)]; exact b, fun q => ⟨IMG_eq (fun c a b => h c (by omega) (by omega)) (c q).1, (c q).2⟩⟩
theorem g26 (h : 0 ≤ k ∧ k ≤ 2) : gW.2.2 26 k = 27 + 23 * k := by
  have t : gW.2.1 26 = (5, 3) := gt_26
  have : k = 0 ∨ k = 1 ∨ k = 2 := by omega
  rcases this with q | q | q
  · rw [q]; exact gr_26_0
  · rw [q]; exact gr_26_1
  · rw [q]; exact gr_26_2
theorem c_keep (W : OMG ω) (H : IMG σ 3 ω) (K : KPC σ η ψ) : Cw 13 m_WordPlaces_keep [vR 1, vI k] σ (fun z τ => KEC σ τ η ψ ω k z) := by
  have t26 : gW.2.1 26 = (5, 3) := gt_26
  have t96 : gW.2.1 96 = (3, 3) := gt_96
  refine Cw_of o_WordPlaces_keep rfl fun l d hd => jwp_sound t_WordPlaces_keep _ (b_WordPlaces_keep_0 ?_)
  simp only [RW, true_and, and_true, and_self, true_or, or_true, Nat.reduceLeDiff, Nat.reduceEqDiff, Nat.reduceAdd, Int.reduceLE, Int.reduceLT, Int.reduceEq, Int.reduceNeg, Int.reduceNe, Nat.reduceSub, reduceIte, implies_true, gt_1, gr_1_2, gt_3, gr_1_3, gt_26, gr_1_4, gt_96]
  by_cases hk : 0 ≤ k ∧ k ≤ 2
  · refine ⟨fun q => by omega, fun _ => ⟨fun _ => ?_, fun q => by omega⟩⟩
    have hI := isIk hk
    rw [g26 hk, im_t hI]
    repeat (refine And.intro (by omega) ?_)
    refine cN_w (c_Image_copyFrom _ hI isI3 (by omega) H.2.2.2) (by omega) (fun _ τ h => ?_)
    obtain ⟨I, F⟩ := h
    repeat (refine And.intro (by omega) ?_)
    refine fun _ => ⟨fun j j0 j1 => ?_, fun c hc => ?_⟩
    · have r : ∀ c, c ≠ 96 → ju τ 96 k 1 c = τ c := fun c hc => ju_row hc
      unfold up
      by_cases q : j = k
      · subst q
        rw [if_pos rfl, if_pos rfl, ju_self]
        have M := IMG_eq (τ := ju τ 96 j 1) (fun c a b => r c (by omega)) (img_copy I W H)
        exact ⟨rfl, M.2.2.2, fun _ => ⟨M, W⟩⟩
      · rw [if_neg q, if_neg q, ju_ne2 q]
        obtain ⟨a, b, c⟩ := K j j0 j1
        refine ⟨by rw [F 96 (by omega)]; exact a, by rw [r _ (by omega), F _ (by omega)]; exact b, fun x => ⟨IMG_eq (fun c a b => by rw [r c (by omega), F c (by omega)]) (c x).1, (c x).2⟩⟩
    · rw [ju_row (by omega), F c (by omega)]
  · have no : KEC σ σ η ψ ω k (-2) := ⟨by rw [if_neg hk], fun _ => rfl, fun x => absurd x hk⟩
    exact ⟨fun q => no, fun a => ⟨fun b => by omega, fun q => no⟩⟩
/-- gone back to image k -/
def FLB (σ τ : jH) : Prop := (∀ c, (c < 3 ∨ 25 < c) → c ≠ 97 → c ≠ 135 → τ c = σ c) ∧ (τ 97 0 = 0 ∧ τ 135 0 = 0) ∧ ∀ j, j ≠ 0 → τ 97 j = σ 97 j ∧ τ 135 j = σ 135 j
def s_back (η : Int → Bool) (k : Int) : Int := if 0 ≤ k ∧ k ≤ 2 then (if η k = true then 0 else -6) else -2
def BKP (σ τ : jH) (η : Int → Bool) (ψ : Int → Int → Int) (k z : Int) : Prop := z = s_back η k ∧ (s_back η k ≠ 0 → τ = σ) ∧ (s_back η k = 0 → IMG τ 3 (ψ k) ∧ CFR τ (ψ k) ∧ FLB σ τ)
theorem s_back_0 : s_back η k = 0 ↔ (0 ≤ k ∧ k ≤ 2) ∧ η k = true := by
  unfold s_back
  constructor
  · intro h
    split at h
    · split at h
      · exact ⟨by assumption, by assumption⟩
      · omega
    · omega
  · intro h
    rw [if_pos h.1, if_pos h.2]
theorem c_back (hb : σ (3 + 1) 11 = 0 ∨ σ (3 + 1) 11 = 1) (K : KPC σ η ψ) : Cw 13 m_WordPlaces_back [vR 1, vI k] σ (fun z τ => BKP σ τ η ψ k z) := by
  have t26 : gW.2.1 26 = (5, 3) := gt_26
  have t96 : gW.2.1 96 = (3, 3) := gt_96
  refine Cw_of o_WordPlaces_back rfl fun l d hd => jwp_sound t_WordPlaces_back _ (b_WordPlaces_back_0 ?_)
  simp only [RW, true_and, and_true, and_self, true_or, or_true, Nat.reduceLeDiff, Nat.reduceEqDiff, Nat.reduceAdd, Int.reduceLE, Int.reduceLT, Int.reduceEq, Int.reduceNeg, Int.reduceNe, Nat.reduceSub, reduceIte, implies_true, gt_1, gr_1_2, gt_3, gr_1_3, gt_26, gr_1_4, gt_96]
  by_cases hk : 0 ≤ k ∧ k ≤ 2
  · refine ⟨fun q => by omega, fun _ => ⟨fun _ => ?_, fun q => by omega⟩⟩
    have hI := isIk hk
    obtain ⟨K1, K2, K3⟩ := K k hk.1 hk.2
    rw [g26 hk, K1]
    repeat (refine And.intro (by omega) ?_)
    cases q : η k with
    | false =>
      have s0 : s_back η k = -6 := by
        unfold s_back
        rw [if_pos hk, if_neg (by rw [q]; exact Bool.false_ne_true)]
      exact ⟨fun x => absurd rfl x, fun _ => ⟨s0.symm, fun _ => rfl, fun x => by omega⟩⟩
    | true =>
      have s0 : s_back η k = 0 := s_back_0.mpr ⟨hk, q⟩
      obtain ⟨M, W⟩ := K3 q
      refine ⟨fun _ => ?_, fun x => absurd x (by decide)⟩
      repeat (refine And.intro (by omega) ?_)
      refine cN_w (c_Image_copyFrom _ isI3 hI (by omega) K2) (by omega) (fun _ τ h => ?_)
      obtain ⟨I, F⟩ := h
      refine cN_v (c_forgetBook _) (by omega) (fun _ => ?_)
      have r : ∀ c, c ≠ 97 → c ≠ 135 → ju (ju τ 97 0 0) 135 0 0 c = τ c := fun c a b => by rw [ju_row b, ju_row a]
      have M' := IMG_eq (τ := ju (ju τ 97 0 0) 135 0 0) (fun c a b => r c (by omega) (by omega)) (img_copy I W M)
      have z97 : ju (ju τ 97 0 0) 135 0 0 97 0 = 0 := by rw [ju_row (by omega), ju_self]
      refine ⟨s0.symm, fun x => absurd s0 x, fun _ => ⟨M', ⟨W.1, M'.1, fun x => absurd z97 x⟩, fun c a b b' => by rw [r c b b', F c (by omega)], ⟨z97, ju_self⟩, fun j hj => ⟨?_, ?_⟩⟩⟩
      · rw [ju_row (by omega), ju_ne2 hj, F 97 (by omega)]
      · rw [ju_ne2 hj, ju_row (by omega), F 135 (by omega)]
  · have s0 : s_back η k = -2 := if_neg hk
    exact ⟨fun q => ⟨s0.symm, fun _ => rfl, fun x => by omega⟩, fun a => ⟨fun b => by omega, fun q => ⟨s0.symm, fun _ => rfl, fun x => by omega⟩⟩⟩
end KB
/-- images kept, reference -/
def KPR (σ : jH) (η : Int → Bool) (ψ : Int → Int → Int) : Prop := ∀ k, 0 ≤ k → k ≤ 2 → (σ 192 k = b2i (η k)) ∧ (η k = true → ∀ j, 0 ≤ j → j < 32677 → σ 191 (32677 * k + j) = ψ k j)
def KER (σ τ : jH) (η : Int → Bool) (ψ : Int → Int → Int) (ω : Int → Int) (k z : Int) : Prop := z = (if 0 ≤ k ∧ k ≤ 2 then 0 else -2) ∧ (¬ (0 ≤ k ∧ k ≤ 2) → τ = σ) ∧ ((0 ≤ k ∧ k ≤ 2) → KPR τ (up η k true) (up ψ k ω) ∧ ∀ c, c ≠ 191 → c ≠ 192 → τ c = σ c)
section KR
variable {l : Launch} {d : Nat} {k : Int} {ω : Int → Int} {σ : jH} {η : Int → Bool} {ψ : Int → Int → Int}
theorem l_mkeep_17 {P : Int → jH → Prop} (hd : 11 ≤ d) (hk : 0 ≤ k ∧ k ≤ 2) (hP : ∀ τ : jH, (∀ c, c ≠ 191 → τ c = σ c) → (∀ j, τ 191 j = if 32677 * k ≤ j ∧ j < 32677 * k + 32677 then σ 190 (j - 32677 * k) else σ 191 j) → P 0 (ju τ 192 k 1)) : ∀ (m j : Nat) (τ : jH), j + m = 32677 → (∀ c, c ≠ 191 → τ c = σ c) → (∀ i, τ 191 i = if 32677 * k ≤ i ∧ i < 32677 * k + j then σ 190 (i - 32677 * k) else σ 191 i) →
    Ev (l, (fun _ => 0), 0) d 0 0 m_Model_keep (RW P) 17 [some (vR 189), some (vI k), some (vI j)] [] gW τ 0 0
  | 0, j, τ, q, F, V => by
    have j4 : j = 32677 := by omega
    subst j4
    refine jwp_sound t_Model_keep _ (b_Model_keep_17 ?_)
    simp only [RW, true_and, and_true, and_self, true_or, or_true, Nat.reduceLeDiff, Nat.reduceEqDiff, Nat.reduceAdd, Int.reduceLE, Int.reduceLT, Int.reduceEq, Int.reduceNeg, Int.reduceNe, Nat.reduceSub, reduceIte, implies_true, gt_189, gr_189_1, gt_190, gr_189_2, gt_191, gr_189_3, gt_192, gt_192]
    refine ⟨fun _ => ?_, fun x => absurd x (by omega)⟩
    repeat (refine And.intro (by omega) ?_)
    exact hP τ F V
  | m + 1, j, τ, q, F, V => by
    refine jwp_sound t_Model_keep _ (b_Model_keep_17 ?_)
    simp only [RW, true_and, and_true, and_self, true_or, or_true, Nat.reduceLeDiff, Nat.reduceEqDiff, Nat.reduceAdd, Int.reduceLE, Int.reduceLT, Int.reduceEq, Int.reduceNeg, Int.reduceNe, Nat.reduceSub, reduceIte, implies_true, gt_189, gr_189_1, gt_190, gr_189_2, gt_191, gr_189_3, gt_192, gt_190, gt_191]
    rw [w32_of (x := 32677 * k) (by omega) (by omega), w32_of (x := (j : Int) + 1) (by omega) (by omega), w32_of (x := 32677 * k + (j : Int)) (by omega) (by omega), F 190 (by omega)]
    refine ⟨fun x => absurd x (by omega), fun _ => ?_⟩
    repeat (refine And.intro (by omega) ?_)
    have IH := l_mkeep_17 hd hk hP m (j + 1) (ju τ 191 (32677 * k + j) (σ 190 j)) (by omega) (fun c hc => by rw [ju_row hc, F c hc]) (fun i => ?_)
    · rw [show ((j + 1 : Nat) : Int) = (j : Int) + 1 by omega] at IH
      exact IH
    · by_cases x : i = 32677 * k + j
      · subst x
        rw [ju_self, if_pos (by omega), show 32677 * k + (j : Int) - 32677 * k = j by omega]
      · rw [ju_ne2 x, V i]
        by_cases y : 32677 * k ≤ i ∧ i < 32677 * k + j
        · rw [if_pos y, if_pos (by omega)]
        · rw [if_neg y, if_neg (by omega)]
theorem c_Model_keep (e : σ 190 = ω) (K : KPR σ η ψ) : Cw 11 m_Model_keep [vR 189, vI k] σ (fun z τ => KER σ τ η ψ ω k z) := by
  refine Cw_of o_Model_keep rfl fun l d hd => jwp_sound t_Model_keep _ (b_Model_keep_0 ?_)
  simp only [RW, true_and, and_true, and_self, true_or, or_true, Nat.reduceLeDiff, Nat.reduceEqDiff, Nat.reduceAdd, Int.reduceLE, Int.reduceLT, Int.reduceEq, Int.reduceNeg, Int.reduceNe, Nat.reduceSub, reduceIte, implies_true, gt_189, gr_189_1, gt_190, gr_189_2, gt_191, gr_189_3, gt_192]
  refine cN_p (c_Model_in _ _ _ _) (by omega) ?_
  by_cases hk : 0 ≤ k ∧ k ≤ 2
  · rw [if_pos hk]
    refine ⟨fun _ => ?_, fun q => by omega⟩
    refine l_mkeep_17 (σ := σ) (k := k) hd hk (fun τ F V => ?_) 32677 0 σ rfl (fun _ _ => rfl) (fun i => by rw [if_neg (by omega)])
    refine ⟨by rw [if_pos hk], fun x => absurd hk x, fun _ => ⟨fun j j0 j1 => ?_, fun c a b => by rw [ju_row b, F c a]⟩⟩
    obtain ⟨K1, K2⟩ := K j j0 j1
    unfold up
    by_cases q : j = k
    · subst q
      rw [if_pos rfl, if_pos rfl, ju_self]
      refine ⟨rfl, fun _ i i0 i1 => ?_⟩
      rw [ju_row (by omega), V, if_pos (by omega), show 32677 * j + i - 32677 * j = i by omega, e]
    · rw [if_neg q, if_neg q, ju_ne2 q, F 192 (by omega)]
      refine ⟨K1, fun x i i0 i1 => ?_⟩
      rw [ju_row (by omega), V, if_neg (by omega)]
      exact K2 x i i0 i1
  · rw [if_neg hk]
    exact ⟨fun q => absurd rfl q, fun _ => ⟨by rw [if_neg hk], fun _ => rfl, fun x => absurd x hk⟩⟩
def BKR (σ τ : jH) (η : Int → Bool) (ψ : Int → Int → Int) (k z : Int) : Prop := z = s_back η k ∧ (s_back η k ≠ 0 → τ = σ) ∧ (s_back η k = 0 → RFR τ (ψ k) ∧ FLR σ τ)
theorem l_mback_29 {P : Int → jH → Prop} (hd : 16 ≤ d) (hk : 0 ≤ k ∧ k ≤ 2) (hv : ∀ j, 0 ≤ j → j < 32677 → σ 191 (32677 * k + j) = ω j) (ho : ∀ j, (j < 0 ∨ 32677 ≤ j) → ω j = σ 190 j) (W : OKW ω) (hal : ALP σ) (hP : ∀ τ : jH, RFR τ ω → FLR σ τ → P 0 τ) : ∀ (m j : Nat) (τ : jH), j + m = 32677 → (∀ c, c ≠ 190 → τ c = σ c) → (∀ i, τ 190 i = if i < j then ω i else σ 190 i) →
    Ev (l, (fun _ => 0), 0) d 0 0 m_Model_back (RW P) 29 [some (vR 189), some (vI k), some (vI j)] [] gW τ 0 0
  | 0, j, τ, q, F, V => by
    have j4 : j = 32677 := by omega
    subst j4
    refine jwp_sound t_Model_back _ (b_Model_back_29 ?_)
    simp only [RW, true_and, and_true, and_self, true_or, or_true, Nat.reduceLeDiff, Nat.reduceEqDiff, Nat.reduceAdd, Int.reduceLE, Int.reduceLT, Int.reduceEq, Int.reduceNeg, Int.reduceNe, Nat.reduceSub, reduceIte, implies_true, gt_189, gr_189_1, gt_190, gr_189_2, gt_191, gr_189_3, gt_192]
    refine ⟨fun _ => ?_, fun x => absurd x (by omega)⟩
    have z : τ 190 = ω := by
      funext i
      rw [V]
      by_cases x : i < (32677 : Nat)
      · rw [if_pos x]
      · rw [if_neg x, ho i (by omega)]
    have M := mok_of z W (fun x a b => by rw [F 200 (by omega)]; exact hal x a b)
    refine cN_w (c_Model_makes _ M.1 M.2) (by omega) (fun _ υ h => ?_)
    have D := h.rdr M.1 M.2
    rw [z] at D
    have K := h.fmk
    exact hP υ ⟨W, D⟩ ⟨fun c a b => by rw [K.1 c (by omega) (by omega), F c (by omega)], fun j hj => by rw [K.2 j hj, F 189 (by omega)]⟩
  | m + 1, j, τ, q, F, V => by
    refine jwp_sound t_Model_back _ (b_Model_back_29 ?_)
    simp only [RW, true_and, and_true, and_self, true_or, or_true, Nat.reduceLeDiff, Nat.reduceEqDiff, Nat.reduceAdd, Int.reduceLE, Int.reduceLT, Int.reduceEq, Int.reduceNeg, Int.reduceNe, Nat.reduceSub, reduceIte, implies_true, gt_189, gr_189_1, gt_190, gr_189_2, gt_191, gr_189_3, gt_192, gt_190, gt_191]
    rw [w32_of (x := 32677 * k) (by omega) (by omega), w32_of (x := (j : Int) + 1) (by omega) (by omega), w32_of (x := 32677 * k + (j : Int)) (by omega) (by omega), F 191 (by omega), hv j (by omega) (by omega)]
    refine ⟨fun x => absurd x (by omega), fun _ => ?_⟩
    repeat (refine And.intro (by omega) ?_)
    have IH := l_mback_29 hd hk hv ho W hal hP m (j + 1) (ju τ 190 j (ω j)) (by omega) (fun c hc => by rw [ju_row hc, F c hc]) (fun i => ?_)
    · rw [show ((j + 1 : Nat) : Int) = (j : Int) + 1 by omega] at IH
      exact IH
    · by_cases x : i = j
      · subst x
        rw [ju_self, if_pos (by omega)]
      · rw [ju_ne2 x, V i]
        by_cases y : i < j
        · rw [if_pos y, if_pos (by omega)]
        · rw [if_neg y, if_neg (by omega)]
theorem c_Model_back (hal : ALP σ) (K : KPR σ η ψ) (ho : η k = true → 0 ≤ k → k ≤ 2 → OKW (ψ k) ∧ ∀ j, (j < 0 ∨ 32677 ≤ j) → ψ k j = σ 190 j) : Cw 16 m_Model_back [vR 189, vI k] σ (fun z τ => BKR σ τ η ψ k z) := by
  have t192 : gW.2.1 192 = (3, 3) := gt_192
  refine Cw_of o_Model_back rfl fun l d hd => jwp_sound t_Model_back _ (b_Model_back_0 ?_)
  simp only [RW, true_and, and_true, and_self, true_or, or_true, Nat.reduceLeDiff, Nat.reduceEqDiff, Nat.reduceAdd, Int.reduceLE, Int.reduceLT, Int.reduceEq, Int.reduceNeg, Int.reduceNe, Nat.reduceSub, reduceIte, implies_true, gt_189, gr_189_1, gt_190, gr_189_2, gt_191, gr_189_3, gt_192]
  refine cN_p (c_Model_in _ _ _ _) (by omega) ?_
  by_cases hk : 0 ≤ k ∧ k ≤ 2
  · rw [if_pos hk]
    obtain ⟨K1, K2⟩ := K k hk.1 hk.2
    refine ⟨fun _ => ?_, fun q => by omega⟩
    repeat (refine And.intro (by omega) ?_)
    rw [K1]
    cases q : η k with
    | false =>
      have s0 : s_back η k = -6 := by
        unfold s_back
        rw [if_pos hk, if_neg (by rw [q]; exact Bool.false_ne_true)]
      exact ⟨fun x => absurd rfl x, fun _ => ⟨s0.symm, fun _ => rfl, fun x => by omega⟩⟩
    | true =>
      have s0 : s_back η k = 0 := s_back_0.mpr ⟨hk, q⟩
      obtain ⟨W, O⟩ := ho q hk.1 hk.2
      refine ⟨fun _ => ?_, fun x => absurd x (by decide)⟩
      refine l_mback_29 (σ := σ) (ω := ψ k) (k := k) hd hk (K2 q) O W hal (fun τ R F => ⟨s0.symm, fun x => absurd s0 x, fun _ => ⟨R, F⟩⟩) 32677 0 σ rfl (fun _ _ => rfl) (fun i => ?_)
      by_cases x : i < (0 : Nat)
      · rw [if_pos x, O i (by omega)]
      · rw [if_neg x]
  · have s0 : s_back η k = -2 := if_neg hk
    rw [if_neg hk]
    exact ⟨fun q => absurd rfl q, fun _ => ⟨s0.symm, fun _ => rfl, fun x => by omega⟩⟩
end KR
