/-! SLOTS: the reference -/
section SR
variable {l : Launch} {d : Nat} {σ : jH} {m w x : Int → Int}
theorem c_Model_isSlot (s : Int) (σ : jH) : Cw 11 m_Model_isSlot [vI s] σ (fun z τ => z = (if 0 ≤ s ∧ s < 4 then 1 else 0) ∧ τ = σ) := by
  refine Cw_of o_Model_isSlot rfl fun l d hd => jwp_sound t_Model_isSlot _ (b_Model_isSlot_0 ?_)
  refine cN_p (c_Model_in _ _ _ _) (by omega) ?_
  simp only [RW, true_and, and_true, and_self, true_or, or_true, Nat.reduceLeDiff, Nat.reduceEqDiff, Nat.reduceAdd, Int.reduceLE, Int.reduceLT, Int.reduceEq, Int.reduceNeg, Int.reduceNe, Nat.reduceSub, reduceIte, implies_true]
  grind
theorem c_Model_cut {v k : Int} (σ : jH) (hv : r64 v) (hk : 0 ≤ k ∧ k ≤ 3) : Cw 10 m_Model_cut [vL v, vI k] σ (fun z τ => z = cutv v k ∧ τ = σ) := by
  unfold r64 at hv
  obtain ⟨j0, j1, j2, j3⟩ := jshl32_8
  refine Cw_of o_Model_cut rfl fun l d hd => jwp_sound t_Model_cut _ (b_Model_cut_0 ?_)
  unfold cutv
  have : k = 0 ∨ k = 1 ∨ k = 2 ∨ k = 3 := by omega
  rcases this with rfl | rfl | rfl | rfl
  · rw [j0, show w32 (64 - 8) = ((56 : Nat) : Int) by rfl, jshl64_w (by omega), jshr64_of (r64_w _) (by omega), if_pos rfl]
    refine ⟨rfl, ?_, rfl⟩
    simp only [Int.reducePow]
    unfold w64 w8 w32
    omega
  · rw [j1, show w32 (64 - 16) = ((48 : Nat) : Int) by rfl, jshl64_w (by omega), jshr64_of (r64_w _) (by omega), if_neg (by omega), if_pos rfl]
    refine ⟨rfl, ?_, rfl⟩
    simp only [Int.reducePow]
    unfold w64 w16 w32
    omega
  · rw [j2, show w32 (64 - 32) = ((32 : Nat) : Int) by rfl, jshl64_w (by omega), jshr64_of (r64_w _) (by omega), if_neg (by omega), if_neg (by omega), if_pos rfl]
    refine ⟨rfl, ?_, rfl⟩
    simp only [Int.reducePow]
    unfold w64 w32
    omega
  · rw [j3, show w32 (64 - 64) = ((0 : Nat) : Int) by rfl, jshl64_w (by omega), jshr64_of (r64_w _) (by omega), if_neg (by omega), if_neg (by omega), if_neg (by omega)]
    refine ⟨rfl, ?_, rfl⟩
    simp only [Int.reducePow]
    unfold w64
    omega
theorem l_Model_row {s v n : Int} (O : SLO m w x) (q : 0 ≤ s ∧ s < 4) : ∀ (k i : Nat) (τ : jH), i + k = 60 → (∀ t, 0 ≤ t → t < 4 → τ 229 t = up m s n t ∧ τ 230 t = up w s v t) → (∀ j, τ 231 j = if 60 * s ≤ j ∧ j < 60 * s + i then 0 else σ 231 j) → FRR4 σ τ →
    Ev (l, (fun _ => 0), 0) d 0 0 m_Model_row (RW fun z τ => z = 0 ∧ (∀ t, 0 ≤ t → t < 4 → τ 229 t = up m s n t ∧ τ 230 t = up w s v t) ∧ (∀ j, τ 231 j = if 60 * s ≤ j ∧ j < 60 * s + 60 then 0 else σ 231 j) ∧ FRR4 σ τ) 52 [some (vR 189), some (vI s), none, none, some (vI i)] [] gW τ 0 0
  | 0, i, τ, hi, h1, h2, F => by
    have e : i = 60 := by omega
    subst e
    refine jwp_sound t_Model_row _ (b_Model_row_52 ?_)
    exact ⟨fun _ => ⟨rfl, rfl, h1, h2, F⟩, fun q => absurd q (by omega)⟩
  | k + 1, i, τ, hi, h1, h2, F => by
    refine jwp_sound t_Model_row _ (b_Model_row_52 ?_)
    simp only [RW, true_and, and_true, and_self, true_or, or_true, Nat.reduceLeDiff, Nat.reduceEqDiff, Nat.reduceAdd, Int.reduceLE, Int.reduceLT, Int.reduceEq, Int.reduceNeg, Int.reduceNe, Nat.reduceSub, reduceIte, implies_true, gt_189, gr_189_47, gt_229, gr_189_48, gt_230, gr_189_49, gt_231]
    rw [w32_of (x := 60 * s) (by omega) (by omega), w32_of (x := 60 * s + i) (by omega) (by omega), w32_of (x := (i : Int) + 1) (by omega) (by omega)]
    refine ⟨fun q => absurd q (by omega), fun _ => ⟨by omega, by omega, l_Model_row O q k (i + 1) _ (by omega) (fun t t0 t1 => ?_) (fun j => ?_) (fun c c1 c2 c3 c4 => by rw [ju_row c3]; exact F c c1 c2 c3 c4)⟩⟩
    · rw [ju_row (by omega), ju_row (by omega)]
      exact h1 t t0 t1
    · by_cases hj : j = 60 * s + i
      · rw [hj, ju_self, if_pos (by omega)]
      · rw [ju_ne2 hj, h2 j]
        by_cases h : 60 * s ≤ j ∧ j < 60 * s + i
        · rw [if_pos h, if_pos (by omega)]
        · rw [if_neg h, if_neg (by omega)]
theorem c_Model_row (O : SLO m w x) (C : SLR σ m w x) (s v n : Int) : Cw 12 m_Model_row [vR 189, vI s, vI v, vI n] σ (fun z τ => z = s_row s v n ∧ (s_row s v n = 0 → SLR τ (up m s n) (up w s v) (zap x s)) ∧ (s_row s v n ≠ 0 → SLR τ m w x) ∧ FRR4 σ τ) := by
  have f0 : FRR4 σ σ := fun _ _ _ _ _ => rfl
  have no : ∀ z : Int, z ≠ 0 → s_row s v n = z → z = s_row s v n ∧ (s_row s v n = 0 → SLR σ (up m s n) (up w s v) (zap x s)) ∧ (s_row s v n ≠ 0 → SLR σ m w x) ∧ FRR4 σ σ := fun z hz hs => ⟨hs.symm, fun q => absurd (hs.symm.trans q) hz, fun _ => C, f0⟩
  refine Cw_of o_Model_row rfl fun l d hd => jwp_sound t_Model_row _ (b_Model_row_0 ?_)
  simp only [RW, true_and, and_true, and_self, true_or, or_true, Nat.reduceLeDiff, Nat.reduceEqDiff, Nat.reduceAdd, Int.reduceLE, Int.reduceLT, Int.reduceEq, Int.reduceNeg, Int.reduceNe, Nat.reduceSub, reduceIte, implies_true, gt_189, gr_189_47, gt_229, gr_189_48, gt_230, gr_189_49, gt_231]
  refine cN_p (c_Model_isSlot _ _) (by omega) ?_
  by_cases q : 0 ≤ s ∧ s < 4
  · rw [if_pos q]
    refine ⟨fun q => by omega, fun _ => ?_⟩
    refine cN_p (c_Model_in _ _ _ _) (by omega) ?_
    by_cases q2 : 0 ≤ v ∧ v ≤ 3
    · rw [if_pos q2]
      refine ⟨fun q => by omega, fun _ => ⟨fun c => ⟨fun e => ?_, fun e => no _ (by omega) ?_⟩, fun c => no _ (by omega) ?_⟩⟩
      · have hs : s_row s v n = 0 := by
          unfold s_row
          rw [if_pos ⟨q, by omega, c⟩, if_neg (by omega)]
        repeat (refine And.intro (by omega) ?_)
        have := l_Model_row (l := l) (d := d) (σ := σ) (m := m) (w := w) (x := x) (s := s) (v := v) (n := n) O q 60 0 (ju (ju σ 229 s n) 230 s v) (by omega) (fun t t0 t1 => ?_) (fun j => by rw [if_neg (by omega), ju_row (by omega), ju_row (by omega)]) (fun c c1 c2 c3 c4 => by rw [ju_row c2, ju_row c1])
        · refine Ev_post this (fun z τ h => ?_)
          obtain ⟨rfl, h1, h2, h3⟩ := h
          refine ⟨hs.symm, fun _ t t0 t1 => ⟨(h1 t t0 t1).1, (h1 t t0 t1).2, fun i i0 i1 => ?_⟩, fun x => absurd hs x, h3⟩
          rw [h2]
          unfold zap
          by_cases ht : t = s
          · rw [ht] at i1 ⊢
            rw [up_self] at i1
            rw [if_pos (by omega), if_pos (by omega)]
          · rw [up_ne ht] at i1
            have b := (O t t0 t1).1.2
            rw [if_neg (by omega), if_neg (by omega)]
            exact (C t t0 t1).2.2 i i0 i1
        · obtain ⟨g1, g2, g3⟩ := C t t0 t1
          rw [ju_row (by omega)]
          by_cases ht : t = s
          · rw [ht, ju_self, ju_self, up_self, up_self]
            exact ⟨rfl, rfl⟩
          · rw [ju_ne2 ht, ju_ne2 ht, ju_row (by omega), up_ne ht, up_ne ht]
            exact ⟨g1, g2⟩
      · unfold s_row
        rw [if_pos ⟨q, by omega, c⟩, if_pos e]
      · unfold s_row
        rw [if_neg (by omega)]
    · rw [if_neg q2]
      refine ⟨fun _ => no _ (by omega) ?_, fun q => absurd rfl q⟩
      unfold s_row
      rw [if_neg (by omega)]
  · rw [if_neg q]
    refine ⟨fun _ => no _ (by omega) ?_, fun q => absurd rfl q⟩
    unfold s_row
    rw [if_neg (by omega)]
theorem c_Model_write (O : SLO m w x) (C : SLR σ m w x) (s i v : Int) (hv : r64 v) : Cw 12 m_Model_write [vR 189, vI s, vI i, vL v] σ (fun z τ => z = s_write m s i ∧ (s_write m s i = 0 → SLR τ m w (up x (60 * s + i) (cutv v (w s)))) ∧ (s_write m s i ≠ 0 → SLR τ m w x) ∧ FRR4 σ τ) := by
  have f0 : FRR4 σ σ := fun _ _ _ _ _ => rfl
  have no : ∀ z : Int, z ≠ 0 → s_write m s i = z → z = s_write m s i ∧ (s_write m s i = 0 → SLR σ m w (up x (60 * s + i) (cutv v (w s)))) ∧ (s_write m s i ≠ 0 → SLR σ m w x) ∧ FRR4 σ σ := fun z hz hs => ⟨hs.symm, fun q => absurd (hs.symm.trans q) hz, fun _ => C, f0⟩
  refine Cw_of o_Model_write rfl fun l d hd => jwp_sound t_Model_write _ (b_Model_write_0 ?_)
  simp only [RW, true_and, and_true, and_self, true_or, or_true, Nat.reduceLeDiff, Nat.reduceEqDiff, Nat.reduceAdd, Int.reduceLE, Int.reduceLT, Int.reduceEq, Int.reduceNeg, Int.reduceNe, Nat.reduceSub, reduceIte, implies_true, gt_189, gr_189_47, gt_229, gr_189_48, gt_230, gr_189_49, gt_231]
  refine cN_p (c_Model_isSlot _ _) (by omega) ?_
  by_cases q : 0 ≤ s ∧ s < 4
  · obtain ⟨a, b, c⟩ := C s q.1 q.2
    obtain ⟨o1, o2, o3⟩ := O s q.1 q.2
    rw [if_pos q, a, w32_of (x := m s - 1) (by omega) (by omega)]
    refine ⟨fun _ => ⟨by omega, by omega, fun hm => ⟨by omega, by omega, ?_⟩, fun hm => no _ (by omega) ?_⟩, fun q => by omega⟩
    · refine cN_p (c_Model_in _ _ _ _) (by omega) ?_
      by_cases hi : 0 ≤ i ∧ i ≤ m s - 1
      · rw [if_pos hi, b]
        refine ⟨fun _ => ⟨by omega, by omega, ?_⟩, fun q => by omega⟩
        refine cN_p (c_Model_cut _ hv (by omega)) (by omega) ?_
        have hs : s_write m s i = 0 := by
          unfold s_write
          rw [if_pos q, if_neg hm, if_pos (by omega)]
        rw [w32_of (x := 60 * s) (by omega) (by omega), w32_of (x := 60 * s + i) (by omega) (by omega)]
        refine ⟨by omega, by omega, hs.symm, fun _ t t0 t1 => ?_, fun x => absurd hs x, fun c c1 c2 c3 c4 => ju_row c3⟩
        obtain ⟨g1, g2, g3⟩ := C t t0 t1
        rw [ju_row (by omega), ju_row (by omega)]
        refine ⟨g1, g2, fun j j0 j1 => ?_⟩
        have b := (O t t0 t1).1.2
        by_cases h : 60 * t + j = 60 * s + i
        · rw [h, ju_self, up_self]
        · rw [ju_ne2 h, up_ne h]
          exact g3 j j0 j1
      · rw [if_neg hi]
        refine ⟨fun q => absurd rfl q, fun _ => no _ (by omega) ?_⟩
        unfold s_write
        rw [if_pos q, if_neg hm, if_neg (by omega)]
    · unfold s_write
      rw [if_pos q, if_pos hm]
  · rw [if_neg q]
    refine ⟨fun q => absurd rfl q, fun _ => no _ (by omega) ?_⟩
    unfold s_write
    rw [if_neg q]
theorem l_Model_p150 {t k n : Int} (q' : 0 ≤ t ∧ t < 4) (k0 : 0 ≤ k) (hn : k + n ≤ 60) (g : Int → Int) : ∀ (r y : Nat) (τ : jH), (y : Int) + r = n → (∀ j, 0 ≤ j → j < n → τ 232 j = g j) → (∀ j, τ 231 j = if 60 * t + k ≤ j ∧ j < 60 * t + k + y then g (j - (60 * t + k)) else σ 231 j) → FRR4 σ τ → τ 229 = σ 229 → τ 230 = σ 230 →
    Ev (l, (fun _ => 0), 0) d 0 0 m_Model_paste (RW fun z τ => z = 0 ∧ (∀ j, τ 231 j = if 60 * t + k ≤ j ∧ j < 60 * t + k + n then g (j - (60 * t + k)) else σ 231 j) ∧ FRR4 σ τ ∧ τ 229 = σ 229 ∧ τ 230 = σ 230) 150 [some (vR 189), none, none, some (vI t), some (vI k), some (vI n), some (vI y)] [] gW τ 0 0
  | 0, y, τ, hy, h1, h2, F, e1, e2 => by
    have e : (y : Int) = n := by omega
    rw [e] at h2 ⊢
    refine jwp_sound t_Model_paste _ (b_Model_paste_150 ?_)
    exact ⟨fun _ => ⟨rfl, rfl, h2, F, e1, e2⟩, fun q => absurd q (by omega)⟩
  | r + 1, y, τ, hy, h1, h2, F, e1, e2 => by
    refine jwp_sound t_Model_paste _ (b_Model_paste_150 ?_)
    simp only [RW, true_and, and_true, and_self, true_or, or_true, Nat.reduceLeDiff, Nat.reduceEqDiff, Nat.reduceAdd, Int.reduceLE, Int.reduceLT, Int.reduceEq, Int.reduceNeg, Int.reduceNe, Nat.reduceSub, reduceIte, implies_true, gt_189, gr_189_47, gt_229, gr_189_48, gt_230, gr_189_49, gt_231, gr_189_50, gt_232]
    rw [w32_of (x := 60 * t) (by omega) (by omega), w32_of (x := 60 * t + k) (by omega) (by omega), w32_of (x := 60 * t + k + y) (by omega) (by omega), w32_of (x := (y : Int) + 1) (by omega) (by omega)]
    refine ⟨fun q => absurd q (by omega), fun _ => ?_⟩
    repeat (refine And.intro (by omega) ?_)
    refine l_Model_p150 q' k0 hn g r (y + 1) _ (by omega) (fun j j0 j1 => by rw [ju_row (by omega)]; exact h1 j j0 j1) (fun j => ?_) (fun c c1 c2 c3 c4 => by rw [ju_row c3]; exact F c c1 c2 c3 c4) (by rw [ju_row (by omega)]; exact e1) (by rw [ju_row (by omega)]; exact e2)
    by_cases hj : j = 60 * t + k + y
    · rw [hj, ju_self, if_pos (by omega), h1 y (by omega) (by omega)]
      congr 1
      omega
    · rw [ju_ne2 hj, h2 j]
      by_cases h : 60 * t + k ≤ j ∧ j < 60 * t + k + y
      · rw [if_pos h, if_pos (by omega)]
      · rw [if_neg h, if_neg (by omega)]
theorem l_Model_p113 {s i t k n : Int} (q : 0 ≤ s ∧ s < 4) (q' : 0 ≤ t ∧ t < 4) (i0 : 0 ≤ i) (k0 : 0 ≤ k) (hi : i + n ≤ 60) (hn : k + n ≤ 60) : ∀ (r y : Nat) (τ : jH), (y : Int) + r = n → (∀ j : Int, 0 ≤ j → j < y → τ 232 j = σ 231 (60 * s + i + j)) → (∀ c, c ≠ 232 → τ c = σ c) →
    Ev (l, (fun _ => 0), 0) d 0 0 m_Model_paste (RW fun z τ => z = 0 ∧ (∀ j, τ 231 j = if 60 * t + k ≤ j ∧ j < 60 * t + k + n then σ 231 (60 * s + i + (j - (60 * t + k))) else σ 231 j) ∧ FRR4 σ τ ∧ τ 229 = σ 229 ∧ τ 230 = σ 230) 113 [some (vR 189), some (vI s), some (vI i), some (vI t), some (vI k), some (vI n), some (vI y)] [] gW τ 0 0
  | 0, y, τ, hy, h1, F => by
    have e : (y : Int) = n := by omega
    rw [e] at h1 ⊢
    refine jwp_sound t_Model_paste _ (b_Model_paste_113 ?_)
    refine ⟨fun _ => ?_, fun q => absurd q (by omega)⟩
    exact l_Model_p150 q' k0 hn (fun j => σ 231 (60 * s + i + j)) n.toNat 0 τ (by omega) h1 (fun j => by rw [if_neg (by omega), F 231 (by omega)]) (fun c c1 c2 c3 c4 => F c c4) (F 229 (by omega)) (F 230 (by omega))
  | r + 1, y, τ, hy, h1, F => by
    refine jwp_sound t_Model_paste _ (b_Model_paste_113 ?_)
    simp only [RW, true_and, and_true, and_self, true_or, or_true, Nat.reduceLeDiff, Nat.reduceEqDiff, Nat.reduceAdd, Int.reduceLE, Int.reduceLT, Int.reduceEq, Int.reduceNeg, Int.reduceNe, Nat.reduceSub, reduceIte, implies_true, gt_189, gr_189_47, gt_229, gr_189_48, gt_230, gr_189_49, gt_231, gr_189_50, gt_232]
    rw [w32_of (x := 60 * s) (by omega) (by omega), w32_of (x := 60 * s + i) (by omega) (by omega), w32_of (x := 60 * s + i + y) (by omega) (by omega), w32_of (x := (y : Int) + 1) (by omega) (by omega)]
    refine ⟨fun q => absurd q (by omega), fun _ => ?_⟩
    repeat (refine And.intro (by omega) ?_)
    refine l_Model_p113 q q' i0 k0 hi hn r (y + 1) _ (by omega) (fun j j0 j1 => ?_) (fun c hc => by rw [ju_row hc]; exact F c hc)
    by_cases hj : j = y
    · rw [hj, ju_self, F 231 (by omega)]
    · rw [ju_ne2 hj]
      exact h1 j j0 (by omega)
theorem c_Model_paste (O : SLO m w x) (C : SLR σ m w x) (s i t k n : Int) (hr : r32 i ∧ r32 k ∧ r32 n) : Cw 12 m_Model_paste [vR 189, vI s, vI i, vI t, vI k, vI n] σ (fun z τ => z = s_paste m w s i t k n ∧ (s_paste m w s i t k n = 0 → SLR τ m w (mvd x (60 * s + i) (60 * t + k) n)) ∧ (s_paste m w s i t k n ≠ 0 → SLR τ m w x) ∧ FRR4 σ τ) := by
  have f0 : FRR4 σ σ := fun _ _ _ _ _ => rfl
  have no : ∀ z : Int, z ≠ 0 → s_paste m w s i t k n = z → z = s_paste m w s i t k n ∧ (s_paste m w s i t k n = 0 → SLR σ m w (mvd x (60 * s + i) (60 * t + k) n)) ∧ (s_paste m w s i t k n ≠ 0 → SLR σ m w x) ∧ FRR4 σ σ := fun z hz hs => ⟨hs.symm, fun q => absurd (hs.symm.trans q) hz, fun _ => C, f0⟩
  obtain ⟨hr1, hr2, hr3⟩ := hr
  unfold r32 at hr1 hr2 hr3
  refine Cw_of o_Model_paste rfl fun l d hd => jwp_sound t_Model_paste _ (b_Model_paste_0 ?_)
  simp only [RW, true_and, and_true, and_self, true_or, or_true, Nat.reduceLeDiff, Nat.reduceEqDiff, Nat.reduceAdd, Int.reduceLE, Int.reduceLT, Int.reduceEq, Int.reduceNeg, Int.reduceNe, Nat.reduceSub, reduceIte, implies_true, gt_189, gr_189_47, gt_229, gr_189_48, gt_230, gr_189_49, gt_231, gr_189_50, gt_232]
  refine cN_p (c_Model_isSlot _ _) (by omega) ?_
  by_cases q : 0 ≤ s ∧ s < 4
  · rw [if_pos q]
    refine ⟨fun q => by omega, fun _ => ?_⟩
    refine cN_p (c_Model_isSlot _ _) (by omega) ?_
    by_cases q' : 0 ≤ t ∧ t < 4
    · obtain ⟨a, b, c⟩ := C s q.1 q.2
      obtain ⟨a', b', c'⟩ := C t q'.1 q'.2
      have o1 := (O s q.1 q.2).1
      have o2 := (O t q'.1 q'.2).1
      rw [if_pos q', a, b, a', b', w64_of (x := i + n) (by omega) (by omega), w64_of (x := k + n) (by omega) (by omega)]
      have cp : ∀ y z : Int, (0 < jcmp y z ↔ z < y) ∧ (jcmp y z ≤ 0 ↔ y ≤ z) := fun y z => by
        unfold jcmp
        split
        · omega
        · split <;> omega
      simp only [(cp _ _).1, (cp _ _).2]
      refine ⟨fun _ => ⟨by omega, by omega, fun hm => no _ (by omega) ?_, fun hm => ⟨by omega, by omega, fun hm' => ?_, fun hm' => no _ (by omega) ?_⟩⟩, fun q => by omega⟩
      · unfold s_paste
        rw [if_pos ⟨q, q'⟩, if_pos (Or.inl hm)]
      · refine ⟨by omega, by omega, by omega, by omega, fun hw => ?_, fun hw => no _ (by omega) ?_⟩
        · have bad : ¬ ((0 ≤ i ∧ 0 ≤ n ∧ i + n ≤ m s) ∧ 0 ≤ k ∧ 0 ≤ n ∧ k + n ≤ m t) → s_paste m w s i t k n = -7 := fun h => by
            unfold s_paste
            rw [if_pos ⟨q, q'⟩, if_neg (by omega), if_neg (fun x => x hw), if_neg h]
          refine ⟨fun e => no _ (by omega) (bad (by omega)), fun e1 => ⟨fun e => no _ (by omega) (bad (by omega)), fun e2 => ⟨fun e => no _ (by omega) (bad (by omega)), fun e3 => ⟨by omega, by omega, fun e => no _ (by omega) (bad (by omega)), fun e4 => ⟨by omega, by omega, fun e5 => ?_, fun e => no _ (by omega) (bad (by omega))⟩⟩⟩⟩⟩
          have hs : s_paste m w s i t k n = 0 := by
            unfold s_paste
            rw [if_pos ⟨q, q'⟩, if_neg (by omega), if_neg (fun x => x hw), if_pos (by omega)]
          have := l_Model_p113 (l := l) (d := d) (σ := σ) (n := n) q q' e1 e2 (by omega) (by omega) n.toNat 0 σ (by omega) (fun j j0 j1 => by omega) (fun _ _ => rfl)
          refine Ev_post this (fun z τ h => ?_)
          obtain ⟨rfl, h1, h2, h3, h4⟩ := h
          refine ⟨hs.symm, fun _ r r0 r1 => ?_, fun x => absurd hs x, h2⟩
          obtain ⟨g1, g2, g3⟩ := C r r0 r1
          rw [h3, h4]
          refine ⟨g1, g2, fun j j0 j1 => ?_⟩
          have b := (O r r0 r1).1.2
          rw [h1]
          unfold mvd
          by_cases h : 60 * t + k ≤ 60 * r + j ∧ 60 * r + j < 60 * t + k + n
          · rw [if_pos h, if_pos h]
            have := c (i + (60 * r + j - (60 * t + k))) (by omega) (by omega)
            rw [show 60 * s + (i + (60 * r + j - (60 * t + k))) = 60 * s + i + (60 * r + j - (60 * t + k)) by omega] at this
            exact this
          · rw [if_neg h, if_neg h]
            exact g3 j j0 j1
        · unfold s_paste
          rw [if_pos ⟨q, q'⟩, if_neg (by omega), if_pos hw]
      · unfold s_paste
        rw [if_pos ⟨q, q'⟩, if_pos (Or.inr hm')]
    · rw [if_neg q']
      refine ⟨fun q => absurd rfl q, fun _ => no _ (by omega) ?_⟩
      unfold s_paste
      rw [if_neg (fun x => q' x.2)]
  · rw [if_neg q]
    refine ⟨fun _ => no _ (by omega) ?_, fun q => absurd rfl q⟩
    unfold s_paste
    rw [if_neg (fun x => q x.1)]
end SR
