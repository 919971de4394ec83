/-! SLOTS -/
theorem jshl64_w {x : Int} {s : Nat} (hs : s < 64) : jshl64 x s = w64 (x * 2 ^ s) := by
  unfold jshl64
  have e1 : (Int64.ofInt x <<< ((Int32.ofInt ((s : Nat) : Int)).toInt64 &&& 63)) = Int64.ofInt (x * 2 ^ s) := by
    apply Int64.toBitVec_inj.mp
    rw [Int64.toBitVec_shiftLeft, Int64.toBitVec_ofInt, Int64.toBitVec_ofInt]
    show (BitVec.ofInt 64 x) <<< (((Int32.ofInt ((s : Nat) : Int)).toInt64 &&& 63).toBitVec.smod 64).toNat = _
    rw [sh64' hs]
    apply BitVec.eq_of_toNat_eq
    rw [BitVec.toNat_shiftLeft, BitVec.toNat_ofInt, BitVec.toNat_ofInt, Nat.shiftLeft_eq]
    have h0 : 0 ≤ x % ((2 ^ 64 : Nat) : Int) := Int.emod_nonneg _ (by omega)
    have h1 : 0 ≤ (x * 2 ^ s) % ((2 ^ 64 : Nat) : Int) := Int.emod_nonneg _ (by omega)
    apply Int.ofNat.inj
    show (((x % ((2 ^ 64 : Nat) : Int)).toNat * 2 ^ s % 2 ^ 64 : Nat) : Int) = (((x * 2 ^ s) % ((2 ^ 64 : Nat) : Int)).toNat : Int)
    rw [Int.toNat_of_nonneg h1, Int.natCast_emod, Int.natCast_mul, Int.toNat_of_nonneg h0, pw2]
    rw [Int.mul_emod (x % ((2 ^ 64 : Nat) : Int)), Int.emod_emod, ← Int.mul_emod]
  rw [e1, i64_toInt]
def cutv (v w : Int) : Int := if w = 0 then w8 (w32 v) else if w = 1 then w16 (w32 v) else if w = 2 then w32 v else v
theorem jshl32_8 : jshl32 8 0 = 8 ∧ jshl32 8 1 = 16 ∧ jshl32 8 2 = 32 ∧ jshl32 8 3 = 64 := by decide +kernel
/-- rows of numbers: how many (-1: none), widths, numbers; as the class and as the reference keep them -/
def SLO (m w x : Int → Int) : Prop := ∀ s, 0 ≤ s → s < 4 → (-1 ≤ m s ∧ m s ≤ 60) ∧ (0 ≤ w s ∧ w s ≤ 3) ∧ ∀ i, 0 ≤ i → i < m s → r64 (x (60 * s + i)) ∧ (w s = 0 → -128 ≤ x (60 * s + i) ∧ x (60 * s + i) < 128)
def SLC (σ : jH) (m w x : Int → Int) : Prop := ∀ s, 0 ≤ s → s < 4 → σ 187 s = m s ∧ σ 186 s = w s ∧ ∀ i, 0 ≤ i → i < m s → σ 185 (60 * s + i) = x (60 * s + i)
def SLR (σ : jH) (m w x : Int → Int) : Prop := ∀ s, 0 ≤ s → s < 4 → σ 229 s = m s ∧ σ 230 s = w s ∧ ∀ i, 0 ≤ i → i < m s → σ 231 (60 * s + i) = x (60 * s + i)
def zap (x : Int → Int) (s : Int) : Int → Int := fun j => if 60 * s ≤ j ∧ j < 60 * s + 60 then 0 else x j
def mvd (x : Int → Int) (a b n : Int) : Int → Int := fun j => if b ≤ j ∧ j < b + n then x (a + (j - b)) else x j
def FRS4 (σ τ : jH) : Prop := ∀ c, c ≠ 185 → c ≠ 186 → c ≠ 187 → τ c = σ c
def FRR4 (σ τ : jH) : Prop := ∀ c, c ≠ 229 → c ≠ 230 → c ≠ 231 → c ≠ 232 → τ c = σ c
def OK2 (c : Prop) (z : Int) (A B : Prop) : Prop := (c → z = 1 ∧ A) ∧ (¬ c → z = 0 ∧ B)
theorem OK2_t {c A B : Prop} (h : c) (a : A) : OK2 c 1 A B := ⟨fun _ => ⟨rfl, a⟩, fun q => absurd h q⟩
theorem OK2_f {c A B : Prop} (h : ¬ c) (b : B) : OK2 c 0 A B := ⟨fun q => absurd q h, fun _ => ⟨rfl, b⟩⟩
section SL
variable {l : Launch} {d : Nat} {σ : jH} {m w x : Int → Int}
theorem c_isSlot (s : Int) (σ : jH) : Cw 10 m_Slots_isSlot [vR 184, vI s] σ (fun z τ => z = (if 0 ≤ s ∧ s < 4 then 1 else 0) ∧ τ = σ) := by
  refine Cw_of o_Slots_isSlot rfl fun l d hd => jwp_sound t_Slots_isSlot _ (b_Slots_isSlot_0 ?_)
  simp only [RW, true_and, and_true, and_self, true_or, or_true, Nat.reduceLeDiff, Nat.reduceEqDiff, Nat.reduceAdd, Int.reduceLE, Int.reduceLT, Int.reduceEq, Int.reduceNeg, Int.reduceNe, Nat.reduceSub, reduceIte, implies_true]
  grind
theorem c_isEmpty (C : SLC σ m w x) (s : Int) : Cw 11 m_Slots_isEmpty [vR 184, vI s] σ (fun z τ => z = (if (0 ≤ s ∧ s < 4) ∧ m s ≠ -1 then 0 else 1) ∧ τ = σ) := by
  refine Cw_of o_Slots_isEmpty rfl fun l d hd => jwp_sound t_Slots_isEmpty _ (b_Slots_isEmpty_0 ?_)
  simp only [RW, true_and, and_true, and_self, true_or, or_true, Nat.reduceLeDiff, Nat.reduceEqDiff, Nat.reduceAdd, Int.reduceLE, Int.reduceLT, Int.reduceEq, Int.reduceNeg, Int.reduceNe, Nat.reduceSub, reduceIte, implies_true, gt_184, gr_184_2, gt_187]
  refine cN_p (c_isSlot _ _) (by omega) ?_
  by_cases q : 0 ≤ s ∧ s < 4
  · obtain ⟨a, b, c⟩ := C s q.1 q.2
    rw [if_pos q, a]
    refine ⟨fun q => by omega, fun _ => ⟨by omega, by omega, fun q2 => ?_, fun q2 => ?_⟩⟩
    · rw [if_pos ⟨q, q2⟩]
      exact ⟨rfl, rfl⟩
    · rw [if_neg (fun x => x.2 q2)]
      exact ⟨rfl, rfl⟩
  · rw [if_neg q, if_neg (fun x => q x.1)]
    exact ⟨fun _ => ⟨rfl, rfl⟩, fun q => absurd rfl q⟩
theorem c_widthOf (C : SLC σ m w x) {s : Int} (q : 0 ≤ s ∧ s < 4) : Cw 11 m_Slots_widthOf [vR 184, vI s] σ (fun z τ => z = w s ∧ τ = σ) := by
  refine Cw_of o_Slots_widthOf rfl fun l d hd => jwp_sound t_Slots_widthOf _ (b_Slots_widthOf_0 ?_)
  simp only [RW, true_and, and_true, and_self, true_or, or_true, Nat.reduceLeDiff, Nat.reduceEqDiff, Nat.reduceAdd, Int.reduceLE, Int.reduceLT, Int.reduceEq, Int.reduceNeg, Int.reduceNe, Nat.reduceSub, reduceIte, implies_true, gt_184, gr_184_1, gt_186]
  refine cN_p (c_isSlot _ _) (by omega) ?_
  obtain ⟨a, b, c⟩ := C s q.1 q.2
  rw [if_pos q]
  exact ⟨fun q => by omega, fun _ => ⟨by omega, by omega, b, rfl⟩⟩
theorem c_rangeCheck {n a b : Int} (σ : jH) (h0 : 0 ≤ a) (h1 : a ≤ b) (h2 : b ≤ n) : Cw 10 m_Arrays_rangeCheck [vI n, vI a, vI b] σ (fun _ τ => τ = σ) := by
  refine Cw_of o_Arrays_rangeCheck rfl fun l d hd => jwp_sound t_Arrays_rangeCheck _ (b_Arrays_rangeCheck_0 ?_)
  exact ⟨fun _ => ⟨fun _ => ⟨fun _ => ⟨rfl, rfl⟩, fun q => absurd q (by omega)⟩, fun q => absurd q (by omega)⟩, fun q => absurd q (by omega)⟩
theorem l_fill4 {c n a b v : Int} (ht : gW.2.1 c = (4, n)) (hn : n < 1000000) (a0 : 0 ≤ a) (hb : b ≤ n) : ∀ (k : Nat) (i : Int), a ≤ i → i + k = b →
    Ev (l, (fun _ => 0), 0) d 0 0 m_Arrays_fill4 (RW fun _ τ => τ = jfill σ c a b v) 10 [some (vR c), none, some (vI b), some (vL v), none, some (vI i)] [] gW (jfill σ c a i v) 0 0
  | 0, i, h0, h1 => by
    refine jwp_sound t_Arrays_fill4 _ (b_Arrays_fill4_10 ?_)
    have e : i = b := by omega
    subst e
    exact ⟨fun _ => ⟨rfl, rfl⟩, fun h => absurd h (by omega)⟩
  | k + 1, i, h0, h1 => by
    refine jwp_sound t_Arrays_fill4 _ (b_Arrays_fill4_10 ?_)
    simp only [ht, true_and]
    refine ⟨fun h => absurd h (by omega), fun h => ⟨by omega, by omega, ?_⟩⟩
    rw [w32_of (by omega) (by omega), jfill_s _ _ _ _ _ h0]
    exact l_fill4 ht hn a0 hb k (i + 1) (by omega) (by omega)
theorem c_fill4 {c n a b : Int} (v : Int) (σ : jH) (ht : gW.2.1 c = (4, n)) (hn : n < 1000000) (a0 : 0 ≤ a) (ab : a ≤ b) (hb : b ≤ n) : Cw 11 m_Arrays_fill4 [vR c, vI a, vI b, vL v] σ (fun _ τ => τ = jfill σ c a b v) := by
  refine Cw_of o_Arrays_fill4 rfl fun l d hd => jwp_sound t_Arrays_fill4 _ (b_Arrays_fill4_0 ?_)
  simp only [ht]
  refine ⟨by omega, ?_⟩
  refine cN_v (c_rangeCheck _ a0 ab hb) (by omega) (fun _ => ?_)
  have := l_fill4 (l := l) (d := d) (σ := σ) (v := v) ht hn a0 hb (b - a).toNat a (by omega) (by omega)
  rwa [jfill_0] at this
def s_row (s v n : Int) : Int := if (0 ≤ s ∧ s < 4) ∧ (0 ≤ v ∧ v < 4) ∧ n ≤ 60 then (if n < 0 then -3 else 0) else -2
theorem c_make (O : SLO m w x) (C : SLC σ m w x) {s v n : Int} (q : 0 ≤ s ∧ s < 4) (n0 : 0 ≤ n) (n1 : n ≤ 60) : Cw 12 m_Slots_make [vR 184, vI s, vI v, vI n] σ (fun _ τ => SLC τ (up m s n) (up w s v) (zap x s) ∧ FRS4 σ τ) := by
  refine Cw_of o_Slots_make rfl fun l d hd => jwp_sound t_Slots_make _ (b_Slots_make_0 ?_)
  simp only [RW, true_and, and_true, and_self, true_or, or_true, Nat.reduceLeDiff, Nat.reduceEqDiff, Nat.reduceAdd, Int.reduceLE, Int.reduceLT, Int.reduceEq, Int.reduceNeg, Int.reduceNe, Nat.reduceSub, reduceIte, implies_true, gt_184, gr_184_0, gt_185, gr_184_1, gt_186, gr_184_2, gt_187]
  refine cN_p (c_isSlot _ _) (by omega) ?_
  rw [if_pos q, w32_of (x := s * 60) (by omega) (by omega), w32_of (x := s * 60 + n) (by omega) (by omega)]
  refine ⟨fun q => by omega, fun _ => ⟨fun q => absurd q (by omega), fun _ => ⟨fun _ => ⟨by omega, by omega, by omega, by omega, ?_⟩, fun q => absurd q (by omega)⟩⟩⟩
  refine cN_v (c_fill4 0 _ gt_185 (by omega) (by omega) (by omega) (by omega)) (by omega) (fun _ => ⟨fun t t0 t1 => ?_, fun c c1 c2 c3 => ?_⟩)
  · obtain ⟨g1, g2, g3⟩ := C t t0 t1
    have e187 : ∀ j, jfill (ju (ju σ 186 s v) 187 s n) 185 (s * 60) (s * 60 + n) 0 187 j = ju σ 187 s n 187 j := fun j => by
      unfold jfill
      rw [if_neg (by omega)]
      unfold ju
      simp
    have e186 : ∀ j, jfill (ju (ju σ 186 s v) 187 s n) 185 (s * 60) (s * 60 + n) 0 186 j = ju σ 186 s v 186 j := fun j => by
      unfold jfill
      rw [if_neg (by omega), ju_row (by omega)]
    rw [e187, e186]
    by_cases ht : t = s
    · rw [ht, ju_self, ju_self, up_self, up_self]
      refine ⟨rfl, rfl, fun i i0 i1 => ?_⟩
      unfold jfill zap
      rw [if_pos (by omega), if_pos (by omega)]
    · rw [ju_ne2 ht, ju_ne2 ht, up_ne ht, up_ne ht]
      refine ⟨g1, g2, fun i i0 i1 => ?_⟩
      have b := (O t t0 t1).1.2
      unfold jfill zap
      rw [if_neg (by omega), if_neg (by omega), ju_row (by omega), ju_row (by omega)]
      exact g3 i i0 i1
  · funext j
    unfold jfill
    rw [if_neg (by omega), ju_row c3, ju_row c2]
theorem c_row (O : SLO m w x) (C : SLC σ m w x) (s v n : Int) : Cw 13 m_WordPlaces_row [vR 1, vI s, vI v, vI n] σ (fun z τ => z = s_row s v n ∧ (s_row s v n = 0 → SLC τ (up m s n) (up w s v) (zap x s)) ∧ (s_row s v n ≠ 0 → SLC τ m w x) ∧ FRS4 σ τ) := by
  have f0 : FRS4 σ σ := fun _ _ _ _ => rfl
  have no : ∀ z : Int, z ≠ 0 → s_row s v n = z → z = s_row s v n ∧ (s_row s v n = 0 → SLC σ (up m s n) (up w s v) (zap x s)) ∧ (s_row s v n ≠ 0 → SLC σ m w x) ∧ FRS4 σ σ := fun z hz hs => ⟨hs.symm, fun q => absurd (hs.symm.trans q) hz, fun _ => C, f0⟩
  refine Cw_of o_WordPlaces_row rfl fun l d hd => jwp_sound t_WordPlaces_row _ (b_WordPlaces_row_0 ?_)
  simp only [RW, true_and, and_true, and_self, true_or, or_true, Nat.reduceLeDiff, Nat.reduceEqDiff, Nat.reduceAdd, Int.reduceLE, Int.reduceLT, Int.reduceEq, Int.reduceNeg, Int.reduceNe, Nat.reduceSub, reduceIte, implies_true, gt_1, gr_1_19, gt_184]
  refine cN_p (c_isSlot _ _) (by omega) ?_
  by_cases q : 0 ≤ s ∧ s < 4
  · rw [if_pos q]
    refine ⟨fun q => by omega, fun _ => ⟨fun a => no _ (by omega) ?_, fun a => ⟨fun b => no _ (by omega) ?_, fun b => ⟨fun c => ⟨fun e => ?_, fun e => no _ (by omega) ?_⟩, fun c => no _ (by omega) ?_⟩⟩⟩⟩
    · unfold s_row
      rw [if_neg (by omega)]
    · unfold s_row
      rw [if_neg (by omega)]
    · have hs : s_row s v n = 0 := by
        unfold s_row
        rw [if_pos ⟨q, ⟨a, b⟩, c⟩, if_neg (by omega)]
      refine cN_w (c_make O C (v := v) q e c) (by omega) (fun _ τ h => ⟨hs.symm, fun _ => h.1, fun x => absurd hs x, h.2⟩)
    · unfold s_row
      rw [if_pos ⟨q, ⟨a, b⟩, c⟩, if_pos e]
    · unfold s_row
      rw [if_neg (by omega)]
  · rw [if_neg q]
    refine ⟨fun _ => no _ (by omega) ?_, fun q => absurd rfl q⟩
    unfold s_row
    rw [if_neg (by omega)]
def s_write (m : Int → Int) (s i : Int) : Int := if 0 ≤ s ∧ s < 4 then (if m s = -1 then -6 else if 0 ≤ i ∧ i < m s then 0 else -7) else -2
theorem c_cutS (v k : Int) (σ : jH) (hk : 0 ≤ k ∧ k ≤ 3) : Cw 10 m_Slots_cut [vL v, vI k] σ (fun z τ => z = cutv v k ∧ τ = σ) := by
  refine Cw_of o_Slots_cut rfl fun l d hd => jwp_sound t_Slots_cut _ (b_Slots_cut_0 ?_)
  unfold cutv
  refine ⟨fun q => ⟨rfl, ?_, rfl⟩, fun q => ⟨rfl, ?_, rfl⟩, fun q => ⟨rfl, ?_, rfl⟩, fun q => ⟨rfl, ?_, rfl⟩, trivial⟩
  · rw [if_neg (by omega), if_neg (by omega), if_neg (by omega)]
  · rw [if_pos q]
  · rw [if_neg (by omega), if_pos q]
  · rw [if_neg (by omega), if_neg (by omega), if_pos q]
theorem c_put (O : SLO m w x) (C : SLC σ m w x) {s i : Int} (v : Int) (q : 0 ≤ s ∧ s < 4) (hm : m s ≠ -1) : Cw 11 m_Slots_put [vR 184, vI s, vI i, vL v] σ (fun z τ => OK2 (0 ≤ i ∧ i < m s) z (SLC τ m w (up x (60 * s + i) (cutv v (w s))) ∧ FRS4 σ τ) (τ = σ)) := by
  obtain ⟨a, b, c⟩ := C s q.1 q.2
  obtain ⟨o1, o2, o3⟩ := O s q.1 q.2
  refine Cw_of o_Slots_put rfl fun l d hd => jwp_sound t_Slots_put _ (b_Slots_put_0 ?_)
  simp only [RW, true_and, and_true, and_self, true_or, or_true, Nat.reduceLeDiff, Nat.reduceEqDiff, Nat.reduceAdd, Int.reduceLE, Int.reduceLT, Int.reduceEq, Int.reduceNeg, Int.reduceNe, Nat.reduceSub, reduceIte, implies_true, gt_184, gr_184_0, gt_185, gr_184_1, gt_186, gr_184_2, gt_187]
  refine cN_p (c_isSlot _ _) (by omega) ?_
  rw [if_pos q, a, b]
  refine ⟨fun q => by omega, fun _ => ⟨fun q1 => OK2_f (by omega) rfl, fun q1 => ⟨by omega, by omega, fun q2 => OK2_f (by omega) rfl, fun q2 => ⟨fun q3 => ⟨by omega, by omega, ?_⟩, fun q3 => absurd q3 (by omega)⟩⟩⟩⟩
  refine cN_p (c_cutS _ _ _ (by omega)) (by omega) ?_
  rw [w32_of (x := s * 60) (by omega) (by omega), w32_of (x := s * 60 + i) (by omega) (by omega), show s * 60 + i = 60 * s + i by omega]
  refine ⟨by omega, by omega, OK2_t ⟨q1, q2⟩ ⟨fun t t0 t1 => ?_, fun c c1 c2 c3 => ju_row c1⟩⟩
  obtain ⟨g1, g2, g3⟩ := C t t0 t1
  rw [ju_row (by omega), ju_row (by omega)]
  refine ⟨g1, g2, fun j j0 j1 => ?_⟩
  have b := (O t t0 t1).1.2
  by_cases h : 60 * t + j = 60 * s + i
  · rw [h, ju_self, up_self]
  · rw [ju_ne2 h, up_ne h]
    exact g3 j j0 j1
theorem c_write (O : SLO m w x) (C : SLC σ m w x) (s i v : Int) : Cw 12 m_WordPlaces_write [vR 1, vI s, vI i, vL v] σ (fun z τ => z = s_write m s i ∧ (s_write m s i = 0 → SLC τ m w (up x (60 * s + i) (cutv v (w s)))) ∧ (s_write m s i ≠ 0 → SLC τ m w x) ∧ FRS4 σ τ) := by
  have f0 : FRS4 σ σ := fun _ _ _ _ => rfl
  have no : ∀ z : Int, z ≠ 0 → s_write m s i = z → z = s_write m s i ∧ (s_write m s i = 0 → SLC σ m w (up x (60 * s + i) (cutv v (w s)))) ∧ (s_write m s i ≠ 0 → SLC σ m w x) ∧ FRS4 σ σ := fun z hz hs => ⟨hs.symm, fun q => absurd (hs.symm.trans q) hz, fun _ => C, f0⟩
  refine Cw_of o_WordPlaces_write rfl fun l d hd => jwp_sound t_WordPlaces_write _ (b_WordPlaces_write_0 ?_)
  simp only [RW, true_and, and_true, and_self, true_or, or_true, Nat.reduceLeDiff, Nat.reduceEqDiff, Nat.reduceAdd, Int.reduceLE, Int.reduceLT, Int.reduceEq, Int.reduceNeg, Int.reduceNe, Nat.reduceSub, reduceIte, implies_true, gt_1, gr_1_19, gt_184]
  refine cN_p (c_isSlot _ _) (by omega) ?_
  by_cases q : 0 ≤ s ∧ s < 4
  · rw [if_pos q]
    refine ⟨fun _ => ?_, fun q => by omega⟩
    refine cN_p (c_isEmpty C _) (by omega) ?_
    by_cases hm : m s = -1
    · rw [if_neg (fun x => x.2 hm)]
      refine ⟨fun q => by omega, fun _ => no _ (by omega) ?_⟩
      unfold s_write
      rw [if_pos q, if_pos hm]
    · rw [if_pos ⟨q, hm⟩]
      refine ⟨fun _ => ?_, fun q => absurd rfl q⟩
      refine cN_w (c_put O C v q hm) (by omega) (fun z τ h => ?_)
      by_cases hi : 0 ≤ i ∧ i < m s
      · obtain ⟨h1, h2, h3⟩ := h.1 hi
        have hs : s_write m s i = 0 := by
          unfold s_write
          rw [if_pos q, if_neg hm, if_pos hi]
        exact ⟨fun x => by omega, fun _ => ⟨hs.symm, fun _ => h2, fun x => absurd hs x, h3⟩⟩
      · obtain ⟨h1, h2⟩ := h.2 hi
        rw [h2]
        refine ⟨fun _ => no _ (by omega) ?_, fun x => absurd h1 x⟩
        unfold s_write
        rw [if_pos q, if_neg hm, if_neg hi]
  · rw [if_neg q]
    refine ⟨fun q => absurd rfl q, fun _ => no _ (by omega) ?_⟩
    unfold s_write
    rw [if_neg q]
theorem c_hasAll (O : SLO m w x) (C : SLC σ m w x) {s : Int} (i n : Int) (q : 0 ≤ s ∧ s < 4) (hm : m s ≠ -1) : Cw 11 m_Slots_hasAll [vR 184, vI s, vI i, vI n] σ (fun z τ => z = (if 0 ≤ i ∧ 0 ≤ n ∧ i + n ≤ m s then 1 else 0) ∧ τ = σ) := by
  obtain ⟨a, b, c⟩ := C s q.1 q.2
  obtain ⟨o1, o2, o3⟩ := O s q.1 q.2
  refine Cw_of o_Slots_hasAll rfl fun l d hd => jwp_sound t_Slots_hasAll _ (b_Slots_hasAll_0 ?_)
  simp only [RW, true_and, and_true, and_self, true_or, or_true, Nat.reduceLeDiff, Nat.reduceEqDiff, Nat.reduceAdd, Int.reduceLE, Int.reduceLT, Int.reduceEq, Int.reduceNeg, Int.reduceNe, Nat.reduceSub, reduceIte, implies_true, gt_184, gr_184_2, gt_187]
  refine cN_p (c_isSlot _ _) (by omega) ?_
  rw [if_pos q, a]
  refine ⟨fun q => by omega, fun _ => ⟨by omega, by omega, by omega, ?_⟩⟩
  rw [show min (m s) 60 = m s by omega]
  refine jwp_sound t_Slots_hasAll _ (b_Slots_hasAll_23 ?_)
  simp only [RW, true_and, and_true, and_self, true_or, or_true, Nat.reduceLeDiff, Nat.reduceEqDiff, Nat.reduceAdd, Int.reduceLE, Int.reduceLT, Int.reduceEq, Int.reduceNeg, Int.reduceNe, Nat.reduceSub, reduceIte, implies_true]
  refine ⟨fun q1 => by rw [if_neg (by omega)], fun q1 => ⟨fun q2 => by rw [if_neg (by omega)], fun q2 => ⟨fun q3 => by rw [if_neg (by omega)], fun q3 => ?_⟩⟩⟩
  rw [w32_of (by omega) (by omega)]
  exact ⟨fun q4 => by rw [if_neg (by omega)], fun q4 => by rw [if_pos (by omega)]⟩
def okmv (m : Int → Int) (s i t k n : Int) : Prop := (0 ≤ i ∧ 0 ≤ n ∧ i + n ≤ m s) ∧ 0 ≤ k ∧ 0 ≤ n ∧ k + n ≤ m t
theorem c_move (O : SLO m w x) (C : SLC σ m w x) {s t : Int} (i k n : Int) (q : 0 ≤ s ∧ s < 4) (q' : 0 ≤ t ∧ t < 4) (hm : m s ≠ -1) (hm' : m t ≠ -1) : Cw 12 m_Slots_move [vR 184, vI s, vI i, vI t, vI k, vI n] σ (fun z τ => OK2 (okmv m s i t k n) z (SLC τ m w (mvd x (60 * s + i) (60 * t + k) n) ∧ FRS4 σ τ) (τ = σ)) := by
  have o1 := (O s q.1 q.2).1
  have o2 := (O t q'.1 q'.2).1
  refine Cw_of o_Slots_move rfl fun l d hd => jwp_sound t_Slots_move _ (b_Slots_move_0 ?_)
  simp only [RW, true_and, and_true, and_self, true_or, or_true, Nat.reduceLeDiff, Nat.reduceEqDiff, Nat.reduceAdd, Int.reduceLE, Int.reduceLT, Int.reduceEq, Int.reduceNeg, Int.reduceNe, Nat.reduceSub, reduceIte, implies_true, gt_184, gr_184_0, gt_185]
  refine cN_p (c_hasAll O C i n q hm) (by omega) ?_
  by_cases h1 : 0 ≤ i ∧ 0 ≤ n ∧ i + n ≤ m s
  · rw [if_pos h1]
    refine ⟨fun q => by omega, fun _ => ?_⟩
    refine cN_p (c_hasAll O C k n q' hm') (by omega) ?_
    by_cases h2 : 0 ≤ k ∧ 0 ≤ n ∧ k + n ≤ m t
    · rw [if_pos h2, w32_of (x := s * 60) (by omega) (by omega), w32_of (x := t * 60) (by omega) (by omega), w32_of (x := s * 60 + i) (by omega) (by omega), w32_of (x := t * 60 + k) (by omega) (by omega)]
      refine ⟨fun _ => ⟨by omega, by omega, by omega, by omega, by omega, by omega, OK2_t ⟨h1, h2⟩ ⟨fun r r0 r1 => ?_, fun c c1 c2 c3 => jcpy_row c1⟩⟩, fun q => by omega⟩
      obtain ⟨g1, g2, g3⟩ := C r r0 r1
      rw [jcpy_row (by omega), jcpy_row (by omega)]
      refine ⟨g1, g2, fun j j0 j1 => ?_⟩
      have b := (O r r0 r1).1.2
      unfold jcpy mvd
      by_cases h : 60 * t + k ≤ 60 * r + j ∧ 60 * r + j < 60 * t + k + n
      · rw [if_pos (by omega), if_pos h]
        obtain ⟨e1, e2, e3⟩ := C s q.1 q.2
        have := e3 (i + (60 * r + j - (60 * t + k))) (by omega) (by omega)
        rw [show s * 60 + i + (60 * r + j - (t * 60 + k)) = 60 * s + (i + (60 * r + j - (60 * t + k))) by omega, this]
        congr 1
        omega
      · rw [if_neg (by omega), if_neg h]
        exact g3 j j0 j1
    · rw [if_neg h2]
      exact ⟨fun q => absurd rfl q, fun _ => OK2_f (fun x => h2 x.2) rfl⟩
  · rw [if_neg h1]
    exact ⟨fun _ => OK2_f (fun x => h1 x.1) rfl, fun q => absurd rfl q⟩
/-- what paste answers: 1 for a paste that is done -/
def s_paste (m w : Int → Int) (s i t k n : Int) : Int := if (0 ≤ s ∧ s < 4) ∧ 0 ≤ t ∧ t < 4 then (if m s = -1 ∨ m t = -1 then -6 else if w s ≠ w t then -8 else if (0 ≤ i ∧ 0 ≤ n ∧ i + n ≤ m s) ∧ 0 ≤ k ∧ 0 ≤ n ∧ k + n ≤ m t then 0 else -7) else -2
theorem c_paste (O : SLO m w x) (C : SLC σ m w x) (s i t k n : Int) : Cw 13 m_WordPlaces_paste [vR 1, vI s, vI i, vI t, vI k, vI n] σ (fun z τ => z = s_paste m w s i t k n ∧ (s_paste m w s i t k n = 0 → SLC τ m w (mvd x (60 * s + i) (60 * t + k) n)) ∧ (s_paste m w s i t k n ≠ 0 → SLC τ m w x) ∧ FRS4 σ τ) := by
  have f0 : FRS4 σ σ := fun _ _ _ _ => rfl
  have no : ∀ z : Int, z ≠ 0 → s_paste m w s i t k n = z → z = s_paste m w s i t k n ∧ (s_paste m w s i t k n = 0 → SLC σ m w (mvd x (60 * s + i) (60 * t + k) n)) ∧ (s_paste m w s i t k n ≠ 0 → SLC σ m w x) ∧ FRS4 σ σ := fun z hz hs => ⟨hs.symm, fun q => absurd (hs.symm.trans q) hz, fun _ => C, f0⟩
  refine Cw_of o_WordPlaces_paste rfl fun l d hd => jwp_sound t_WordPlaces_paste _ (b_WordPlaces_paste_0 ?_)
  simp only [RW, true_and, and_true, and_self, true_or, or_true, Nat.reduceLeDiff, Nat.reduceEqDiff, Nat.reduceAdd, Int.reduceLE, Int.reduceLT, Int.reduceEq, Int.reduceNeg, Int.reduceNe, Nat.reduceSub, reduceIte, implies_true, gt_1, gr_1_19, gt_184]
  refine cN_p (c_isSlot _ _) (by omega) ?_
  by_cases q : 0 ≤ s ∧ s < 4
  · rw [if_pos q]
    refine ⟨fun q => by omega, fun _ => ?_⟩
    refine cN_p (c_isSlot _ _) (by omega) ?_
    by_cases q' : 0 ≤ t ∧ t < 4
    · rw [if_pos q']
      refine ⟨fun _ => ?_, fun q => by omega⟩
      refine cN_p (c_isEmpty C _) (by omega) ?_
      by_cases hm : m s = -1
      · rw [if_neg (fun x => x.2 hm)]
        refine ⟨fun _ => no _ (by omega) ?_, fun q => by omega⟩
        unfold s_paste
        rw [if_pos ⟨q, q'⟩, if_pos (Or.inl hm)]
      · rw [if_pos ⟨q, hm⟩]
        refine ⟨fun q => absurd rfl q, fun _ => ?_⟩
        refine cN_p (c_isEmpty C _) (by omega) ?_
        by_cases hm' : m t = -1
        · rw [if_neg (fun x => x.2 hm')]
          refine ⟨fun q => by omega, fun _ => no _ (by omega) ?_⟩
          unfold s_paste
          rw [if_pos ⟨q, q'⟩, if_pos (Or.inr hm')]
        · rw [if_pos ⟨q', hm'⟩]
          refine ⟨fun _ => ?_, fun q => absurd rfl q⟩
          refine cN_p (c_widthOf C q) (by omega) ?_
          refine cN_p (c_widthOf C q') (by omega) ?_
          refine ⟨fun hw => ?_, fun hw => no _ (by omega) ?_⟩
          · refine cN_w (c_move O C i k n q q' hm hm') (by omega) (fun z τ h => ?_)
            by_cases hk : okmv m s i t k n
            · obtain ⟨h1, h2, h3⟩ := h.1 hk
              have hs : s_paste m w s i t k n = 0 := by
                unfold s_paste
                rw [if_pos ⟨q, q'⟩, if_neg (by omega), if_neg (fun x => x hw)]
                exact if_pos hk
              exact ⟨fun x => by omega, fun _ => ⟨hs.symm, fun _ => h2, fun x => absurd hs x, h3⟩⟩
            · obtain ⟨h1, h2⟩ := h.2 hk
              rw [h2]
              refine ⟨fun _ => no _ (by omega) ?_, fun x => absurd h1 x⟩
              unfold s_paste
              rw [if_pos ⟨q, q'⟩, if_neg (by omega), if_neg (fun x => x hw)]
              exact if_neg hk
          · unfold s_paste
            rw [if_pos ⟨q, q'⟩, if_neg (by omega), if_pos hw]
    · rw [if_neg q']
      refine ⟨fun q => absurd rfl q, fun _ => no _ (by omega) ?_⟩
      unfold s_paste
      rw [if_neg (fun x => q' x.2)]
  · rw [if_neg q]
    refine ⟨fun _ => no _ (by omega) ?_, fun q => absurd rfl q⟩
    unfold s_paste
    rw [if_neg (fun x => q x.1)]
end SL
