/-! The reference: makes -/
def KEY (ω : Int → Int) (e p : Int) : Int := km (fo ω) ((wW ω e).2.2.2.2.1 p)
/-- a key of a word ahead of word p of edition e -/
def CO (ω : Int → Int) (e p v : Int) : Prop := ∃ e' p' : Int, 0 ≤ e' ∧ 0 ≤ p' ∧ p' < (wW ω e').1 ∧ (e' < e ∨ (e' = e ∧ p' < p)) ∧ KEY ω e' p' = v
def FSET (τ : jH) (n v : Int) : Prop := ∃ f, 0 ≤ f ∧ f < n ∧ rk (τ 198) (21 * f) = v
def FMK (σ τ : jH) : Prop := (∀ c, c ≠ 189 → (c < 193 ∨ 199 < c) → τ c = σ c) ∧ ∀ j, j ≠ 10 → τ 189 j = σ 189 j
theorem FMK.rf {σ : jH} : FMK σ σ := ⟨fun _ _ _ => rfl, fun _ _ => rfl⟩
theorem FMK.tr {σ τ υ : jH} (h : FMK σ τ) (h' : FMK τ υ) : FMK σ υ := ⟨fun c a b => (h'.1 c a b).trans (h.1 c a b), fun j hj => (h'.2 j hj).trans (h.2 j hj)⟩
theorem FMW.k {σ τ : jH} {e : Int} (h : FMW σ τ e) : FMK σ τ := ⟨fun c a b => h.1 c (by omega) (by omega) (by omega) (by omega), fun j _ => by rw [h.1 189 (by omega) (by omega) (by omega) (by omega)]⟩
theorem CAME.k {σ τ : jH} {n K : Int} (h : CAME σ τ n K) : FMK σ τ := ⟨fun c a b => h.2.1 c (by omega) a, h.2.2⟩
theorem RWD_eq {τ υ : jH} {e : Int} {s : wS} (R : RWD τ e s) (h0 : υ 190 = τ 190) (h1 : υ 193 = τ 193) (h2 : υ 195 = τ 195) (h3 : υ 196 = τ 196) (h4 : υ 197 = τ 197) : RWD υ e s := by
  unfold RWD
  rw [h0, h1, h2, h3, h4]
  exact R
theorem RWD_o {τ υ : jH} {e e' : Int} {s : wS} (R : RWD τ e s) (h : s.1 ≤ 340) (he : 0 ≤ e ∧ e ≤ 1) (he' : 0 ≤ e' ∧ e' ≤ 1) (hne : e ≠ e') (F : FMW τ υ e') : RWD υ e s := by
  obtain ⟨R1, R2⟩ := R
  refine ⟨by rw [F.2.1 e hne]; exact R1, fun p p0 p1 => ?_⟩
  obtain ⟨b1, b2, b3, b4, b5⟩ := R2 p p0 p1
  have o := F.2.2.1 (340 * e + p) (by omega)
  have o2 : ∀ j, 0 ≤ j → j ≤ 20 → υ 197 (21 * (340 * e + p) + j) = τ 197 (21 * (340 * e + p) + j) := fun j j0 j1 => F.2.2.2 _ (by omega)
  have h0' : τ 197 (21 * (340 * e + p)) = υ 197 (21 * (340 * e + p)) := by have := o2 0 (by omega) (by omega); rw [Int.add_zero] at this; exact this.symm
  have h1' : ∀ j, 0 ≤ j → j < τ 197 (21 * (340 * e + p)) → τ 197 (21 * (340 * e + p) + 1 + j) = υ 197 (21 * (340 * e + p) + 1 + j) := fun j j0 j1 => by have := o2 (1 + j) (by omega) (by have := b3.2.1; omega); rw [← Int.add_assoc] at this; exact this.symm
  rw [F.1 190 (by omega) (by omega) (by omega) (by omega)]
  exact ⟨o.1.trans b1, o.2.trans b2, RV_eq b3 h0' h1', h0'.symm.trans b4, (rk_eq h0' h1').symm.trans b5⟩
theorem CO_s {ω : Int → Int} {e p v : Int} (he : 0 ≤ e) (hp : 0 ≤ p) (hw : p < (wW ω e).1) : CO ω e (p + 1) v ↔ (CO ω e p v ∨ v = KEY ω e p) := by
  constructor
  · rintro ⟨e', p', a1, a2, a3, a4, a5⟩
    by_cases h : e' = e ∧ p' = p
    · exact Or.inr (by rw [← a5, h.1, h.2])
    · exact Or.inl ⟨e', p', a1, a2, a3, by omega, a5⟩
  · rintro (⟨e', p', a1, a2, a3, a4, a5⟩ | h)
    · exact ⟨e', p', a1, a2, a3, by omega, a5⟩
    · exact ⟨e, p, he, hp, hw, by omega, h.symm⟩
theorem CO_e {ω : Int → Int} {e v : Int} : CO ω (e + 1) 0 v ↔ CO ω e (wW ω e).1 v := by
  constructor
  · rintro ⟨e', p', a1, a2, a3, a4, a5⟩
    refine ⟨e', p', a1, a2, a3, ?_, a5⟩
    by_cases h : e' = e
    · exact Or.inr ⟨h, h ▸ a3⟩
    · exact Or.inl (by omega)
  · rintro ⟨e', p', a1, a2, a3, a4, a5⟩
    exact ⟨e', p', a1, a2, a3, by omega, a5⟩
theorem CO_0 {ω : Int → Int} {v : Int} : ¬ CO ω 0 0 v := by
  rintro ⟨e', p', a1, a2, a3, a4, a5⟩
  omega
/-- what the reference takes from its row -/
def MOK (σ : jH) : Prop := LOK (σ 190) 0 ∧ LOK (σ 190) 1 ∧ okρ (fo (σ 190)) ∧ (wW (σ 190) 0).1 ≤ 340 ∧ (wW (σ 190) 1).1 ≤ 340 ∧ ALP σ
theorem MOK.l {σ : jH} (M : MOK σ) {e : Int} (he : 0 ≤ e ∧ e ≤ 1) : LOK (σ 190) e ∧ (wW (σ 190) e).1 ≤ 340 := by
  have : e = 0 ∨ e = 1 := by omega
  rcases this with rfl | rfl
  · exact ⟨M.1, M.2.2.2.1⟩
  · exact ⟨M.2.1, M.2.2.2.2.1⟩
theorem wW_0 (ω : Int → Int) (e : Int) : 0 ≤ (wW ω e).1 := (wal_ok _).1
section MK
variable {l : Launch} {d : Nat} {σ : jH} {RT : Int → jG → jH → Prop}
/-- words of editions up to e are made; forms of all words ahead of word p of e are in -/
def MK1 (σ τ : jH) (e p nb : Int) : Prop := (∀ e', 0 ≤ e' → e' ≤ e → RWD τ e' (wW (σ 190) e')) ∧ FMK σ τ ∧ ∃ n, n ≤ nb + p ∧ FRM τ n ∧ ∀ v, FSET τ n v ↔ CO (σ 190) e p v
theorem l_mk_19 {e nb : Int} (hd : 15 ≤ d) (he : 0 ≤ e ∧ e ≤ 1) (M : MOK σ) (hnb : nb + (wW (σ 190) e).1 ≤ 680)
    (H : ∀ τ, MK1 σ τ e (wW (σ 190) e).1 nb → Ev (l, (fun _ => 0), 0) d 0 0 m_Model_makes RT 7 [some (vR 189), some (vI (e + 1)), none] [] gW τ 0 0) : ∀ (n : Nat) (p : Int) (τ : jH), p + n = (wW (σ 190) e).1 → 0 ≤ p → MK1 σ τ e p nb →
    Ev (l, (fun _ => 0), 0) d 0 0 m_Model_makes RT 19 [some (vR 189), some (vI e), some (vI p)] [] gW τ 0 0
  | 0, p, τ, hn, hp, X => by
    have R := X.1 e he.1 (Int.le_refl _)
    refine jwp_sound t_Model_makes _ (b_Model_makes_19 ?_)
    simp only [RW, true_and, and_true, and_self, true_or, or_true, Nat.reduceLeDiff, Nat.reduceEqDiff, Nat.reduceAdd, Int.reduceLE, Int.reduceLT, Int.reduceEq, Int.reduceNeg, Int.reduceNe, Nat.reduceSub, reduceIte, implies_true, gt_189, gr_189_1, gt_190, gr_189_11, gt_199, gr_189_4, gt_193, gr_189_5, gt_194, gr_189_8, gt_197, gr_189_9, gt_198]
    rw [R.1, w32_of (x := e + 1) (by omega) (by omega)]
    have ep : p = (wW (σ 190) e).1 := by omega
    rw [ep] at X
    exact ⟨by omega, by omega, fun _ => H τ X, fun q => absurd q (by omega)⟩
  | n + 1, p, τ, hn, hp, X => by
    have ⟨ML, Mc⟩ := M.l he
    obtain ⟨X1, X2, m, X3, X4, X5⟩ := X
    have R := X1 e he.1 (Int.le_refl _)
    obtain ⟨b1, b2, b3, b4, b5⟩ := R.2 p hp (by omega)
    have eω : τ 190 = σ 190 := X2.1 190 (by omega) (by omega)
    have hal : ALP τ := by
      intro x x0 x1
      rw [X2.1 200 (by omega) (by omega)]
      exact M.2.2.2.2.2 x x0 x1
    refine jwp_sound t_Model_makes _ (b_Model_makes_19 ?_)
    simp only [RW, true_and, and_true, and_self, true_or, or_true, Nat.reduceLeDiff, Nat.reduceEqDiff, Nat.reduceAdd, Int.reduceLE, Int.reduceLT, Int.reduceEq, Int.reduceNeg, Int.reduceNe, Nat.reduceSub, reduceIte, implies_true, gt_189, gr_189_1, gt_190, gr_189_11, gt_199, gr_189_4, gt_193, gr_189_5, gt_194, gr_189_8, gt_197, gr_189_9, gt_198]
    rw [R.1, w32_of (x := 340 * e) (by omega) (by omega), w32_of (x := 340 * e + p) (by omega) (by omega), w32_of (x := 21 * _) (by omega) (by omega), w32_of (x := p + 1) (by omega) (by omega)]
    refine ⟨by omega, by omega, fun q => absurd q (by omega), fun _ => ?_⟩
    refine cN_w (c_Model_comes hal b3 (by omega) (by omega) X4 (by omega)) (by omega) (fun _ υ C => ?_)
    rw [b5, eω] at C
    obtain ⟨⟨m', c1, c2, c3, c4⟩, c5, c6⟩ := C
    have row : ∀ c, c ≠ 198 → c ≠ 189 → υ c = τ c := c5
    refine l_mk_19 hd he M hnb H n (p + 1) υ (by omega) (by omega) ⟨fun e' a1 a2 => ?_, X2.tr ⟨fun c a b => c5 c (by omega) a, c6⟩, m', by omega, c3, fun v => ?_⟩
    · exact RWD_eq (X1 e' a1 a2) (row 190 (by omega) (by omega)) (row 193 (by omega) (by omega)) (row 195 (by omega) (by omega)) (row 196 (by omega) (by omega)) (row 197 (by omega) (by omega))
    · have := c4 v
      have x5 := X5 v
      unfold FSET at x5 ⊢
      rw [this, CO_s he.1 hp (by omega), ← x5]
      exact Iff.rfl
def WFD (σ τ : jH) (n e p : Int) : Prop := ∀ e' p', 0 ≤ e' → 0 ≤ p' → e' ≤ 1 → p' < (wW (σ 190) e').1 → (e' < e ∨ (e' = e ∧ p' < p)) → 0 ≤ τ 194 (340 * e' + p') ∧ τ 194 (340 * e' + p') < n ∧ rk (τ 198) (21 * τ 194 (340 * e' + p')) = KEY (σ 190) e' p'
/-- all words and forms are made -/
def MK2 (σ τ : jH) (n : Int) : Prop := (∀ e', 0 ≤ e' → e' ≤ 1 → RWD τ e' (wW (σ 190) e')) ∧ FMK σ τ ∧ FRM τ n ∧ ∀ v, FSET τ n v ↔ CO (σ 190) 2 0 v
theorem l_mk_64 {e n : Int} (hd : 15 ≤ d) (he : 0 ≤ e ∧ e ≤ 1) (M : MOK σ)
    (H : ∀ τ, MK2 σ τ n → WFD σ τ n e (wW (σ 190) e).1 → Ev (l, (fun _ => 0), 0) d 0 0 m_Model_makes RT 57 [some (vR 189), some (vI (e + 1)), none] [] gW τ 0 0) : ∀ (k : Nat) (p : Int) (τ : jH), p + k = (wW (σ 190) e).1 → 0 ≤ p → MK2 σ τ n → WFD σ τ n e p →
    Ev (l, (fun _ => 0), 0) d 0 0 m_Model_makes RT 64 [some (vR 189), some (vI e), some (vI p)] [] gW τ 0 0
  | 0, p, τ, hn, hp, X, Y => by
    have R := X.1 e he.1 he.2
    refine jwp_sound t_Model_makes _ (b_Model_makes_64 ?_)
    simp only [RW, true_and, and_true, and_self, true_or, or_true, Nat.reduceLeDiff, Nat.reduceEqDiff, Nat.reduceAdd, Int.reduceLE, Int.reduceLT, Int.reduceEq, Int.reduceNeg, Int.reduceNe, Nat.reduceSub, reduceIte, implies_true, gt_189, gr_189_1, gt_190, gr_189_11, gt_199, gr_189_4, gt_193, gr_189_5, gt_194, gr_189_8, gt_197, gr_189_9, gt_198]
    rw [R.1, w32_of (x := e + 1) (by omega) (by omega)]
    have ep : p = (wW (σ 190) e).1 := by omega
    rw [ep] at Y
    exact ⟨by omega, by omega, fun _ => H τ X Y, fun q => absurd q (by omega)⟩
  | k + 1, p, τ, hn, hp, X, Y => by
    have ⟨ML, Mc⟩ := M.l he
    have X' := X
    obtain ⟨X1, X2, X4, X5⟩ := X'
    have R := X1 e he.1 he.2
    obtain ⟨b1, b2, b3, b4, b5⟩ := R.2 p hp (by omega)
    have eω : τ 190 = σ 190 := X2.1 190 (by omega) (by omega)
    have hal : ALP τ := by
      intro x x0 x1
      rw [X2.1 200 (by omega) (by omega)]
      exact M.2.2.2.2.2 x x0 x1
    refine jwp_sound t_Model_makes _ (b_Model_makes_64 ?_)
    simp only [RW, true_and, and_true, and_self, true_or, or_true, Nat.reduceLeDiff, Nat.reduceEqDiff, Nat.reduceAdd, Int.reduceLE, Int.reduceLT, Int.reduceEq, Int.reduceNeg, Int.reduceNe, Nat.reduceSub, reduceIte, implies_true, gt_189, gr_189_1, gt_190, gr_189_11, gt_199, gr_189_4, gt_193, gr_189_5, gt_194, gr_189_8, gt_197, gr_189_9, gt_198]
    rw [R.1, w32_of (x := 340 * e) (by omega) (by omega), w32_of (x := 340 * e + p) (by omega) (by omega), w32_of (x := 21 * _) (by omega) (by omega), w32_of (x := p + 1) (by omega) (by omega)]
    refine ⟨by omega, by omega, fun q => absurd q (by omega), fun _ => ?_⟩
    refine cN_w (c_Model_find (X := 197) τ hal gt_197 b3 (by omega) (by omega) (by omega) X4) (by omega) (fun z υ hz => ?_)
    obtain ⟨hz, rfl⟩ := hz
    rw [b5, eω] at hz
    have hz2 : 0 ≤ z ∧ z < n ∧ rk (υ 198) (21 * z) = KEY (σ 190) e p := by
      rcases hz with ⟨_, hz⟩ | hz
      · obtain ⟨f, f0, f1, f2⟩ := (X5 (KEY (σ 190) e p)).mpr ⟨e, p, he.1, hp, by omega, by omega, rfl⟩
        exact absurd f2 (hz f f0 f1)
      · exact hz
    have row : ∀ c, c ≠ 194 → ju υ 194 (340 * e + p) z c = υ c := fun c hc => ju_row hc
    refine ⟨by omega, by omega, l_mk_64 hd he M H k (p + 1) _ (by omega) (by omega) ⟨fun e' a1 a2 => ?_, X2.tr ⟨fun c a b => row c (by omega), fun j _ => by rw [row 189 (by omega)]⟩, ?_, fun v => ?_⟩ ?_⟩
    · exact RWD_eq (X1 e' a1 a2) (row 190 (by omega)) (row 193 (by omega)) (row 195 (by omega)) (row 196 (by omega)) (row 197 (by omega))
    · unfold FRM
      rw [row 189 (by omega), row 198 (by omega)]
      exact X4
    · unfold FSET
      rw [row 198 (by omega)]
      exact X5 v
    · intro e' p' a1 a2 a3 a4 a5
      rw [row 198 (by omega)]
      by_cases h : e' = e ∧ p' = p
      · rw [h.1, h.2, ju_self]
        exact hz2
      · rw [ju_ne2 (by have := (M.l (e := e') ⟨a1, a3⟩).2; omega)]
        exact Y e' p' a1 a2 a3 a4 (by omega)
end MK
