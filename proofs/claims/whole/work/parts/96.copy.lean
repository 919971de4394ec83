/-! The class: an image is copied -/
/-- the rules at a in one world are those at b in the other -/
def REQ (τ : jH) (a : Int) (σ : jH) (b : Int) : Prop := (τ a 0 = σ b 0 ∧ τ a 3 = σ b 3 ∧ τ a 5 = σ b 5 ∧ τ a 7 = σ b 7 ∧ τ a 11 = σ b 11) ∧ ∀ k n, ((k = 1 ∨ k = 2 ∨ k = 13) ∧ n = 26) ∨ ((k = 12 ∨ k = 4 ∨ k = 5 ∨ k = 7 ∨ k = 8) ∧ n = 20) ∨ ((k = 10 ∨ k = 11) ∧ n = 80) → ∀ j, 0 ≤ j → j < n → τ (a + k) j = σ (b + k) j
theorem jcpy_0i {σ : jH} {F T n j : Int} (h0 : 0 ≤ j) (h1 : j < n) : jcpy σ F 0 T 0 n T j = σ F j := by
  have := jcpy_in (σ := σ) (F := F) (a := 0) (T := T) (b := 0) h0 h1
  rwa [show (0 : Int) + j = j by omega] at this
theorem c_Rules_copyFrom {a b : Int} (σ : jH) (hU : isRules a) (hV : isRules b) (hn : a ≠ b) (hb : σ b 11 = 0 ∨ σ b 11 = 1) : Cw 11 m_Rules_copyFrom [vR a, vR b] σ (fun _ τ => REQ τ a σ b ∧ ∀ c, (c < a ∨ a + 13 < c) → τ c = σ c) := by
  have far : a + 14 ≤ b ∨ b + 14 ≤ a := by
    unfold isRules at hU hV
    omega
  have K4 := kr_Rules_4 hU
  have K6 := kr_Rules_6 hU
  have K8 := kr_Rules_8 hU
  have J4 := kr_Rules_4 hV
  have J6 := kr_Rules_6 hV
  have J8 := kr_Rules_8 hV
  skip
  refine Cw_of o_Rules_copyFrom rfl fun l d hd => jwp_sound t_Rules_copyFrom _ (b_Rules_copyFrom_0 ?_)
  simp only [RW, true_and, and_true, and_self, true_or, or_true, Nat.reduceLeDiff, Nat.reduceEqDiff, Nat.reduceAdd, Int.reduceLE, Int.reduceLT, Int.reduceEq, Int.reduceNeg, Int.reduceNe, Nat.reduceSub, reduceIte, implies_true, ru_t hU, ru_r1 hU, ru_t1 hU, ru_r2 hU, ru_t2 hU, ru_r4 hU, ru_t4 hU, ru_r6 hU, ru_t6 hU, ru_r8 hU, ru_t8 hU, ru_r9 hU, ru_t9 hU, ru_r10 hU, ru_t10 hU, ru_t hV, ru_r1 hV, ru_t1 hV, ru_r2 hV, ru_t2 hV, ru_r4 hV, ru_r6 hV, ru_r8 hV, ru_r9 hV, ru_t9 hV, ru_r10 hV, ru_t10 hV]
  have f : ∀ (τ : jH) i v, ju τ a i v b = τ b := fun τ i v => ju_row (by omega)
  simp only [f]
  refine ⟨hb, ?_⟩
  repeat (refine And.intro (by omega) ?_)
  refine cN_v (c_KeyRow_copyFrom K4 J4 (by omega) _ (by omega)) (by omega) (fun _ => ?_)
  refine cN_v (c_KeyRow_copyFrom K6 J6 (by omega) _ (by omega)) (by omega) (fun _ => ?_)
  refine cN_v (c_KeyRow_copyFrom K8 J8 (by omega) _ (by omega)) (by omega) (fun _ => ?_)
  simp only [Int.add_assoc, Int.reduceAdd]
  refine ⟨⟨⟨?_, ?_, ?_, ?_, ?_⟩, fun k n hk j j0 j1 => ?_⟩, fun c hc => ?_⟩
  · simp (disch := omega) only [jcpy_row, ju_self, ju_ne2]
  · simp (disch := omega) only [jcpy_row, ju_self, ju_ne2]
  · simp (disch := omega) only [jcpy_row, ju_self, ju_ne2]
  · simp (disch := omega) only [jcpy_row, ju_self, ju_ne2]
  · simp (disch := omega) only [jcpy_row, ju_self, ju_ne2]
  · rcases hk with ⟨h, rfl⟩ | ⟨h, rfl⟩ | ⟨h, rfl⟩
    · rcases h with rfl | rfl | rfl
      all_goals simp (disch := omega) only [jcpy_row, jcpy_0i, ju_row]
    · rcases h with rfl | rfl | rfl | rfl | rfl
      all_goals simp (disch := omega) only [jcpy_row, jcpy_0i, ju_row]
    · rcases h with rfl | rfl
      all_goals simp (disch := omega) only [jcpy_row, jcpy_0i, ju_row]
  · simp (disch := omega) only [jcpy_row, ju_row]
/-- an image at a in one world is that at b in the other -/
def IEQ (τ : jH) (a : Int) (σ : jH) (b : Int) : Prop := REQ τ (a + 1) σ (b + 1) ∧ ∀ k n, ((k = 15 ∧ n = 4800) ∨ ((k = 16 ∨ k = 17 ∨ k = 18) ∧ n = 80) ∨ (k = 19 ∧ n = 2) ∨ ((k = 21 ∨ k = 22) ∧ n = 1200)) → ∀ j, 0 ≤ j → j < n → τ (a + k) j = σ (b + k) j
theorem REQ_eq {τ υ σ : jH} {a b : Int} (h : ∀ c, a ≤ c → c ≤ a + 13 → υ c = τ c) (R : REQ τ a σ b) : REQ υ a σ b := by
  refine ⟨by rw [h a (by omega) (by omega)]; exact R.1, fun k n hk j j0 j1 => ?_⟩
  rw [h (a + k) (by omega) (by omega)]
  exact R.2 k n hk j j0 j1
theorem c_Image_copyFrom {a b : Int} (σ : jH) (hI : isImage a) (hV : isImage b) (hn : a ≠ b) (hb : σ (b + 1) 11 = 0 ∨ σ (b + 1) 11 = 1) : Cw 12 m_Image_copyFrom [vR a, vR b] σ (fun _ τ => IEQ τ a σ b ∧ ∀ c, (c < a + 1 ∨ a + 22 < c) → τ c = σ c) := by
  have far : a + 23 ≤ b ∨ b + 23 ≤ a := by
    unfold isImage at hI hV
    omega
  have K6 := kr_Image_6 hI
  have J6 := kr_Image_6 hV
  skip
  refine Cw_of o_Image_copyFrom rfl fun l d hd => jwp_sound t_Image_copyFrom _ (b_Image_copyFrom_0 ?_)
  simp only [RW, true_and, and_true, and_self, true_or, or_true, Nat.reduceLeDiff, Nat.reduceEqDiff, Nat.reduceAdd, Int.reduceLE, Int.reduceLT, Int.reduceEq, Int.reduceNeg, Int.reduceNe, Nat.reduceSub, reduceIte, implies_true, im_t hI, im_r0 hI, im_t0 hI, im_r1 hI, im_t1 hI, im_r2 hI, im_t2 hI, im_r3 hI, im_t3 hI, im_r4 hI, im_t4 hI, im_r5 hI, im_t5 hI, im_r6 hI, im_t6 hI, im_t hV, im_r0 hV, im_t0 hV, im_r1 hV, im_t1 hV, im_r2 hV, im_t2 hV, im_r3 hV, im_t3 hV, im_r4 hV, im_t4 hV, im_r5 hV, im_t5 hV, im_r6 hV, im_t6 hV]
  refine cN_w (c_Rules_copyFrom σ (isImage_r hI) (isImage_r hV) (by omega) hb) (by omega) (fun _ τ h => ?_)
  obtain ⟨R, F⟩ := h
  repeat (refine And.intro (by omega) ?_)
  refine cN_v (c_KeyRow_copyFrom K6 J6 (by omega) _ (by omega)) (by omega) (fun _ => ?_)
  simp only [Int.add_assoc, Int.reduceAdd]
  refine ⟨⟨REQ_eq (fun c c0 c1 => ?_) R, fun k n hk j j0 j1 => ?_⟩, fun c hc => ?_⟩
  · simp (disch := omega) only [jcpy_row]
  · rcases hk with ⟨rfl, rfl⟩ | ⟨h, rfl⟩ | ⟨rfl, rfl⟩ | ⟨h, rfl⟩
    · simp (disch := omega) only [jcpy_row, jcpy_0i, F]
    · rcases h with rfl | rfl | rfl
      all_goals simp (disch := omega) only [jcpy_row, jcpy_0i, F]
    · simp (disch := omega) only [jcpy_row, jcpy_0i, F]
    · rcases h with rfl | rfl
      all_goals simp (disch := omega) only [jcpy_row, jcpy_0i, F]
  · simp (disch := omega) only [jcpy_row, F]
