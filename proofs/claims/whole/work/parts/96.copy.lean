/-! The class: an image is copied -/
/-- the rules at a in one world are those at b in the other -/
def REQ (τ : jH) (a : Int) (σ : jH) (b : Int) : Prop := (τ a 0 = σ b 0 ∧ τ a 3 = σ b 3 ∧ τ a 5 = σ b 5 ∧ τ a 7 = σ b 7 ∧ τ a 11 = σ b 11) ∧ ∀ k n, ((k = 1 ∨ k = 2 ∨ k = 13) ∧ n = 26) ∨ ((k = 12 ∨ k = 4 ∨ k = 5 ∨ k = 7 ∨ k = 8) ∧ n = 20) ∨ ((k = 10 ∨ k = 11) ∧ n = 80) → ∀ j, 0 ≤ j → j < n → τ (a + k) j = σ (b + k) j
theorem jcpy_0i {σ : jH} {F T n j : Int} (h0 : 0 ≤ j) (h1 : j < n) : jcpy σ F 0 T 0 n T j = σ F j := by
  have := jcpy_in (σ := σ) (F := F) (a := 0) (T := T) (b := 0) h0 h1
  rwa [show (0 : Int) + j = j by omega] at this
theorem c_Rules_copyFrom {a b : Int} (σ : jH) (hU : isRules a) (hV : isRules b) (hn : a ≠ b) (hb : σ b 11 = 0 ∨ σ b 11 = 1) : Cw 11 m_Rules_copyFrom [vR a, vR b] σ (fun _ τ => REQ τ a σ b ∧ ∀ c, (c < a ∨ a + 13 < c) → τ c = σ c) := by
  have far : a + 14 ≤ b ∨ b + 14 ≤ a := by
    unfold isRules at hU hV
    omega
  have K4 := kr_Rules_4 hU
  have K6 := kr_Rules_6 hU
  have K8 := kr_Rules_8 hU
  have J4 := kr_Rules_4 hV
  have J6 := kr_Rules_6 hV
  have J8 := kr_Rules_8 hV
  skip
  refine Cw_of o_Rules_copyFrom rfl fun l d hd => jwp_sound t_Rules_copyFrom _ (b_Rules_copyFrom_0 ?_)
  simp only [RW, true_and, and_true, and_self, true_or, or_true, Nat.reduceLeDiff, Nat.reduceEqDiff, Nat.reduceAdd, Int.reduceLE, Int.reduceLT, Int.reduceEq, Int.reduceNeg, Int.reduceNe, Nat.reduceSub, reduceIte, implies_true, ru_t hU, ru_r1 hU, ru_t1 hU, ru_r2 hU, ru_t2 hU, ru_r4 hU, ru_t4 hU, ru_r6 hU, ru_t6 hU, ru_r8 hU, ru_t8 hU, ru_r9 hU, ru_t9 hU, ru_r10 hU, ru_t10 hU, ru_t hV, ru_r1 hV, ru_t1 hV, ru_r2 hV, ru_t2 hV, ru_r4 hV, ru_r6 hV, ru_r8 hV, ru_r9 hV, ru_t9 hV, ru_r10 hV, ru_t10 hV]
  have f : ∀ (τ : jH) i v, ju τ a i v b = τ b := fun τ i v => ju_row (by omega)
  simp only [f]
  refine ⟨hb, ?_⟩
  repeat (refine And.intro (by omega) ?_)
  refine cN_v (c_KeyRow_copyFrom K4 J4 (by omega) _ (by omega)) (by omega) (fun _ => ?_)
  refine cN_v (c_KeyRow_copyFrom K6 J6 (by omega) _ (by omega)) (by omega) (fun _ => ?_)
  refine cN_v (c_KeyRow_copyFrom K8 J8 (by omega) _ (by omega)) (by omega) (fun _ => ?_)
  simp only [Int.add_assoc, Int.reduceAdd]
  refine ⟨⟨⟨?_, ?_, ?_, ?_, ?_⟩, fun k n hk j j0 j1 => ?_⟩, fun c hc => ?_⟩
  · simp (disch := omega) only [jcpy_row, ju_self, ju_ne2]
  · simp (disch := omega) only [jcpy_row, ju_self, ju_ne2]
  · simp (disch := omega) only [jcpy_row, ju_self, ju_ne2]
  · simp (disch := omega) only [jcpy_row, ju_self, ju_ne2]
  · simp (disch := omega) only [jcpy_row, ju_self, ju_ne2]
  · rcases hk with ⟨h, rfl⟩ | ⟨h, rfl⟩ | ⟨h, rfl⟩
    · rcases h with rfl | rfl | rfl
      all_goals simp (disch := omega) only [jcpy_row, jcpy_0i, ju_row]
    · rcases h with rfl | rfl | rfl | rfl | rfl
      all_goals simp (disch := omega) only [jcpy_row, jcpy_0i, ju_row]
    · rcases h with rfl | rfl
      all_goals simp (disch := omega) only [jcpy_row, jcpy_0i, ju_row]
  · simp (disch := omega) only [jcpy_row, ju_row]
