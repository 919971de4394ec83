/-! The class: count -/
def s_count (ω : Int → Int) (n : Int) (m : Int → Int) (what : Int) : Int := if what = 0 then ω 3 + ω 4 else if what = 1 then (wW ω 0).1 + (wW ω 1).1 else if what = 2 then ω 0 else if what = 3 then ω 1 else if what = 4 then ω 2 else if what = 5 then n else if what = 6 then scnt ω 1200 else if what = 7 then mcnt m 4 else if what = 8 then fcnt ω 26 else -1
section CT
variable {l : Launch} {d : Nat} {n : Int} {ω t : Int → Int} {σ : jH} {m w x : Int → Int}
theorem c_count (C : CFR σ ω) (U : RLS σ 4 ω) (S : SPO ω) (SC : SPC σ 3 ω) (T : TPC σ n t) (M : SLC σ m w x) (what : Int) : Cw 13 m_WordPlaces_count [vR 1, vI what] σ (fun z τ => z = s_count ω n m what ∧ τ = σ) := by
  have L0 := C.1.1
  have L1 := C.1.2.1
  have W0 := C.1.2.2.2.2.1
  have W1 := C.1.2.2.2.2.2
  have w0 := wW_0 ω 0
  have w1 := wW_0 ω 1
  have a1 := L0.1
  have a2 := L0.2.1
  have b1 := L1.1
  have b2 := L1.2.1
  rw [show (3 : Int) + 0 = 3 by omega] at a1 a2
  rw [show (3 : Int) + 1 = 4 by omega] at b1 b2
  have u := U.1
  rw [show s_count ω n m what = s_count ω n m what from rfl]
  refine Cw_of o_WordPlaces_count rfl fun l d hd => jwp_sound t_WordPlaces_count _ (b_WordPlaces_count_0 ?_)
  simp only [RW, true_and, and_true, and_self, true_or, or_true, Nat.reduceLeDiff, Nat.reduceEqDiff, Nat.reduceAdd, Int.reduceLE, Int.reduceLT, Int.reduceEq, Int.reduceNeg, Int.reduceNe, Nat.reduceSub, reduceIte, implies_true, gt_1, gr_1_19, gt_184, gr_1_2, gt_3, gr_3_0, gt_4]
  unfold s_count
  refine ⟨fun q => ?_, fun q => ?_, fun q => ?_, fun q => ?_, fun q => ?_, fun q => ?_, fun q => ?_, fun q => ?_, fun q => ?_, fun q => ?_⟩
  · rw [if_neg (by omega), if_neg (by omega), if_neg (by omega), if_neg (by omega), if_neg (by omega), if_neg (by omega), if_neg (by omega), if_neg (by omega), if_neg (by omega)]
  · subst q
    refine cN_p (c_Image_lineCount _ i3 (by omega)) (by omega) ?_
    refine cN_p (c_Image_lineCount _ i3 (by omega)) (by omega) ?_
    rw [C.2.1.1.1, C.2.1.2.1.1, show (3 : Int) + 0 = 3 by omega, show (3 : Int) + 1 = 4 by omega, w32_of (by omega) (by omega)]
    exact ⟨rfl, rfl⟩
  · subst q
    refine cN_p (c_Image_wordCount _ i3 (by omega) L0 C.2.1.1) (by omega) ?_
    refine cN_p (c_Image_wordCount _ i3 (by omega) L1 C.2.1.2.1) (by omega) ?_
    rw [w32_of (by omega) (by omega)]
    exact ⟨rfl, rfl⟩
  · subst q
    exact u.1
  · subst q
    exact u.2.2.1
  · subst q
    exact u.2.2.2
  · subst q
    exact T.1
  · subst q
    exact cN_p (c_slipCount i3 S SC) (by omega) ⟨rfl, rfl⟩
  · subst q
    exact cN_p (c_filled M) (by omega) ⟨rfl, rfl⟩
  · subst q
    exact u.2.1
end CT
