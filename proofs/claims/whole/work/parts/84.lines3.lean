/-! The class: a line is put into an image -/
theorem put_LIN {σ τ : jH} {o e i n X : Int} {ω : Int → Int} (Y : LYE ω e i n)
    (h15 : ∀ j, τ (o + 15) j = if (40 * e + i) * 60 ≤ j ∧ j < (40 * e + i) * 60 + n then σ X (j - (40 * e + i) * 60) else σ (o + 15) j)
    (h16 : ∀ j, τ (o + 16) j = if j = 40 * e + i then n else σ (o + 16) j)
    (h17 : ∀ j, τ (o + 17) j = if j = 40 * e + i then rnc (σ X) n.toNat else σ (o + 17) j)
    (h18 : ∀ j, τ (o + 18) j = if j = 40 * e + i then b2i (dshT (σ X) n) else σ (o + 18) j)
    (h19 : ∀ j, τ (o + 19) j = if j = e then lay ω e i n (σ X) (3 + e) else σ (o + 19) j)
    {e' : Int} (he : 0 ≤ e' ∧ e' ≤ 1) (L : LOK ω e') (H : LIN σ o ω e') : LIN τ o (lay ω e i n (σ X)) e' := by
  have Y' := Y
  obtain ⟨Y1, Y2, Y3, Y4⟩ := Y'
  have hc := lay_c (tx := σ X) Y
  have cn : e' ≠ e → lay ω e i n (σ X) (3 + e') = ω (3 + e') := fun q => lay_o Y (by omega) (by unfold lA; omega)
  refine ⟨?_, fun j a b => ?_⟩
  · rw [h19]
    by_cases q : e' = e
    · rw [if_pos q, q]
    · rw [if_neg q, cn q, H.1]
  · by_cases q : e' = e ∧ j = i
    · rw [q.1, q.2]
      refine ⟨by rw [h16, if_pos rfl, lay_n Y], fun k k0 k1 => ?_, by rw [h17, if_pos rfl, nrun_n Y], by rw [h18, if_pos rfl, dsh_n Y]⟩
      rw [lay_n Y] at k1
      rw [h15, if_pos (by omega), lay_t Y k0 k1, show (40 * e + i) * 60 + k - (40 * e + i) * 60 = k by omega]
    · have bj : j < ω (3 + e') := by
        by_cases q2 : e' = e
        · rw [q2, hc] at b
          rw [q2]
          split at b <;> omega
        · rw [cn q2] at b
          exact b
      have j40 : j < 40 := by have := L.2.1; omega
      have ne : e' ≠ e ∨ j ≠ i := by omega
      obtain ⟨a1, a2, a3, a4⟩ := H.2 j a bj
      have l60 := (L.2.2 j a bj).2
      have S := SLN_l (tx := σ X) Y he ⟨a, j40⟩ ne l60
      refine ⟨by rw [h16, if_neg (by omega), S.1, a1], fun k k0 k1 => ?_, by rw [h17, if_neg (by omega), S.run, a3], by rw [h18, if_neg (by omega), S.dash, a4]⟩
      rw [S.1] at k1
      rw [h15, if_neg (by omega), a2 k k0 k1, show lA e' j + 1 + k = lA e' j + (1 + k) by omega, lay_l Y he ⟨a, j40⟩ ne (by omega) (by omega)]
section LC2
variable {l : Launch} {d : Nat} {o e i n X nX : Int} {ω : Int → Int} {σ : jH}
theorem c_putLine (hI : isImage o) (tX : gW.2.1 X = (2, nX)) (hX : 60 ≤ nX) (mX : nX < 1000000) (oX : X < o + 15 ∨ o + 19 < X) (Y : LYE ω e i n) (L0 : LOK ω 0) (L1 : LOK ω 1) (H0 : LIN σ o ω 0) (H1 : LIN σ o ω 1) : Cw 12 m_Image_putLine [vR o, vI e, vI i, vR X, vI n] σ (fun _ τ => (LIN τ o (lay ω e i n (σ X)) 0 ∧ LIN τ o (lay ω e i n (σ X)) 1) ∧ ∀ c, (c < o + 15 ∨ o + 19 < c) → τ c = σ c) := by
  skip
  have Y' := Y
  obtain ⟨Y1, Y2, Y3, Y4⟩ := Y'
  have hc := lay_c (tx := σ X) Y
  refine Cw_of o_Image_putLine rfl fun l d hd => jwp_sound t_Image_putLine _ (b_Image_putLine_0 ?_)
  simp only [RW, true_and, and_true, and_self, true_or, or_true, Nat.reduceLeDiff, Nat.reduceEqDiff, Nat.reduceAdd, Int.reduceLE, Int.reduceLT, Int.reduceEq, Int.reduceNeg, Int.reduceNe, Nat.reduceSub, reduceIte, implies_true, im_t hI, im_r0 hI, im_t0 hI, im_r1 hI, im_t1 hI, im_r2 hI, im_t2 hI, im_r3 hI, im_t3 hI, im_r4 hI, im_t4 hI, im_r5 hI, im_t5 hI, im_r6 hI, im_t6 hI, tX]
  refine cN_p (c_isEdition _ _) (by omega) ?_
  rw [if_pos Y1, w32_of (x := e * 40) (by omega) (by omega), w32_of (x := e * 40 + i) (by omega) (by omega), w32_of (x := (e * 40 + i) * 60) (by omega) (by omega), show e * 40 + i = 40 * e + i by omega]
  refine ⟨fun q => by omega, fun _ => ⟨fun q => absurd q (by omega), fun _ => ⟨fun q => absurd q (by omega), fun _ => ⟨fun q => absurd q (by omega), fun _ => ⟨fun q => absurd q (by omega), fun _ => ⟨fun _ => ?_, fun q => absurd q (by omega)⟩⟩⟩⟩⟩⟩
  repeat (refine And.intro (by omega) ?_)
  have eX : ju (jcpy σ X 0 (o + 15) ((40 * e + i) * 60) n) (o + 16) (40 * e + i) n X = σ X := by
    rw [ju_row (by omega), jcpy_row (by omega)]
  refine cN_p (c_runsIn _ tX Y4.1 (by omega) mX) (by omega) ?_
  rw [eX]
  repeat (refine And.intro (by omega) ?_)
  refine cN_p (c_endsInDash _ tX (by omega) mX) (by omega) ?_
  rw [ju_row (by omega), eX]
  have s103 : ∀ x, x = b2i (dshT (σ X) n) → Ev (l, (fun _ => 0), 0) d 0 0 m_Image_putLine (RW fun _ τ => (LIN τ o (lay ω e i n (σ X)) 0 ∧ LIN τ o (lay ω e i n (σ X)) 1) ∧ ∀ c, (c < o + 15 ∨ o + 19 < c) → τ c = σ c) 103 [some (vR o), some (vI e), some (vI i), none, none, none] [vI x, vI (40 * e + i), vR (o + 18)] gW (ju (ju (jcpy σ X 0 (o + 15) ((40 * e + i) * 60) n) (o + 16) (40 * e + i) n) (o + 17) (40 * e + i) (rnc (σ X) n.toNat)) 0 0 := fun x hx => by
    have hb := b2i_r (dshT (σ X) n)
    refine jwp_sound t_Image_putLine _ (b_Image_putLine_103 ?_)
    simp only [RW, true_and, and_true, and_self, true_or, or_true, Nat.reduceLeDiff, Nat.reduceEqDiff, Nat.reduceAdd, Int.reduceLE, Int.reduceLT, Int.reduceEq, Int.reduceNeg, Int.reduceNe, Nat.reduceSub, reduceIte, implies_true, im_t hI, im_r0 hI, im_t0 hI, im_r1 hI, im_t1 hI, im_r2 hI, im_t2 hI, im_r3 hI, im_t3 hI, im_r4 hI, im_t4 hI, im_r5 hI, im_t5 hI, im_r6 hI, im_t6 hI]
    repeat (refine And.intro (by omega) ?_)
    have e19 : ju (ju (ju (jcpy σ X 0 (o + 15) ((40 * e + i) * 60) n) (o + 16) (40 * e + i) n) (o + 17) (40 * e + i) (rnc (σ X) n.toNat)) (o + 18) (40 * e + i) (w8 (w8 x)) (o + 19) e = ω (3 + e) := by
      rw [ju_row (by omega), ju_row (by omega), ju_row (by omega), jcpy_row (by omega)]
      have : e = 0 ∨ e = 1 := by omega
      rcases this with q | q
      · rw [q]; exact H0.1
      · rw [q]; exact H1.1
    have em : max (ω (3 + e)) (w32 (i + 1)) = lay ω e i n (σ X) (3 + e) := by
      rw [w32_of (by omega) (by omega), hc]
      split <;> omega
    rw [e19, em, w8_w8, w8_of (x := x) (by omega) (by omega), hx]
    have P : ∀ e', 0 ≤ e' ∧ e' ≤ 1 → LOK ω e' → LIN σ o ω e' → LIN (ju (ju (ju (ju (jcpy σ X 0 (o + 15) ((40 * e + i) * 60) n) (o + 16) (40 * e + i) n) (o + 17) (40 * e + i) (rnc (σ X) n.toNat)) (o + 18) (40 * e + i) (b2i (dshT (σ X) n))) (o + 19) e (lay ω e i n (σ X) (3 + e))) o (lay ω e i n (σ X)) e' := fun e' he L H => by
      refine put_LIN Y (fun j => ?_) (fun j => ?_) (fun j => ?_) (fun j => ?_) (fun j => ?_) he L H
      · rw [ju_row (by omega), ju_row (by omega), ju_row (by omega), ju_row (by omega)]
        unfold jcpy
        rw [show (0 : Int) + (j - (40 * e + i) * 60) = j - (40 * e + i) * 60 by omega]
        by_cases q : (40 * e + i) * 60 ≤ j ∧ j < (40 * e + i) * 60 + n
        · rw [if_pos ⟨rfl, q⟩, if_pos q]
        · rw [if_neg (fun x => q x.2), if_neg q]
      · rw [ju_row (by omega), ju_row (by omega), ju_row (by omega)]
        by_cases q : j = 40 * e + i
        · rw [q, ju_self, if_pos rfl]
        · rw [ju_ne2 q, if_neg q, jcpy_row (by omega)]
      · rw [ju_row (by omega), ju_row (by omega)]
        by_cases q : j = 40 * e + i
        · rw [q, ju_self, if_pos rfl]
        · rw [ju_ne2 q, if_neg q, ju_row (by omega), jcpy_row (by omega)]
      · rw [ju_row (by omega)]
        by_cases q : j = 40 * e + i
        · rw [q, ju_self, if_pos rfl]
        · rw [ju_ne2 q, if_neg q, ju_row (by omega), ju_row (by omega), jcpy_row (by omega)]
      · by_cases q : j = e
        · rw [q, ju_self, if_pos rfl]
        · rw [ju_ne2 q, if_neg q, ju_row (by omega), ju_row (by omega), ju_row (by omega), jcpy_row (by omega)]
    refine ⟨⟨P 0 (by omega) L0 H0, P 1 (by omega) L1 H1⟩, fun c hc => ?_⟩
    rw [ju_row (by omega), ju_row (by omega), ju_row (by omega), ju_row (by omega), jcpy_row (by omega)]
  refine ⟨fun q => s103 _ q.symm, fun q => s103 _ ?_⟩
  have := b2i_r (dshT (σ X) n)
  omega
end LC2
