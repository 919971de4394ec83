/-! The class: a line more, a line put right -/
theorem CDR_eq {σ τ : jH} {ω : Int → Int} (h : ∀ c, 97 ≤ c → c ≤ 134 → τ c = σ c) (C : CDR σ ω) : CDR τ ω := by
  have hw : ∀ e, 0 ≤ e → e ≤ 1 → 105 ≤ wb e ∧ wb e ≤ 120 := fun e a b => by
    unfold wb
    omega
  obtain ⟨c1, c2, c3, c4, c5, c6⟩ := C
  refine ⟨c1, c2, by rw [h 97 (by omega) (by omega)]; exact c3, fun f a b => ?_, fun e a b => ?_, fun i a b => by rw [h 101 (by omega) (by omega)]; exact c6 i a b⟩
  · have := c4 f a b
    unfold KKV at this ⊢
    rw [h _ (by omega) (by omega), h _ (by omega) (by omega)]
    exact this
  · obtain ⟨d1, d2, d3, d4, d5, d6⟩ := c5 e a b
    have w := hw e a b
    refine ⟨CWD_eq d1 (by rw [h _ (by omega) (by omega)]) (fun c hc => h c (by omega) (by omega)), fun p x y => ?_, fun p x y => ?_, fun p x y => ?_, fun p x y => ?_, ?_⟩
    · rw [h _ (by omega) (by omega)]
      exact d2 p x y
    · rw [h _ (by omega) (by omega)]
      exact d3 p x y
    · rw [h _ (by omega) (by omega)]
      exact d4 p x y
    · rw [h _ (by omega) (by omega)]
      exact d5 p x y
    · rw [h _ (by omega) (by omega)]
      exact d6
theorem CFR.of1 {σ τ : jH} {ω : Int → Int} (C : CFR σ ω) (h : ∀ c, 3 ≤ c → c ≤ 134 → τ c = σ c) : CFR τ ω := by
  refine ⟨C.1, IML_eq (fun c a b => h c (by omega) (by omega)) C.2.1, fun q => ?_⟩
  rw [h 97 (by omega) (by omega)] at q
  exact CDR_eq (fun c a b => h c (by omega) b) (C.2.2 q)
def s_lf (ω : Int → Int) (e i n : Int) (t : Int → Int) : Int := if ¬ lok t n then -4 else if 40 ≤ i then -3 else if 300 < (wW (lay ω e i n t) e).1 then -3 else 0
theorem s_lf_0 {ω : Int → Int} {e i n : Int} {t : Int → Int} : s_lf ω e i n t = 0 ↔ lok t n ∧ i < 40 ∧ (wW (lay ω e i n t) e).1 ≤ 300 := by
  unfold s_lf
  constructor
  · intro h
    split at h
    · omega
    · rename_i h1
      split at h
      · omega
      · split at h
        · omega
        · exact ⟨Classical.not_not.mp h1, by omega, by omega⟩
  · rintro ⟨a, b, c⟩
    rw [if_neg (fun x => x a), if_neg (by omega), if_neg (by omega)]
theorem lay_OKW {ω : Int → Int} {e i n : Int} {tx : Int → Int} (Y : LYE ω e i n) (W : OKW ω) (h : (wW (lay ω e i n tx) e).1 ≤ 300) : OKW (lay ω e i n tx) := by
  obtain ⟨W0, W1, W2, W3, W4, W5⟩ := W
  have L := lay_LOK (tx := tx) Y
  have Y1 := Y.1
  have f : okρ (fo (lay ω e i n tx)) := fun x a b => by rw [lay_fo Y a b]; exact W2 x a b
  have r : ∀ x, 0 ≤ x → x < 26 → rnk (lay ω e i n tx) x = rnk ω x := fun x a b => by unfold rnk; rw [lay_low Y (by omega) (by omega)]
  have K : RKO (lay ω e i n tx) := ⟨fun x a b => by rw [r x a b]; exact W3.1 x a b, fun x y a b a' b' q => W3.2 x y a b a' b' (by rw [r x a b, r y a' b'] at q; exact q)⟩
  have : e = 0 ∨ e = 1 := by omega
  rcases this with q | q
  · subst q
    have o := lay_oth (tx := tx) Y (e' := 1) (by omega) (by omega) W1
    exact ⟨L, o.1, f, K, h, by rw [o.2]; exact W5⟩
  · subst q
    have o := lay_oth (tx := tx) Y (e' := 0) (by omega) (by omega) W0
    exact ⟨o.1, L, f, K, by rw [o.2]; exact W4, h⟩
theorem OKW.L {ω : Int → Int} (W : OKW ω) {e : Int} (he : 0 ≤ e ∧ e ≤ 1) : LOK ω e ∧ (wW ω e).1 ≤ 300 := by
  have : e = 0 ∨ e = 1 := by omega
  rcases this with q | q
  · rw [q]; exact ⟨W.1, W.2.2.2.2.1⟩
  · rw [q]; exact ⟨W.2.1, W.2.2.2.2.2⟩
theorem IML.L {σ : jH} {o : Int} {ω : Int → Int} (H : IML σ o ω) {e : Int} (he : 0 ≤ e ∧ e ≤ 1) : LIN σ o ω e := by
  have : e = 0 ∨ e = 1 := by omega
  rcases this with q | q
  · rw [q]; exact H.1
  · rw [q]; exact H.2.1
def FLY (σ τ : jH) : Prop := (∀ c, (c < 18 ∨ 22 < c) → c ≠ 97 → c ≠ 135 → τ c = σ c) ∧ (τ 97 0 = 0 ∧ τ 135 0 = 0) ∧ ∀ j, j ≠ 0 → τ 97 j = σ 97 j ∧ τ 135 j = σ 135 j
/-- a line has been laid, or not -/
def ADL (σ τ : jH) (ω : Int → Int) (e i n : Int) (t : Int → Int) (v z : Int) : Prop := (s_lf ω e i n t = 0 ∧ z = v ∧ CFR τ (lay ω e i n t) ∧ FLY σ τ) ∨ (s_lf ω e i n t ≠ 0 ∧ z = s_lf ω e i n t ∧ τ = σ)
section LC3
variable {l : Launch} {d : Nat} {e i n X nX : Int} {ω : Int → Int} {σ : jH}
theorem c_lineFault (C : CFR σ ω) (tX : gW.2.1 X = (2, nX)) (hX : 60 ≤ nX) (mX : nX < 1000000) (he : 0 ≤ e ∧ e ≤ 1) (hi : 0 ≤ i ∧ i ≤ ω (3 + e)) (n0 : 0 ≤ n) : Cw 13 m_WordPlaces_lineFault [vR 1, vI e, vI i, vR X, vI n] σ (fun z τ => z = s_lf ω e i n (σ X) ∧ τ = σ) := by
  refine Cw_of o_WordPlaces_lineFault rfl fun l d hd => jwp_sound t_WordPlaces_lineFault _ (b_WordPlaces_lineFault_0 ?_)
  simp only [RW, true_and, and_true, and_self, true_or, or_true, Nat.reduceLeDiff, Nat.reduceEqDiff, Nat.reduceAdd, Int.reduceLE, Int.reduceLT, Int.reduceEq, Int.reduceNeg, Int.reduceNe, Nat.reduceSub, reduceIte, implies_true, gt_1, gr_1_2, gt_3]
  refine cN_w (c_isLineText _ tX hX n0) (by omega) (fun z τ h => ?_)
  obtain ⟨h, rfl⟩ := h
  unfold s_lf
  by_cases q : lok (τ X) n
  · have Y : i < 40 → LYE ω e i n := fun x => ⟨he, (C.1.L he).1, ⟨hi.1, hi.2, x⟩, n0, q.1⟩
    rw [if_neg (fun x => x q)]
    refine ⟨fun _ => ⟨fun a => ⟨by rw [if_pos a], rfl⟩, fun a => ?_⟩, fun z0 => absurd z0 (h.mpr q)⟩
    rw [if_neg (by omega)]
    refine cN_p (c_wordCountWith i3 tX hX mX (Y a) (C.2.1.L he)) (by omega) ?_
    exact ⟨fun b => ⟨by rw [if_neg (by omega)], rfl⟩, fun b => ⟨by rw [if_pos b], rfl⟩⟩
  · rw [if_pos q]
    exact ⟨fun x => absurd (h.mp x) q, fun _ => ⟨rfl, rfl⟩⟩
theorem c_forgetBook (σ : jH) : Cw 10 m_WordPlaces_forgetBook [vR 1] σ (fun _ τ => τ = ju (ju σ 97 0 0) 135 0 0) := by
  refine Cw_of o_WordPlaces_forgetBook rfl fun l d hd => jwp_sound t_WordPlaces_forgetBook _ (b_WordPlaces_forgetBook_0 ?_)
  simp only [RW, true_and, and_true, and_self, true_or, or_true, Nat.reduceLeDiff, Nat.reduceEqDiff, Nat.reduceAdd, Int.reduceLE, Int.reduceLT, Int.reduceEq, Int.reduceNeg, Int.reduceNe, Nat.reduceSub, reduceIte, implies_true, gt_1, gr_1_5, gt_97, gr_1_6, gt_135]
/-- lines put, the book forgotten -/
theorem laid {τ : jH} {t : Int → Int} (C : CFR σ ω) (Y : LYE ω e i n) (h : (wW (lay ω e i n t) e).1 ≤ 300) (P : (LIN τ 3 (lay ω e i n t) 0 ∧ LIN τ 3 (lay ω e i n t) 1) ∧ ∀ c, (c < 3 + 15 ∨ 3 + 19 < c) → τ c = σ c) : CFR (ju (ju τ 97 0 0) 135 0 0) (lay ω e i n t) ∧ FLY σ (ju (ju τ 97 0 0) 135 0 0) := by
  have r : ∀ c, c ≠ 97 → c ≠ 135 → ju (ju τ 97 0 0) 135 0 0 c = τ c := fun c a b => by rw [ju_row b, ju_row a]
  have z97 : ju (ju τ 97 0 0) 135 0 0 97 0 = 0 := by rw [ju_row (by omega), ju_self]
  refine ⟨⟨lay_OKW Y C.1 h, ⟨LIN_eq (fun c a b => r c (by omega) (by omega)) P.1.1, LIN_eq (fun c a b => r c (by omega) (by omega)) P.1.2, fun x a b => ?_, fun x a b => ?_⟩, fun q => absurd z97 q⟩, fun c a b b' => ?_, ⟨z97, ju_self⟩, fun j hj => ⟨?_, ?_⟩⟩
  · rw [r _ (by omega) (by omega), P.2 _ (by omega), lay_fo Y a b]
    exact C.2.1.2.2.1 x a b
  · rw [r _ (by omega) (by omega), P.2 _ (by omega)]
    unfold rnk
    rw [lay_low Y (by omega) (by omega)]
    exact C.2.1.2.2.2 x a b
  · rw [r c b b', P.2 c (by omega)]
  · rw [ju_row (by omega), ju_ne2 hj, P.2 97 (by omega)]
  · rw [ju_ne2 hj, ju_row (by omega), P.2 135 (by omega)]
theorem c_addLine (C : CFR σ ω) (tX : gW.2.1 X = (2, nX)) (hX : 60 ≤ nX) (mX : nX < 1000000) (oX : X < 18 ∨ 22 < X) (he : 0 ≤ e ∧ e ≤ 1) (n0 : 0 ≤ n) : Cw 14 m_WordPlaces_addLine [vR 1, vI e, vR X, vI n] σ (fun z τ => ADL σ τ ω e (ω (3 + e)) n (σ X) (ω (3 + e)) z) := by
  have L := (C.1.L he).1
  refine Cw_of o_WordPlaces_addLine rfl fun l d hd => jwp_sound t_WordPlaces_addLine _ (b_WordPlaces_addLine_0 ?_)
  simp only [RW, true_and, and_true, and_self, true_or, or_true, Nat.reduceLeDiff, Nat.reduceEqDiff, Nat.reduceAdd, Int.reduceLE, Int.reduceLT, Int.reduceEq, Int.reduceNeg, Int.reduceNe, Nat.reduceSub, reduceIte, implies_true, gt_1, gr_1_2, gt_3]
  refine cN_p (c_Image_lineCount _ i3 he) (by omega) ?_
  rw [(C.2.1.L he).1]
  refine cN_p (c_lineFault C tX hX mX he ⟨L.1, by omega⟩ n0) (by omega) ?_
  refine ⟨fun q => ?_, fun q => Or.inr ⟨q, rfl, rfl⟩⟩
  obtain ⟨a, b, c⟩ := s_lf_0.mp q
  have Y : LYE ω e (ω (3 + e)) n := ⟨he, L, ⟨L.1, by omega, b⟩, n0, a.1⟩
  refine cN_w (c_putLine i3 tX hX mX (by omega) Y C.1.1 C.1.2.1 C.2.1.1 C.2.1.2.1) (by omega) (fun _ τ h => ?_)
  refine cN_v (c_forgetBook _) (by omega) (fun _ => ?_)
  exact Or.inl ⟨q, rfl, laid C Y c h⟩
theorem lay_t2 {t t' : Int → Int} (h : ∀ j, 0 ≤ j → j < n → t j = t' j) : lay ω e i n t = lay ω e i n t' := by
  funext j
  unfold lay
  by_cases q : lA e i < j ∧ j ≤ lA e i + n
  · rw [h (j - lA e i - 1) (by omega) (by omega)]
  · rw [if_neg q, if_neg q]
theorem s_lf_t {t t' : Int → Int} (h : ∀ j, 0 ≤ j → j < n → t j = t' j) : s_lf ω e i n t = s_lf ω e i n t' := by
  have e1 : ltx t n.toNat = true ↔ ltx t' n.toNat = true := by
    rw [ltx_iff, ltx_iff]
    constructor
    · intro q k a b
      rw [← h k a (by omega)]
      exact q k a b
    · intro q k a b
      rw [h k a (by omega)]
      exact q k a b
  have e2 : lok t n ↔ lok t' n := and_congr Iff.rfl e1
  unfold s_lf
  rw [lay_t2 h]
  by_cases q : lok t n
  · rw [if_neg (show ¬ ¬ lok t n from fun x => x q), if_neg (show ¬ ¬ lok t' n from fun x => x (e2.mp q))]
  · rw [if_pos q, if_pos (show ¬ lok t' n from fun x => q (e2.mpr x))]
theorem ADL_t {t t' : Int → Int} {τ : jH} {v v' z : Int} (h : ∀ j, 0 ≤ j → j < n → t j = t' j) (hv : v = v') (A : ADL σ τ ω e i n t v z) : ADL σ τ ω e i n t' v' z := by
  unfold ADL at *
  rw [lay_t2 h, s_lf_t h, hv] at A
  exact A
def LNP (σ τ : jH) (ω : Int → Int) (e n : Int) (t : Int → Int) (z : Int) : Prop := ((0 ≤ e ∧ e ≤ 1) ∧ ADL (ju σ 1 1 0) τ ω e (ω (3 + e)) n t (ω (3 + e)) z) ∨ (¬ (0 ≤ e ∧ e ≤ 1) ∧ z = -2 ∧ τ = σ)
theorem c_line (C : CFR σ ω) {t : Int → Int} (T : TPC σ n t) : Cw 15 m_WordPlaces_line [vR 1, vI e] σ (fun z τ => LNP σ τ ω e n t z) := by
  have t2 : gW.2.1 2 = (2, 400) := gt_2
  refine Cw_of o_WordPlaces_line rfl fun l d hd => jwp_sound t_WordPlaces_line _ (b_WordPlaces_line_0 ?_)
  simp only [RW, true_and, and_true, and_self, true_or, or_true, Nat.reduceLeDiff, Nat.reduceEqDiff, Nat.reduceAdd, Int.reduceLE, Int.reduceLT, Int.reduceEq, Int.reduceNeg, Int.reduceNe, Nat.reduceSub, reduceIte, implies_true, gt_1, gr_1_0, gt_2]
  refine cN_p (c_isEdition _ _) (by omega) ?_
  by_cases he : 0 ≤ e ∧ e ≤ 1
  · rw [if_pos he]
    refine ⟨fun _ => ?_, fun q => by omega⟩
    refine cN_p (c_takeTape T) (by omega) ?_
    have C' : CFR (ju σ 1 1 0) ω := C.of1 (fun c a b => ju_row (by omega))
    have := c_addLine (e := e) (n := n) C' t2 (by omega) (by omega) (by omega) he T.2.1.1
    rw [ju_row (by omega)] at this
    exact cN_w this (by omega) (fun z τ h => Or.inl ⟨he, ADL_t T.2.2 rfl h⟩)
  · rw [if_neg he]
    exact ⟨fun q => absurd rfl q, fun _ => Or.inr ⟨he, rfl, rfl⟩⟩
def RGP (σ τ : jH) (ω : Int → Int) (e i n : Int) (t : Int → Int) (z : Int) : Prop := (((0 ≤ e ∧ e ≤ 1) ∧ 0 ≤ i ∧ i < ω (3 + e)) ∧ ADL (ju σ 1 1 0) τ ω e i n t (wW (lay ω e i n t) e).1 z) ∨ (¬ ((0 ≤ e ∧ e ≤ 1) ∧ 0 ≤ i ∧ i < ω (3 + e)) ∧ z = -2 ∧ τ = σ)
theorem c_right (C : CFR σ ω) {t : Int → Int} (T : TPC σ n t) : Cw 14 m_WordPlaces_right [vR 1, vI e, vI i] σ (fun z τ => RGP σ τ ω e i n t z) := by
  have t2 : gW.2.1 2 = (2, 400) := gt_2
  refine Cw_of o_WordPlaces_right rfl fun l d hd => jwp_sound t_WordPlaces_right _ (b_WordPlaces_right_0 ?_)
  simp only [RW, true_and, and_true, and_self, true_or, or_true, Nat.reduceLeDiff, Nat.reduceEqDiff, Nat.reduceAdd, Int.reduceLE, Int.reduceLT, Int.reduceEq, Int.reduceNeg, Int.reduceNe, Nat.reduceSub, reduceIte, implies_true, gt_1, gr_1_0, gt_2, gr_1_2, gt_3]
  refine cN_p (c_isEdition _ _) (by omega) ?_
  by_cases he : 0 ≤ e ∧ e ≤ 1
  · rw [if_pos he]
    refine ⟨fun q => by omega, fun _ => ⟨fun q => Or.inr ⟨fun x => by omega, rfl, rfl⟩, fun i0 => ?_⟩⟩
    have L := (C.1.L he).1
    have e22 : σ 22 e = ω (3 + e) := (C.2.1.L he).1
    refine cN_p (c_Image_lineCount _ i3 he) (by omega) ?_
    rw [show (3 : Int) + 19 = 22 by omega, e22]
    refine ⟨fun i1 => ?_, fun q => Or.inr ⟨fun x => by omega, rfl, rfl⟩⟩
    refine cN_p (c_takeTape T) (by omega) ?_
    have C' : CFR (ju σ 1 1 0) ω := C.of1 (fun c a b => ju_row (by omega))
    refine cN_p (c_lineFault C' t2 (by omega) (by omega) he ⟨i0, by omega⟩ T.2.1.1) (by omega) ?_
    rw [ju_row (by omega : (2 : Int) ≠ 1)]
    have tt := T.2.2
    refine ⟨fun q => ?_, fun q => Or.inl ⟨⟨he, i0, i1⟩, Or.inr ⟨by rw [← s_lf_t tt]; exact q, (s_lf_t tt), rfl⟩⟩⟩
    obtain ⟨a, b, c⟩ := s_lf_0.mp q
    have Y : LYE ω e i n := ⟨he, L, ⟨i0, by omega, b⟩, T.2.1.1, a.1⟩
    refine cN_w (c_putLine i3 t2 (by omega) (by omega) (by omega) Y C'.1.1 C'.1.2.1 C'.2.1.1 C'.2.1.2.1) (by omega) (fun _ τ h => ?_)
    rw [ju_row (by omega : (2 : Int) ≠ 1)] at h
    refine cN_v (c_forgetBook _) (by omega) (fun _ => ?_)
    have A := laid C' Y c h
    refine cN_p (c_Image_wordCount _ i3 he (A.1.1.L he).1 (A.1.2.1.L he)) (by omega) ?_
    refine Or.inl ⟨⟨he, i0, i1⟩, Or.inl ⟨by rw [← s_lf_t tt]; exact q, by rw [lay_t2 tt], ?_⟩⟩
    rw [← lay_t2 tt]
    exact A
  · rw [if_neg he]
    exact ⟨fun _ => Or.inr ⟨fun x => he x.1, rfl, rfl⟩, fun q => absurd rfl q⟩
end LC3
