/-! Ranks: the class adds worths and puts lines in order -/
section RO
variable {l : Launch} {d : Nat} {ω t : Int → Int} {σ : jH} {e n : Int}
theorem l_aw_39 {f : Int} (hd : 12 ≤ d) (H : CDR σ ω) (W : OKW ω) (he : 0 ≤ e ∧ e ≤ 1) (hb : ∀ j, 0 ≤ j → j < 40 → 0 ≤ σ (wb e + 12) j ∧ σ (wb e + 12) j ≤ 1000000) : ∀ (k m : Nat) (i : Int) (τ : jH), cq (dw ω e) (wW ω e).1.toNat f - i ≤ k → 0 ≤ i → i ≤ 1000 → LAT (dw ω e) f (wW ω e).1.toNat i m → (∀ c, c ≠ wb e + 12 → τ c = σ c) → (∀ j, 0 ≤ j → j < 40 → τ (wb e + 12) j = σ (wb e + 12) j + (if bgn (dw ω e) (wW ω e).2.2.1 f j m = true then 1000 / lnn ω e f else 0)) →
    Ev (l, (fun _ => 0), 0) d 0 0 m_Words_addWorths (RW fun _ τ => (∀ c, c ≠ wb e + 12 → τ c = σ c) ∧ ∀ j, 0 ≤ j → j < 40 → τ (wb e + 12) j = σ (wb e + 12) j + ctb ω e f j) 39 [some (vR (wb e)), some (vI f), some (vI (lnn ω e f)), some (vI (lwk (dw ω e) (wW ω e).2.2.1 f m).2), some (vI i), none] [] gW τ 0 0 := by
  have hW := wb_i he
  have w := W.n he
  have wbr : wb e = 105 ∨ wb e = 120 := by
    unfold wb
    omega
  have r := fun f => cq_r (dw ω e) f (wW ω e).1.toNat
  have ln := lnn_r ω e f
  have l40 := w.2.2.2.1
  have fin : ∀ (m : Nat) (i : Int) (τ : jH), cq (dw ω e) (wW ω e).1.toNat f ≤ i → LAT (dw ω e) f (wW ω e).1.toNat i m → (∀ j, 0 ≤ j → j < 40 → τ (wb e + 12) j = σ (wb e + 12) j + (if bgn (dw ω e) (wW ω e).2.2.1 f j m = true then 1000 / lnn ω e f else 0)) → ∀ j, 0 ≤ j → j < 40 → τ (wb e + 12) j = σ (wb e + 12) j + ctb ω e f j := fun m i τ h A V j a b => by
    rw [V j a b]
    unfold ctb bgW
    rw [(lat_x (L := (wW ω e).2.2.1) A h).2]
  intro k
  induction k with
  | zero =>
    intro m i τ hk i0 i1 A F V
    have Hτ : CDR τ ω := CDR_w (fun c a b x y x2 y2 => F c (by omega)) H
    refine jwp_sound t_Words_addWorths _ (b_Words_addWorths_39 ?_)
    simp only [RW, true_and, and_true, and_self, true_or, or_true, Nat.reduceLeDiff, Nat.reduceEqDiff, Nat.reduceAdd, Int.reduceLE, Int.reduceLT, Int.reduceEq, Int.reduceNeg, Int.reduceNe, Nat.reduceSub, reduceIte, implies_true, wd_t hW, wd_r1 hW, wd_t1 hW, wd_r2 hW, wd_t2 hW, wd_r3 hW, wd_t3 hW, wd_r4 hW, wd_t4 hW, wd_r5 hW, wd_t5 hW, wd_r6 hW, wd_t6 hW, wd_r7 hW, wd_t7 hW, wd_r8 hW, wd_t8 hW, wd_r10 hW, wd_t10 hW, wd_r11 hW, wd_t11 hW, wd_r12 hW, wd_t12 hW, wd_r13 hW, wd_t13 hW]
    refine cN_p (c_oftenOf Hτ W he f) (by omega) ?_
    exact ⟨fun _ => ⟨F, fin m i τ (by omega) A V⟩, fun q => absurd q (by omega)⟩
  | succ k ih =>
    intro m i τ hk i0 i1 A F V
    have Hτ : CDR τ ω := CDR_w (fun c a b x y x2 y2 => F c (by omega)) H
    have rf := r f
    refine jwp_sound t_Words_addWorths _ (b_Words_addWorths_39 ?_)
    simp only [RW, true_and, and_true, and_self, true_or, or_true, Nat.reduceLeDiff, Nat.reduceEqDiff, Nat.reduceAdd, Int.reduceLE, Int.reduceLT, Int.reduceEq, Int.reduceNeg, Int.reduceNe, Nat.reduceSub, reduceIte, implies_true, wd_t hW, wd_r1 hW, wd_t1 hW, wd_r2 hW, wd_t2 hW, wd_r3 hW, wd_t3 hW, wd_r4 hW, wd_t4 hW, wd_r5 hW, wd_t5 hW, wd_r6 hW, wd_t6 hW, wd_r7 hW, wd_t7 hW, wd_r8 hW, wd_t8 hW, wd_r10 hW, wd_t10 hW, wd_r11 hW, wd_t11 hW, wd_r12 hW, wd_t12 hW, wd_r13 hW, wd_t13 hW]
    refine cN_p (c_oftenOf Hτ W he f) (by omega) ?_
    refine ⟨fun q => ⟨F, fin m i τ q A V⟩, fun q => ⟨fun q2 => ⟨F, fun j a b => ?_⟩, fun q2 => ?_⟩⟩
    · have z : lnn ω e f = 0 := by omega
      rw [V j a b]
      unfold ctb
      rw [z, Int.ediv_zero]
      split <;> split <;> rfl
    · obtain ⟨b1, b2, b3, b4, b5, b6⟩ := lat_n (L := (wW ω e).2.2.1) A i0 q
      refine cN_p (c_placeOf Hτ W he f i) (by omega) ?_
      refine cN_p (c_lineOfPlace Hτ W he ⟨b2, by omega⟩) (by omega) ?_
      have lr := (W_lines (ω := ω) (e := e) w.2.2.1 b2 (by omega)).1
      have nw := lwk_new (w := dw ω e) (f := f) (W_mnl w.2.2) (m := (fnd (dw ω e) f i (wW ω e).1.toNat).toNat) (by omega)
      have e0 : (((fnd (dw ω e) f i (wW ω e).1.toNat).toNat : Nat) : Int) = fnd (dw ω e) f i (wW ω e).1.toNat := by omega
      rw [e0, b5, b6] at nw
      have IH := ih ((fnd (dw ω e) f i (wW ω e).1.toNat).toNat + 1) (i + 1)
      rw [lwk_s b2 b4, b5] at IH
      have bs := fun j => bgn_s (w := dw ω e) (L := (wW ω e).2.2.1) (j := j) b2 b4
      generalize fnd (dw ω e) f i (wW ω e).1.toNat = p at *
      rw [w32_of (x := i + 1) (by omega) (by omega)]
      refine ⟨fun g => ?_, fun g => ⟨fun x => absurd x (by omega), fun _ => ⟨fun x => absurd x (by omega), fun _ => ⟨by omega, by omega, by omega, by omega, by omega, ?_⟩⟩⟩⟩
      · refine IH τ (by omega) (by omega) (by omega) b1 F (fun j a b => ?_)
        rw [V j a b]
        have : bgn (dw ω e) (wW ω e).2.2.1 f j (p.toNat + 1) = true ↔ bgn (dw ω e) (wW ω e).2.2.1 f j m = true := by
          rw [bs j, b6]
          exact ⟨fun x => x.elim id (fun y => y ▸ nw.mp g), Or.inl⟩
        simp only [this]
      · have nb : ¬ bgn (dw ω e) (wW ω e).2.2.1 f ((wW ω e).2.2.1 p) m = true := fun x => g (nw.mpr x)
        have dv : 0 ≤ 1000 / lnn ω e f ∧ 1000 / lnn ω e f ≤ 1000 := ⟨Int.ediv_nonneg (by omega) (by omega), Int.ediv_le_self _ (by omega)⟩
        have hbp := hb _ lr.1 (by omega)
        rw [V _ lr.1 (by omega), if_neg nb, Int.add_zero, Int.tdiv_eq_ediv_of_nonneg (by omega), w32_of (x := 1000 / lnn ω e f) (by omega) (by omega), w32_of (x := σ (wb e + 12) _ + _) (by omega) (by omega)]
        refine IH _ (by omega) (by omega) (by omega) b1 (fun c hc => by rw [ju_row hc, F c hc]) (fun j a b => ?_)
        by_cases x : j = (wW ω e).2.2.1 p
        · rw [x, ju_self, if_pos ((bs _).mpr (Or.inr rfl))]
        · rw [ju_ne2 x, V j a b]
          have : bgn (dw ω e) (wW ω e).2.2.1 f j (p.toNat + 1) = true ↔ bgn (dw ω e) (wW ω e).2.2.1 f j m = true := by
            rw [bs j, b6]
            exact ⟨fun z => z.elim id (fun y => absurd y.symm x), Or.inl⟩
          simp only [this]
/-- worths so far -/
def WTH (σ τ : jH) (ω : Int → Int) (e : Int) (A : Int → Bool) : Prop := (∀ c, c ≠ wb e + 12 → c ≠ wb e + 13 → c ≠ 179 → τ c = σ c) ∧ (∀ j, 0 ≤ j → j < 40 → τ (wb e + 12) j = wth ω e A j) ∧ (∀ f, 0 ≤ f → f < 600 → τ (wb e + 13) f = b2i (A f)) ∧ ∀ f, A f = true → 0 ≤ f ∧ f < dn ω
theorem c_addWorths {τ : jH} {A : Int → Bool} {K x : Int} (H : CDR σ ω) (W : OKW ω) (he : 0 ≤ e ∧ e ≤ 1) (S : WTH σ τ ω e A) (hx : (x < 0 ∧ ∀ f, 0 ≤ f → f < dn ω → dF ω f ≠ km (fo ω) K) ∨ (0 ≤ x ∧ x < dn ω ∧ dF ω x = km (fo ω) K)) : Cw 12 m_Words_addWorths [vR (wb e), vI x] τ (fun _ υ => WTH σ υ ω e (ask1 ω A K)) := by
  have hW := wb_i he
  have N := H.n
  have wbr : wb e = 105 ∨ wb e = 120 := by
    unfold wb
    omega
  obtain ⟨S1, S2, S3, S4⟩ := S
  refine Cw_of o_Words_addWorths rfl fun l d hd => jwp_sound t_Words_addWorths _ (b_Words_addWorths_0 ?_)
  simp only [RW, true_and, and_true, and_self, true_or, or_true, Nat.reduceLeDiff, Nat.reduceEqDiff, Nat.reduceAdd, Int.reduceLE, Int.reduceLT, Int.reduceEq, Int.reduceNeg, Int.reduceNe, Nat.reduceSub, reduceIte, implies_true, wd_t hW, wd_r1 hW, wd_t1 hW, wd_r2 hW, wd_t2 hW, wd_r3 hW, wd_t3 hW, wd_r4 hW, wd_t4 hW, wd_r5 hW, wd_t5 hW, wd_r6 hW, wd_t6 hW, wd_r7 hW, wd_t7 hW, wd_r8 hW, wd_t8 hW, wd_r10 hW, wd_t10 hW, wd_r11 hW, wd_t11 hW, wd_r12 hW, wd_t12 hW, wd_r13 hW, wd_t13 hW]
  rcases hx with ⟨x0, h⟩ | ⟨x0, x1, h⟩
  · rw [ask1_no h]
    exact ⟨fun _ => ⟨S1, S2, S3, S4⟩, fun q => absurd q (by omega)⟩
  · rw [ask1_yes H.1 x0 x1 h]
    refine ⟨fun q => absurd q (by omega), fun _ => ⟨fun q => absurd q (by omega), fun q => ⟨by omega, by omega, ?_⟩⟩⟩
    rw [S3 x x0 q]
    cases hA : A x with
    | true =>
      have e2 : (fun f => if f = x then true else A f) = A := by
        funext f
        by_cases y : f = x
        · rw [if_pos y, y, hA]
        · rw [if_neg y]
      rw [e2]
      exact ⟨fun y => absurd y (by decide), fun _ => ⟨S1, S2, S3, S4⟩⟩
    | false =>
      refine ⟨fun _ => ⟨by omega, by omega, ?_⟩, fun y => absurd rfl y⟩
      rw [show w8 1 = 1 by decide]
      have G : ∀ c, c ≠ wb e + 13 → ju τ (wb e + 13) x 1 c = τ c := fun c hc => ju_row hc
      have H2 : CDR (ju τ (wb e + 13) x 1) ω := CDR_w (fun c a b y z y2 z2 => by rw [G c (by omega), S1 c (by omega) (by omega) (by omega)]) H
      refine cN_p (c_linesWith H2 W he x) (by omega) ?_
      have hb : ∀ j, 0 ≤ j → j < 40 → 0 ≤ ju τ (wb e + 13) x 1 (wb e + 12) j ∧ ju τ (wb e + 13) x 1 (wb e + 12) j ≤ 1000000 := fun j a b => by
        rw [G _ (by omega), S2 j a b]
        have := wth_r ω e A j (dn ω).toNat
        unfold wth
        omega
      have go := l_aw_39 (l := l) (f := x) hd H2 W he hb 1000 0 0 (ju τ (wb e + 13) x 1) (by have := cq_r (dw ω e) x (wW ω e).1.toNat; have := W.n he; omega) (by omega) (by omega) ⟨by omega, rfl⟩ (fun _ _ => rfl) (fun j a b => by rw [if_neg (by simp [bgn]), Int.add_zero])
      refine Ev_post go (fun _ υ hυ => ?_)
      obtain ⟨F, V⟩ := hυ
      refine ⟨fun c a b c2 => by rw [F c a, G c b, S1 c a b c2], fun j a b => ?_, fun f a b => ?_, fun f hf => ?_⟩
      · rw [V j a b, G _ (by omega), S2 j a b, wth_add x0 x1 hA]
      · rw [F _ (by omega)]
        show _ = b2i (if f = x then true else A f)
        by_cases y : f = x
        · rw [if_pos y, y, ju_self]
          rfl
        · rw [if_neg y, ju_ne2 y]
          exact S3 f a b
      · by_cases y : f = x
        · rw [y]
          exact ⟨x0, x1⟩
        · have hf' : (if f = x then true else A f) = true := hf
          rw [if_neg y] at hf'
          exact S4 f hf'
theorem l_ir_15 {v ln : Int} {cnt : Nat} (hd : 10 ≤ d) (h1 : σ 1 15 = cnt) (hc : cnt < 40) : ∀ (k : Nat) (τ : jH), k ≤ cnt → (∀ c, c ≠ 181 → c ≠ 182 → τ c = σ c) → (∀ j, τ 182 j = if k < j ∧ j ≤ cnt then σ 182 (j - 1) else σ 182 j) → (∀ j, τ 181 j = if k < j ∧ j ≤ cnt then σ 181 (j - 1) else σ 181 j) → ipos (σ 182) v cnt = ipos (σ 182) v k →
    Ev (l, (fun _ => 0), 0) d 0 0 m_WordPlaces_insertRanked (RW fun _ τ => τ 182 = ins (σ 182) cnt (ipos (σ 182) v cnt) v ∧ τ 181 = ins (σ 181) cnt (ipos (σ 182) v cnt) ln ∧ τ 1 15 = cnt + 1 ∧ (∀ c, c ≠ 1 → c ≠ 181 → c ≠ 182 → τ c = σ c) ∧ ∀ j, j ≠ 15 → τ 1 j = σ 1 j) 22 [some (vR 1), some (vI ln), some (vI v), some (vI k)] [] gW τ 0 0 := by
  have fin : ∀ (k : Nat) (τ : jH), k ≤ cnt → (∀ c, c ≠ 181 → c ≠ 182 → τ c = σ c) → (∀ j, τ 182 j = if k < j ∧ j ≤ cnt then σ 182 (j - 1) else σ 182 j) → (∀ j, τ 181 j = if k < j ∧ j ≤ cnt then σ 181 (j - 1) else σ 181 j) → ipos (σ 182) v cnt = k → Ev (l, (fun _ => 0), 0) d 0 0 m_WordPlaces_insertRanked (RW fun _ τ => τ 182 = ins (σ 182) cnt (ipos (σ 182) v cnt) v ∧ τ 181 = ins (σ 181) cnt (ipos (σ 182) v cnt) ln ∧ τ 1 15 = cnt + 1 ∧ (∀ c, c ≠ 1 → c ≠ 181 → c ≠ 182 → τ c = σ c) ∧ ∀ j, j ≠ 15 → τ 1 j = σ 1 j) 72 [some (vR 1), some (vI ln), some (vI v), some (vI k)] [] gW τ 0 0 := fun k τ hk F V1 V2 hi => by
    refine jwp_sound t_WordPlaces_insertRanked _ (b_WordPlaces_insertRanked_72 ?_)
    simp only [RW, true_and, and_true, and_self, true_or, or_true, Nat.reduceLeDiff, Nat.reduceEqDiff, Nat.reduceAdd, Int.reduceLE, Int.reduceLT, Int.reduceEq, Int.reduceNeg, Int.reduceNe, Nat.reduceSub, reduceIte, implies_true, gt_1, gr_1_13, gt_181, gr_1_14, gt_182]
    rw [ju_row (a := 181) (c := 1) (by omega), ju_row (a := 182) (c := 1) (by omega), F 1 (by omega) (by omega), h1, w32_of (by omega) (by omega), hi]
    refine ⟨by omega, by omega, by omega, by omega, ?_, ?_, ju_self, fun c a b c2 => by rw [ju_row a, ju_row b, ju_row c2, F c b c2], fun j hj => by rw [ju_ne2 hj, ju_row (by omega), ju_row (by omega), F 1 (by omega) (by omega)]⟩
    · funext j
      rw [ju_row (by omega), ju_row (by omega)]
      unfold ins
      by_cases x : j = k
      · rw [x, ju_self, if_neg (by omega), if_pos rfl]
      · rw [ju_ne2 x, V1]
        by_cases y : j < k
        · rw [if_pos y, if_neg (by omega)]
        · rw [if_neg y, if_neg x]
          by_cases z : j ≤ cnt
          · rw [if_pos z, if_pos (by omega)]
          · rw [if_neg z, if_neg (by omega)]
    · funext j
      rw [ju_row (by omega)]
      unfold ins
      by_cases x : j = k
      · rw [x, ju_self, if_neg (by omega), if_pos rfl]
      · rw [ju_ne2 x, ju_row (by omega), V2]
        by_cases y : j < k
        · rw [if_pos y, if_neg (by omega)]
        · rw [if_neg y, if_neg x]
          by_cases z : j ≤ cnt
          · rw [if_pos z, if_pos (by omega)]
          · rw [if_neg z, if_neg (by omega)]
  intro k
  induction k with
  | zero =>
    intro τ hk F V1 V2 hi
    refine jwp_sound t_WordPlaces_insertRanked _ (b_WordPlaces_insertRanked_22 ?_)
    exact ⟨fun _ => fin 0 τ hk F V1 V2 hi, fun q => absurd q (by omega)⟩
  | succ k ih =>
    intro τ hk F V1 V2 hi
    have e1 : τ 182 k = σ 182 k := by rw [V1, if_neg (by omega)]
    have e2 : τ 181 k = σ 181 k := by rw [V2, if_neg (by omega)]
    simp only [ipos] at hi
    refine jwp_sound t_WordPlaces_insertRanked _ (b_WordPlaces_insertRanked_22 ?_)
    simp only [RW, true_and, and_true, and_self, true_or, or_true, Nat.reduceLeDiff, Nat.reduceEqDiff, Nat.reduceAdd, Int.reduceLE, Int.reduceLT, Int.reduceEq, Int.reduceNeg, Int.reduceNe, Nat.reduceSub, reduceIte, implies_true, gt_1, gr_1_13, gt_181, gr_1_14, gt_182]
    rw [w32_of (x := ((k + 1 : Nat) : Int) - 1) (by omega) (by omega), w32_of (x := ((k + 1 : Nat) : Int) + -1) (by omega) (by omega), show ((k + 1 : Nat) : Int) - 1 = k by omega, show ((k + 1 : Nat) : Int) + -1 = k by omega, ju_row (a := 182) (c := 181) (by omega), e1, e2]
    refine ⟨fun q => absurd q (by omega), fun _ => ⟨by omega, by omega, fun q => ?_, fun q => ?_⟩⟩
    · rw [if_neg (by omega)] at hi
      exact fin (k + 1) τ hk F V1 V2 hi
    · rw [if_pos q] at hi
      refine ⟨by omega, by omega, by omega, by omega, by omega, by omega, by omega, by omega, ?_⟩
      refine ih _ (by omega) (fun c a b => by rw [ju_row a, ju_row b, F c a b]) (fun j => ?_) (fun j => ?_) hi
      · rw [ju_row (by omega)]
        by_cases x : j = ((k + 1 : Nat) : Int)
        · rw [x, ju_self, if_pos (by omega), show ((k + 1 : Nat) : Int) - 1 = k by omega]
        · rw [ju_ne2 x, V1]
          by_cases y : ((k + 1 : Nat) : Int) < j ∧ j ≤ cnt
          · rw [if_pos y, if_pos (by omega)]
          · rw [if_neg y, if_neg (by omega)]
      · by_cases x : j = ((k + 1 : Nat) : Int)
        · rw [x, ju_self, if_pos (by omega), show ((k + 1 : Nat) : Int) - 1 = k by omega]
        · rw [ju_ne2 x, ju_row (by omega), V2]
          by_cases y : ((k + 1 : Nat) : Int) < j ∧ j ≤ cnt
          · rw [if_pos y, if_pos (by omega)]
          · rw [if_neg y, if_neg (by omega)]
theorem c_insertRanked {v ln : Int} {cnt : Nat} (h1 : σ 1 15 = cnt) (hc : cnt < 40) : Cw 10 m_WordPlaces_insertRanked [vR 1, vI ln, vI v] σ (fun _ τ => τ 182 = ins (σ 182) cnt (ipos (σ 182) v cnt) v ∧ τ 181 = ins (σ 181) cnt (ipos (σ 182) v cnt) ln ∧ τ 1 15 = cnt + 1 ∧ (∀ c, c ≠ 1 → c ≠ 181 → c ≠ 182 → τ c = σ c) ∧ ∀ j, j ≠ 15 → τ 1 j = σ 1 j) := by
  refine Cw_of o_WordPlaces_insertRanked rfl fun l d hd => jwp_sound t_WordPlaces_insertRanked _ (b_WordPlaces_insertRanked_0 ?_)
  simp only [RW, true_and, and_true, and_self, true_or, or_true, Nat.reduceLeDiff, Nat.reduceEqDiff, Nat.reduceAdd, Int.reduceLE, Int.reduceLT, Int.reduceEq, Int.reduceNeg, Int.reduceNe, Nat.reduceSub, reduceIte, implies_true, gt_1, gr_1_13, gt_181, gr_1_14, gt_182]
  rw [h1]
  refine ⟨fun q => absurd q (by omega), fun _ => ⟨fun _ => ?_, fun q => absurd q (by omega)⟩⟩
  exact l_ir_15 hd h1 hc cnt σ (Nat.le_refl _) (fun _ _ _ => rfl) (fun j => by rw [if_neg (by omega)]) (fun j => by rw [if_neg (by omega)]) rfl
end RO
