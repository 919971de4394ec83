/-! Pages: the reference -/
/-- a row's place by page and rows left -/
def PGL (n r q left : Int) : Prop := r = (q + 1) * n - left ∧ 0 ≤ left ∧ left < n ∧ -1 ≤ q
theorem pgl_m {n r q left : Int} (hn : 5 ≤ n) (h : PGL n r q left) : r % n = (if left = 0 then 0 else n - left) ∧ r / n = (if left = 0 then q + 1 else q) := by
  obtain ⟨h1, h2, h3, h4⟩ := h
  have e : (q + 1) * n = q * n + n := by rw [Int.add_mul, Int.one_mul]
  by_cases g : left = 0
  · rw [if_pos g, if_pos g, h1, g, Int.sub_zero]
    exact ⟨Int.mul_emod_left _ _, Int.mul_ediv_cancel _ (by omega)⟩
  · rw [if_neg g, if_neg g]
    have e2 : r = (n - left) + q * n := by omega
    rw [e2, Int.add_mul_emod_self_right, Int.add_mul_ediv_right _ _ (by omega), Int.emod_eq_of_lt (by omega) (by omega), Int.ediv_eq_zero_of_lt (by omega) (by omega)]
    omega
theorem pgl_b {n r q left : Int} (hn : 5 ≤ n) (h : PGL n r q left) : q ≤ r + left := by
  obtain ⟨h1, h2, h3, h4⟩ := h
  have := Int.mul_le_mul_of_nonneg_left (show (1 : Int) ≤ n by omega) (show 0 ≤ q + 1 by omega)
  omega
theorem pgl_end {n r q left : Int} (hn : 5 ≤ n) (h : PGL n r q left) : (r + n - 1) / n = q + 1 := by
  obtain ⟨h1, h2, h3, h4⟩ := h
  have e2 : r + n - 1 = (n - 1 - left) + (q + 1) * n := by omega
  rw [e2, Int.add_mul_ediv_right _ _ (by omega), Int.ediv_eq_zero_of_lt (by omega) (by omega)]
  omega
def PGQ (σ : jH) (pg : Int → Int) (N : Int) : Prop := σ 189 46 = N ∧ (0 ≤ N ∧ N ≤ 680) ∧ (∀ f, 0 ≤ f → f < N → σ 228 f = pg f) ∧ ∀ f, N ≤ f → pg f = -1
def PRQ (σ τ : jH) (ω : Int → Int) (e n z : Int) : Prop := z = s_print ω e n ∧ (¬ ((0 ≤ e ∧ e ≤ 1) ∧ 5 ≤ n ∧ n ≤ 100) → τ = σ) ∧ ((0 ≤ e ∧ e ≤ 1) ∧ 5 ≤ n ∧ n ≤ 100 → PGQ τ (pgS ω e n).2 (dn ω) ∧ (∀ c, c ≠ 189 → c ≠ 201 → c ≠ 228 → τ c = σ c) ∧ ∀ j, j ≠ 46 → τ 189 j = σ 189 j)
theorem pgT_no {ω : Int → Int} {e n f : Int} : ∀ i : Nat, (∀ j : Int, 0 ≤ j → j < i → dO ω j ≠ f) → (pgT ω e n i).2 f = -1
  | 0, _ => rfl
  | i + 1, h => by
    have IH := pgT_no (ω := ω) (e := e) (n := n) (f := f) i (fun j a b => h j a (by omega))
    cases hb : pgB ω e (dO ω i) with
    | true =>
      rw [pgT_1 hb]
      show up _ _ _ f = -1
      rw [up_ne (fun x => h i (by omega) (by omega) x.symm)]
      exact IH
    | false =>
      rw [pgT_0 hb]
      exact IH
theorem dO_inj {ω : Int → Int} (D : ISD ω (dD ω)) {i j : Int} (i0 : 0 ≤ i) (i1 : i < dn ω) (j0 : 0 ≤ j) (j1 : j < dn ω) (h : dO ω i = dO ω j) : i = j := by
  have h' : (dD ω).2.2.2 i = (dD ω).2.2.2 j := h
  by_cases q : i < j
  · have := D.2.2.2.2.2.1 i j i0 q j1
    rw [h'] at this
    omega
  · by_cases q2 : j < i
    · have := D.2.2.2.2.2.1 j i j0 q2 i1
      rw [h'] at this
      omega
    · omega
section PM
variable {l : Launch} {d : Nat} {ω : Int → Int} {σ : jH} {e n : Int}
theorem l_mp_130 {P : Int → jH → Prop} {i : Int} {τ : jH} (hd : 14 ≤ d) (hn : 5 ≤ n ∧ n ≤ 100) (hi : 0 ≤ i ∧ i < 680) {r : Int} (N : ∀ q left, PGL n r q left → Ev (l, (fun _ => 0), 0) d 0 0 m_Model_print (RW P) 40 [some (vR 189), some (vI e), some (vI n), some (vI q), some (vI left), some (vI (i + 1)), none, none, none] [] gW τ 0 0) : ∀ (k : Nat) (rows left q : Int), rows ≤ k → 1 ≤ rows → 1 ≤ left → left ≤ n → -1 ≤ q → q + rows ≤ 1000000 → r = (q + 1) * n - left + rows →
    Ev (l, (fun _ => 0), 0) d 0 0 m_Model_print (RW P) 130 [some (vR 189), some (vI e), some (vI n), some (vI q), some (vI left), some (vI i), none, none, some (vI rows)] [] gW τ 0 0
  | 0, rows, left, q, hk, h1, _, _, _, _, _ => by omega
  | k + 1, rows, left, q, hk, h1, l1, l2, q1, q2, hr => by
    refine jwp_sound t_Model_print _ (b_Model_print_130 ?_)
    refine ⟨fun x => ?_, fun x => ?_⟩
    · rw [w32_of (x := left - rows) (by omega) (by omega), w32_of (x := i + 1) (by omega) (by omega)]
      exact N q (left - rows) ⟨by omega, by omega, by omega, q1⟩
    · rw [w32_of (x := q + 1) (by omega) (by omega), w32_of (x := rows - left) (by omega) (by omega)]
      refine l_mp_130 hd hn hi N k (rows - left) n (q + 1) (by omega) (by omega) (by omega) (by omega) (by omega) (by omega) ?_
      have e2 : (q + 1 + 1) * n = (q + 1) * n + n := by rw [Int.add_mul (q + 1), Int.one_mul]
      omega
theorem l_mp_40 (hd : 14 ≤ d) (R : RFR σ ω) (hal : ALP σ) (U : RLO ω) (he : 0 ≤ e ∧ e ≤ 1) (hn : 5 ≤ n ∧ n ≤ 100) : ∀ (k i : Nat) (q left : Int) (υ : jH), (i : Int) + k = dn ω → PGL n (pgT ω e n i).1 q left → (∀ c, c ≠ 201 → c ≠ 228 → υ c = σ c) → (∀ j : Int, 0 ≤ j → j < i → υ 228 (dO ω j) = (pgT ω e n i).2 (dO ω j)) →
    Ev (l, (fun _ => 0), 0) d 0 0 m_Model_print (RW fun z τ => z = ((pgS ω e n).1 + n - 1) / n ∧ (∀ c, c ≠ 201 → c ≠ 228 → τ c = σ c) ∧ ∀ f, 0 ≤ f → f < dn ω → τ 228 f = (pgS ω e n).2 f) 40 [some (vR 189), some (vI e), some (vI n), some (vI q), some (vI left), some (vI i), none, none, none] [] gW υ 0 0
  | 0, i, q, left, υ, hk, L, F, V => by
    have d10 := R.2.2.2.2.1
    have d680 := R.2.2.1
    have r := pgT_r R.1 he hn i
    have qb := pgl_b hn.1 L
    have q1 := L.2.2.2
    have l1 := L.2.2.1
    refine jwp_sound t_Model_print _ (b_Model_print_40 ?_)
    simp only [RW, true_and, and_true, and_self, true_or, or_true, Nat.reduceLeDiff, Nat.reduceEqDiff, Nat.reduceAdd, Int.reduceLE, Int.reduceLT, Int.reduceEq, Int.reduceNeg, Int.reduceNe, Nat.reduceSub, reduceIte, implies_true, gt_189, gr_189_11, gt_199, gr_189_45, gt_228]
    rw [F 189 (by omega) (by omega), d10, w32_of (x := q + 1) (by omega) (by omega)]
    refine ⟨fun _ => ⟨?_, F, fun f f0 f1 => ?_⟩, fun x => absurd x (by omega)⟩
    · unfold pgS
      rw [show (dn ω).toNat = i by omega, pgl_end hn.1 L]
    · obtain ⟨j, j0, j1, j2⟩ := R.2.1.2.2.2.2.2.2 f f0 f1
      have j2' : dO ω j = f := j2
      have j1' : j < dn ω := j1
      unfold pgS
      rw [← j2', show (dn ω).toNat = i by omega]
      exact V j j0 (by omega)
  | k + 1, i, q, left, υ, hk, L, F, V => by
    have d10 := R.2.2.2.2.1
    have d680 := R.2.2.1
    have r := pgT_r R.1 he hn i
    have w := R.W he
    have qb := pgl_b hn.1 L
    have pm := pgl_m hn.1 L
    have L' := L
    obtain ⟨g1, g2, g3, g4⟩ := L'
    have o1 : σ 199 i = dO ω i := R.2.2.2.2.2.2.2.2 i (by omega) (by omega)
    have o3 : 0 ≤ dO ω i ∧ dO ω i < dn ω := R.2.1.2.2.2.2.1 i (by omega) (show (i : Int) < dn ω by omega)
    have cr := cq_r (dw ω e) (dO ω i) (wW ω e).1.toNat
    have kr := pgK_r R.1 he (dO ω i)
    have Rυ := R.of (τ := υ) (fun c h => F c (by omega) (by omega))
    have IH := fun q left υ L F V => l_mp_40 hd R hal U he hn k (i + 1) q left υ (by omega) L F V
    rw [show ((i + 1 : Nat) : Int) = (i : Int) + 1 by omega] at IH
    have others : ∀ (υ' : jH) (x : Int → Int), (∀ j, 0 ≤ j → j < (i : Int) → υ' 228 (dO ω j) = υ 228 (dO ω j)) → (∀ j, 0 ≤ j → j < (i : Int) → x (dO ω j) = (pgT ω e n i).2 (dO ω j)) → υ' 228 (dO ω i) = x (dO ω i) → ∀ j : Int, 0 ≤ j → j < (i : Int) + 1 → υ' 228 (dO ω j) = x (dO ω j) := fun υ' x h1 h2 h3 j j0 j1 => by
      by_cases y : j = i
      · rw [y]
        exact h3
      · rw [h1 j j0 (by omega), h2 j j0 (by omega)]
        exact V j j0 (by omega)
    have ne : ∀ j, 0 ≤ j → j < (i : Int) → dO ω j ≠ dO ω i := fun j a b x => by
      have := dO_inj R.2.1 a (by omega) (by omega) (by omega) x
      omega
    refine jwp_sound t_Model_print _ (b_Model_print_40 ?_)
    simp only [RW, true_and, and_true, and_self, true_or, or_true, Nat.reduceLeDiff, Nat.reduceEqDiff, Nat.reduceAdd, Int.reduceLE, Int.reduceLT, Int.reduceEq, Int.reduceNeg, Int.reduceNe, Nat.reduceSub, reduceIte, implies_true, gt_189, gr_189_11, gt_199, gr_189_45, gt_228]
    rw [F 189 (by omega) (by omega), d10, F 199 (by omega) (by omega), o1, w32_of (x := (i : Int) + 1) (by omega) (by omega)]
    refine ⟨fun x => absurd x (by omega), fun _ => ⟨by omega, by omega, ?_⟩⟩
    refine cN_p (c_Model_manyOf Rυ he) (by omega) ?_
    refine ⟨o3.1, by omega, fun m0 => ?_, fun m0 => ?_⟩
    · have hb : pgB ω e (dO ω i) = false := by
        unfold pgB
        rw [decide_eq_false (by omega), Bool.false_and]
      rw [pgT_0 hb] at IH
      exact IH q left _ L (fun c a b => by rw [ju_row b, F c a b]) (others _ _ (fun j a b => ju_ne2 (ne j a b)) (fun _ _ _ => rfl) (by rw [ju_self, pgT_no i (fun j a b => ne j a b)]))
    · have G : ∀ c, c ≠ 228 → ju υ 228 (dO ω i) (-1) c = υ c := fun c hc => ju_row hc
      have Rτ := R.of (τ := ju υ 228 (dO ω i) (-1)) (fun c h => by rw [G c (by omega), F c (by omega) (by omega)])
      refine cN_w (c_Model_isStop Rτ (fun x a b => by rw [G 200 (by omega), F 200 (by omega) (by omega)]; exact hal x a b) U o3.1 o3.2) (by omega) (fun z ξ hz => ?_)
      obtain ⟨rfl, F2⟩ := hz
      have Fξ : ∀ c, c ≠ 201 → c ≠ 228 → ξ c = σ c := fun c a b => by rw [F2 c a, G c b, F c a b]
      have e228 : ξ 228 = ju υ 228 (dO ω i) (-1) 228 := F2 228 (by omega)
      cases hs : stopB ω (dF ω (dO ω i)) with
      | true =>
        have hb : pgB ω e (dO ω i) = false := by
          unfold pgB
          rw [hs, Bool.not_true, Bool.and_false]
        rw [pgT_0 hb] at IH
        refine ⟨fun x => absurd x (by decide), fun _ => IH q left _ L Fξ (others _ _ (fun j a b => by rw [e228, ju_ne2 (ne j a b)]) (fun _ _ _ => rfl) (by rw [e228, ju_self, pgT_no i (fun j a b => ne j a b)]))⟩
      | false =>
        have hb : pgB ω e (dO ω i) = true := by
          unfold pgB
          rw [hs, Bool.not_false, Bool.and_true, decide_eq_true (by omega)]
        rw [pgT_1 hb] at IH
        refine ⟨fun _ => ?_, fun x => absurd rfl x⟩
        rw [w32_of (x := cq _ _ _ + 5) (by omega) (by omega), Int.tdiv_eq_ediv_of_nonneg (by omega), w32_of (x := (cq _ _ _ + 5) / 6) (by omega) (by omega), w32_of (x := 1 + (cq _ _ _ + 5) / 6) (by omega) (by omega), w32_of (x := q + 1) (by omega) (by omega), show 1 + (cq (dw ω e) (wW ω e).1.toNat (dO ω i) + 5) / 6 = pgK ω e (dO ω i) from rfl]
        have go : ∀ x left' : Int, x = ppos n (pgT ω e n i).1 (pgK ω e (dO ω i)) / n → ppos n (pgT ω e n i).1 (pgK ω e (dO ω i)) = (x + 1) * n - left' → 1 ≤ left' → left' ≤ n → -1 ≤ x → x ≤ q + 1 → Ev (l, (fun _ => 0), 0) d 0 0 m_Model_print (RW fun z τ => z = ((pgS ω e n).1 + n - 1) / n ∧ (∀ c, c ≠ 201 → c ≠ 228 → τ c = σ c) ∧ ∀ f, 0 ≤ f → f < dn ω → τ 228 f = (pgS ω e n).2 f) 130 [some (vR 189), some (vI e), some (vI n), some (vI x), some (vI left'), some (vI i), none, none, some (vI (pgK ω e (dO ω i)))] [] gW (ju ξ 228 (dO ω i) x) 0 0 := fun x left' hx hp a b c c2 => by
          refine l_mp_130 (r := ppos n (pgT ω e n i).1 (pgK ω e (dO ω i)) + pgK ω e (dO ω i)) hd hn ⟨by omega, by omega⟩ (fun q' left2 L2 => ?_) 60 _ left' x (by omega) kr.1 a b c (by omega) (by omega)
          refine IH q' left2 _ L2 (fun c a b => by rw [ju_row b, Fξ c a b]) (others _ _ (fun j a b => by rw [ju_ne2 (ne j a b), e228, ju_ne2 (ne j a b)]) (fun j a b => up_ne (ne j a b)) ?_)
          rw [ju_self]
          show x = up _ _ _ (dO ω i)
          rw [up_self, hx]
        have pp : ∀ v, v = ppos n (pgT ω e n i).1 (pgK ω e (dO ω i)) → (v = (pgT ω e n i).1 ∨ v = (pgT ω e n i).1 + left) := fun v hv => by
          rw [hv]
          unfold ppos
          rw [pm.1]
          by_cases y : left = 0
          · rw [if_pos y]
            exact Or.inl (if_neg (by omega))
          · rw [if_neg y]
            split
            · exact Or.inr (by omega)
            · exact Or.inl rfl
        refine ⟨fun x => ⟨o3.1, by omega, ?_⟩, fun x => ⟨fun y => absurd y (by omega), fun _ => ⟨o3.1, by omega, ?_⟩⟩⟩
        · have ep : ppos n (pgT ω e n i).1 (pgK ω e (dO ω i)) = (pgT ω e n i).1 := by
            unfold ppos
            rw [pm.1, if_neg (by omega : ¬ left = 0), if_neg (by omega)]
          refine go q left ?_ ?_ (by omega) (by omega) g4 (by omega)
          · rw [ep, pm.2, if_neg (by omega)]
          · rw [ep]
            exact g1
        · have ep : ppos n (pgT ω e n i).1 (pgK ω e (dO ω i)) = (q + 1) * n := by
            unfold ppos
            rw [pm.1]
            by_cases y : left = 0
            · rw [if_pos y, if_neg (by omega), g1, y, Int.sub_zero]
            · rw [if_neg y, if_pos (by omega)]
              omega
          refine go (q + 1) n ?_ ?_ (by omega) (by omega) (by omega) (by omega)
          · rw [ep, Int.mul_ediv_cancel _ (by omega)]
          · rw [ep, Int.add_mul (q + 1), Int.one_mul]
            omega
theorem c_Model_print (R : RFR σ ω) (hal : ALP σ) (U : RLO ω) (e n : Int) : Cw 14 m_Model_print [vR 189, vI e, vI n] σ (fun z τ => PRQ σ τ ω e n z) := by
  have no : ¬ ((0 ≤ e ∧ e ≤ 1) ∧ 5 ≤ n ∧ n ≤ 100) → PRQ σ σ ω e n (-2) := fun x => ⟨(if_neg x).symm, fun _ => rfl, fun y => absurd y x⟩
  have d10 := R.2.2.2.2.1
  have d680 := R.2.2.1
  have d0 : 0 ≤ dn ω := R.2.1.1
  refine Cw_of o_Model_print rfl fun l d hd => jwp_sound t_Model_print _ (b_Model_print_0 ?_)
  simp only [RW, true_and, and_true, and_self, true_or, or_true, Nat.reduceLeDiff, Nat.reduceEqDiff, Nat.reduceAdd, Int.reduceLE, Int.reduceLT, Int.reduceEq, Int.reduceNeg, Int.reduceNe, Nat.reduceSub, reduceIte, implies_true, gt_189, gr_189_11, gt_199, gr_189_45, gt_228]
  refine cN_p (c_Model_isEdition _ _) (by omega) ?_
  by_cases he : 0 ≤ e ∧ e ≤ 1
  · rw [if_pos he]
    refine ⟨fun x => absurd x (by omega), fun _ => ?_⟩
    refine cN_p (c_Model_in _ _ _ _) (by omega) ?_
    by_cases hn : 5 ≤ n ∧ n ≤ 100
    · rw [if_pos hn, d10]
      refine ⟨fun _ => ?_, fun x => absurd x (by omega)⟩
      have r : ∀ c, c ≠ 189 → ju σ 189 46 (dn ω) c = σ c := fun c hc => ju_row hc
      have R1 : RFR (ju σ 189 46 (dn ω)) ω := R.of2 (fun c a b => r c (by omega)) (ju_ne2 (by omega))
      have go := l_mp_40 (l := l) hd R1 (fun x a b => by rw [r 200 (by omega)]; exact hal x a b) U he hn (dn ω).toNat 0 (-1) 0 (ju σ 189 46 (dn ω)) (by omega) ⟨by show (0 : Int) = (-1 + 1) * n - 0; rw [show (-1 : Int) + 1 = 0 by omega, Int.zero_mul]; rfl, by omega, by omega, by omega⟩ (fun _ _ _ => rfl) (fun j a b => by omega)
      refine Ev_post go (fun z υ hz => ?_)
      obtain ⟨h1, h2, h3⟩ := hz
      have e189 : υ 189 = ju σ 189 46 (dn ω) 189 := h2 189 (by omega) (by omega)
      refine ⟨by rw [h1]; exact (if_pos ⟨he, hn⟩).symm, fun x => absurd ⟨he, hn⟩ x, fun _ => ⟨⟨by rw [e189, ju_self], by omega, h3, fun f hf => ?_⟩, fun c a b b2 => by rw [h2 c b b2, r c a], fun j hj => by rw [e189, ju_ne2 hj]⟩⟩
      refine pgT_no _ (fun j a b x => ?_)
      have o3 : 0 ≤ dO ω j ∧ dO ω j < dn ω := R.2.1.2.2.2.2.1 j a (show j < dn ω by omega)
      omega
    · rw [if_neg hn]
      exact ⟨fun x => absurd rfl x, fun _ => no (fun x => hn x.2)⟩
  · rw [if_neg he]
    exact ⟨fun _ => no (fun x => he x.1), fun x => absurd rfl x⟩
theorem c_Model_page {pg : Int → Int} {N : Int} (P : PGQ σ pg N) (hN : N ≤ 600) (f : Int) : Cw 11 m_Model_page [vR 189, vI f] σ (fun z τ => z = s_page pg f ∧ τ = σ) := by
  obtain ⟨p1, p2, p3, p4⟩ := P
  refine Cw_of o_Model_page rfl fun l d hd => jwp_sound t_Model_page _ (b_Model_page_0 ?_)
  simp only [RW, true_and, and_true, and_self, true_or, or_true, Nat.reduceLeDiff, Nat.reduceEqDiff, Nat.reduceAdd, Int.reduceLE, Int.reduceLT, Int.reduceEq, Int.reduceNeg, Int.reduceNe, Nat.reduceSub, reduceIte, implies_true, gt_189, gr_189_45, gt_228]
  rw [p1, w32_of (x := N - 1) (by omega) (by omega)]
  refine cN_p (c_Model_in _ _ _ _) (by omega) ?_
  unfold s_page
  by_cases q : 0 ≤ f ∧ f ≤ N - 1
  · rw [if_pos q, if_pos ⟨q.1, by omega⟩]
    refine ⟨fun x => absurd x (by omega), fun _ => ?_⟩
    repeat (refine And.intro (by omega) ?_)
    exact ⟨p3 f q.1 (by omega), rfl⟩
  · rw [if_neg q]
    refine ⟨fun _ => ⟨?_, rfl⟩, fun x => absurd rfl x⟩
    by_cases y : 0 ≤ f ∧ f < 600
    · rw [if_pos y, p4 f (by omega)]
    · rw [if_neg y]
end PM
