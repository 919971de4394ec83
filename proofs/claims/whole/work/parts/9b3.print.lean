/-! Pages: the rows, the class -/
/-- where a form's rows begin -/
def ppos (n r k : Int) : Int := if 0 < r % n ∧ n < r % n + k then r + (n - r % n) else r
noncomputable def pgK (ω : Int → Int) (e f : Int) : Int := 1 + (cq (dw ω e) (wW ω e).1.toNat f + 5) / 6
noncomputable def pgB (ω : Int → Int) (e f : Int) : Bool := decide (0 < cq (dw ω e) (wW ω e).1.toNat f) && !stopB ω (dF ω f)
noncomputable def pgT (ω : Int → Int) (e n : Int) : Nat → Int × (Int → Int)
  | 0 => (0, fun _ => -1)
  | i + 1 => if pgB ω e (dO ω i) = true then (ppos n (pgT ω e n i).1 (pgK ω e (dO ω i)) + pgK ω e (dO ω i), up (pgT ω e n i).2 (dO ω i) (ppos n (pgT ω e n i).1 (pgK ω e (dO ω i)) / n)) else pgT ω e n i
theorem pgT_1 {ω : Int → Int} {e n : Int} {i : Nat} (h : pgB ω e (dO ω i) = true) : pgT ω e n (i + 1) = (ppos n (pgT ω e n i).1 (pgK ω e (dO ω i)) + pgK ω e (dO ω i), up (pgT ω e n i).2 (dO ω i) (ppos n (pgT ω e n i).1 (pgK ω e (dO ω i)) / n)) := if_pos h
theorem pgT_0 {ω : Int → Int} {e n : Int} {i : Nat} (h : pgB ω e (dO ω i) = false) : pgT ω e n (i + 1) = pgT ω e n i := if_neg (by rw [h]; exact Bool.false_ne_true)
theorem pgK_r {ω : Int → Int} (W : OKW ω) {e : Int} (he : 0 ≤ e ∧ e ≤ 1) (f : Int) : 1 ≤ pgK ω e f ∧ pgK ω e f ≤ 60 := by
  have w := W.n he
  have := cq_r (dw ω e) f (wW ω e).1.toNat
  unfold pgK
  omega
theorem ppos_r {n r k : Int} (hn : 5 ≤ n ∧ n ≤ 100) : r ≤ ppos n r k ∧ ppos n r k ≤ r + 100 := by
  have a := Int.emod_nonneg r (show n ≠ 0 by omega)
  have b := Int.emod_lt_of_pos r (show 0 < n by omega)
  unfold ppos
  split <;> omega
theorem pgT_r {ω : Int → Int} (W : OKW ω) {e n : Int} (he : 0 ≤ e ∧ e ≤ 1) (hn : 5 ≤ n ∧ n ≤ 100) : ∀ i : Nat, 0 ≤ (pgT ω e n i).1 ∧ (pgT ω e n i).1 ≤ 200 * i
  | 0 => ⟨Int.le_refl _, Int.le_refl _⟩
  | i + 1 => by
    have IH := pgT_r W he hn i
    cases h : pgB ω e (dO ω i) with
    | true =>
      rw [pgT_1 h]
      have a := pgK_r W he (dO ω i)
      have b := ppos_r (r := (pgT ω e n i).1) (k := pgK ω e (dO ω i)) hn
      show 0 ≤ ppos n (pgT ω e n i).1 (pgK ω e (dO ω i)) + pgK ω e (dO ω i) ∧ ppos n (pgT ω e n i).1 (pgK ω e (dO ω i)) + pgK ω e (dO ω i) ≤ _
      omega
    | false =>
      rw [pgT_0 h]
      omega
noncomputable def pgS (ω : Int → Int) (e n : Int) : Int × (Int → Int) := pgT ω e n (dn ω).toNat
noncomputable def s_print (ω : Int → Int) (e n : Int) : Int := if (0 ≤ e ∧ e ≤ 1) ∧ 5 ≤ n ∧ n ≤ 100 then ((pgS ω e n).1 + n - 1) / n else -2
/-- pages that stand: of so many forms, all behind have none -/
def PGC (σ : jH) (pg : Int → Int) : Prop := ∀ f, 0 ≤ f → f < 600 → σ 183 f = pg f
def PRP (σ τ : jH) (ω : Int → Int) (e n z : Int) : Prop := z = s_print ω e n ∧ (¬ ((0 ≤ e ∧ e ≤ 1) ∧ 5 ≤ n ∧ n ≤ 100) → τ = σ) ∧ ((0 ≤ e ∧ e ≤ 1) ∧ 5 ≤ n ∧ n ≤ 100 → PGC τ (pgS ω e n).2 ∧ dn ω ≤ 600 ∧ CFR τ ω ∧ ∀ c, (c < 97 ∨ 134 < c) → c ≠ 183 → τ c = σ c)
section PR
variable {l : Launch} {d : Nat} {ω : Int → Int} {σ : jH} {e n : Int}
theorem c_rowsOf (H : CDR σ ω) (W : OKW ω) (U : RLO ω) (S : RLS σ 4 ω) (he : 0 ≤ e ∧ e ≤ 1) {f : Int} (f0 : 0 ≤ f) (f1 : f < dn ω) : Cw 12 m_WordPlaces_rowsOf [vR 1, vR (wb e), vI f] σ (fun z τ => z = (if pgB ω e f = true then pgK ω e f else 0) ∧ τ = σ) := by
  have hW := wb_i he
  have N := H.n
  have w := W.n he
  have T := H.W he
  have e8 := T.2.2.1 f f0 (by omega)
  have cr := cq_r (dw ω e) f (wW ω e).1.toNat
  obtain ⟨⟨v1, v2⟩, _, _⟩ := H.2.2.2.1 f f0 f1
  rw [show (98 : Int) + 1 = 99 by omega] at v1
  rw [show (98 : Int) + 2 = 100 by omega] at v2
  refine Cw_of o_WordPlaces_rowsOf rfl fun l d hd => jwp_sound t_WordPlaces_rowsOf _ (b_WordPlaces_rowsOf_0 ?_)
  simp only [RW, true_and, and_true, and_self, true_or, or_true, Nat.reduceLeDiff, Nat.reduceEqDiff, Nat.reduceAdd, Int.reduceLE, Int.reduceLT, Int.reduceEq, Int.reduceNeg, Int.reduceNe, Nat.reduceSub, reduceIte, implies_true, gt_1, gr_1_2, gt_3, gr_1_5, gt_97, gr_97_2, gt_98, gr_98_0, gt_99, gr_98_1, gt_100, gr_3_0, gt_4, wd_t hW, wd_r1 hW, wd_t1 hW, wd_r2 hW, wd_t2 hW, wd_r3 hW, wd_t3 hW, wd_r4 hW, wd_t4 hW, wd_r5 hW, wd_t5 hW, wd_r6 hW, wd_t6 hW, wd_r7 hW, wd_t7 hW, wd_r8 hW, wd_t8 hW, wd_r10 hW, wd_t10 hW, wd_r11 hW, wd_t11 hW, wd_r12 hW, wd_t12 hW, wd_r13 hW, wd_t13 hW, gt_97, gr_97_2, gr_97_3, gr_97_4, gr_97_5, gr_97_6, gt_98, gr_98_0, gr_98_1, gt_99, gt_100]
  refine cN_p (c_Book_has N.2.2 N.2.1 f) (by omega) ?_
  rw [if_pos (show 0 ≤ f ∧ f < dn ω from ⟨f0, f1⟩), e8, v1, v2]
  refine ⟨fun x => by omega, fun _ => ⟨f0, by omega, fun q => ?_, fun q => ⟨f0, by omega, f0, by omega, ?_⟩⟩⟩
  · have hb : pgB ω e f = false := by
      unfold pgB
      rw [decide_eq_false (by omega), Bool.false_and]
    rw [hb, if_neg Bool.false_ne_true]
    exact ⟨rfl, rfl⟩
  · refine cN_p (c_isStop (dF ω f) (isImage_r i3) U S) (by omega) ?_
    cases hs : stopB ω (dF ω f) with
    | true =>
      have hb : pgB ω e f = false := by
        unfold pgB
        rw [hs, Bool.not_true, Bool.and_false]
      rw [hb, if_neg Bool.false_ne_true]
      exact ⟨fun x => absurd x (by decide), fun _ => ⟨rfl, rfl⟩⟩
    | false =>
      have hb : pgB ω e f = true := by
        unfold pgB
        rw [hs, Bool.not_false, Bool.and_true, decide_eq_true q]
      rw [hb, if_pos rfl]
      refine ⟨fun _ => ?_, fun x => absurd rfl x⟩
      repeat (refine And.intro (by omega) ?_)
      refine ⟨?_, rfl⟩
      rw [e8, w32_of (x := cq _ _ _ + 6) (by omega) (by omega), w32_of (x := cq _ _ _ + 6 - 1) (by omega) (by omega), Int.tdiv_eq_ediv_of_nonneg (by omega), w32_of (x := (cq _ _ _ + 6 - 1) / 6) (by omega) (by omega), w32_of (x := 1 + (cq _ _ _ + 6 - 1) / 6) (by omega) (by omega)]
      unfold pgK
      omega
theorem l_pr_41 (hd : 16 ≤ d) (H : CDR σ ω) (W : OKW ω) (U : RLO ω) (S : RLS σ 4 ω) (he : 0 ≤ e ∧ e ≤ 1) (hn : 5 ≤ n ∧ n ≤ 100) : ∀ (k i : Nat) (υ : jH), (i : Int) + k = dn ω → (∀ c, c ≠ 183 → υ c = σ c) → PGC υ (pgT ω e n i).2 →
    Ev (l, (fun _ => 0), 0) d 0 0 m_WordPlaces_print (RW fun z τ => z = ((pgS ω e n).1 + n - 1) / n ∧ PGC τ (pgS ω e n).2 ∧ ∀ c, c ≠ 183 → τ c = σ c) 41 [some (vR 1), none, some (vI n), some (vR (wb e)), some (vI (pgT ω e n i).1), some (vI i), none, none, none] [] gW υ 0 0
  | 0, i, υ, hk, F, P => by
    have N := H.n
    have r := pgT_r W he hn i
    refine jwp_sound t_WordPlaces_print _ (b_WordPlaces_print_41 ?_)
    simp only [RW, true_and, and_true, and_self, true_or, or_true, Nat.reduceLeDiff, Nat.reduceEqDiff, Nat.reduceAdd, Int.reduceLE, Int.reduceLT, Int.reduceEq, Int.reduceNeg, Int.reduceNe, Nat.reduceSub, reduceIte, implies_true, gt_1, gr_1_18, gt_183, gr_1_5, gt_97, gr_97_3, gt_101]
    rw [F 97 (by omega), N.2.2, w32_of (x := (pgT ω e n i).1 + n) (by omega) (by omega), w32_of (x := (pgT ω e n i).1 + n - 1) (by omega) (by omega), Int.tdiv_eq_ediv_of_nonneg (by omega)]
    have q0 : 0 ≤ ((pgT ω e n i).1 + n - 1) / n := Int.ediv_nonneg (by omega) (by omega)
    have q1 : ((pgT ω e n i).1 + n - 1) / n ≤ (pgT ω e n i).1 + n - 1 := Int.ediv_le_self _ (by omega)
    rw [w32_of (x := _ / n) (by omega) (by omega)]
    unfold pgS
    rw [show (dn ω).toNat = i by omega]
    exact ⟨fun _ => ⟨by omega, rfl, P, F⟩, fun q => absurd q (by omega)⟩
  | k + 1, i, υ, hk, F, P => by
    have hW := wb_i he
    have N := H.n
    have w := W.n he
    have T := H.W he
    have r := pgT_r W he hn i
    have o1 := H.2.2.2.2.2 i (by omega) (by omega)
    have o2 := H.1.2.2.2.2.1 i (by omega) (show (i : Int) < dn ω by omega)
    have o3 : 0 ≤ dO ω i ∧ dO ω i < dn ω := o2
    have e8 := T.2.2.1 (dO ω i) o3.1 (by omega)
    have wbr : wb e = 105 ∨ wb e = 120 := by
      unfold wb
      omega
    have cr := cq_r (dw ω e) (dO ω i) (wW ω e).1.toNat
    have kr := pgK_r W he (dO ω i)
    obtain ⟨⟨v1, v2⟩, _, _⟩ := H.2.2.2.1 (dO ω i) o3.1 o3.2
    rw [show (98 : Int) + 1 = 99 by omega] at v1
    rw [show (98 : Int) + 2 = 100 by omega] at v2
    have IH := fun υ F P => l_pr_41 hd H W U S he hn k (i + 1) υ (by omega) F P
    rw [show ((i + 1 : Nat) : Int) = (i : Int) + 1 by omega] at IH
    have a := Int.emod_nonneg (pgT ω e n i).1 (show n ≠ 0 by omega)
    have b := Int.emod_lt_of_pos (pgT ω e n i).1 (show 0 < n by omega)
    have Hυ : CDR υ ω := CDR_eq (fun c a b => F c (by omega)) H
    refine jwp_sound t_WordPlaces_print _ (b_WordPlaces_print_41 ?_)
    simp only [RW, true_and, and_true, and_self, true_or, or_true, Nat.reduceLeDiff, Nat.reduceEqDiff, Nat.reduceAdd, Int.reduceLE, Int.reduceLT, Int.reduceEq, Int.reduceNeg, Int.reduceNe, Nat.reduceSub, reduceIte, implies_true, gt_1, gr_1_18, gt_183, gr_1_5, gt_97, gr_97_3, gt_101, wd_t hW, wd_r1 hW, wd_t1 hW, wd_r2 hW, wd_t2 hW, wd_r3 hW, wd_t3 hW, wd_r4 hW, wd_t4 hW, wd_r5 hW, wd_t5 hW, wd_r6 hW, wd_t6 hW, wd_r7 hW, wd_t7 hW, wd_r8 hW, wd_t8 hW, wd_r10 hW, wd_t10 hW, wd_r11 hW, wd_t11 hW, wd_r12 hW, wd_t12 hW, wd_r13 hW, wd_t13 hW, gt_98, gr_98_0, gr_98_1, gt_99, gt_100, gt_101]
    rw [F 97 (by omega), N.2.2, F 101 (by omega), o1, w32_of (x := (i : Int) + 1) (by omega) (by omega)]
    refine ⟨fun q => absurd q (by omega), fun _ => ⟨fun q => absurd q (by omega), fun _ => ⟨by omega, by omega, ?_⟩⟩⟩
    refine cN_p (c_rowsOf Hυ W U (RLS_eq S (fun c x y => F c (by omega))) he o3.1 o3.2) (by omega) ?_
    cases hb : pgB ω e (dO ω i) with
    | false =>
      rw [if_neg Bool.false_ne_true]
      rw [pgT_0 hb] at IH
      exact ⟨fun _ => IH υ F P, fun x => absurd x (by omega)⟩
    | true =>
      rw [if_pos rfl]
      rw [pgT_1 hb] at IH
      refine ⟨fun x => absurd x (by omega), fun _ => ?_⟩
      refine cN_p (c_Book_has Hυ.n.2.2 Hυ.n.2.1 (dO ω i)) (by omega) ?_
      rw [if_pos (show 0 ≤ dO ω i ∧ dO ω i < dn ω from o3)]
      refine ⟨fun x => by omega, fun _ => ⟨by omega, ?_⟩⟩
      rw [Int.tmod_eq_emod_of_nonneg r.1, w32_of (x := (pgT ω e n i).1 % n + pgK ω e (dO ω i)) (by omega) (by omega), w32_of (x := n - (pgT ω e n i).1 % n) (by omega) (by omega), w32_of (x := (pgT ω e n i).1 + (n - (pgT ω e n i).1 % n)) (by omega) (by omega)]
      have pr := ppos_r (r := (pgT ω e n i).1) (k := pgK ω e (dO ω i)) hn
      have q0 : 0 ≤ ppos n (pgT ω e n i).1 (pgK ω e (dO ω i)) / n := Int.ediv_nonneg (by omega) (by omega)
      have q1 : ppos n (pgT ω e n i).1 (pgK ω e (dO ω i)) / n ≤ ppos n (pgT ω e n i).1 (pgK ω e (dO ω i)) := Int.ediv_le_self _ (by omega)
      have go : ∀ x, x = ppos n (pgT ω e n i).1 (pgK ω e (dO ω i)) → Ev (l, (fun _ => 0), 0) d 0 0 m_WordPlaces_print (RW fun z τ => z = ((pgS ω e n).1 + n - 1) / n ∧ PGC τ (pgS ω e n).2 ∧ ∀ c, c ≠ 183 → τ c = σ c) 128 [some (vR 1), none, some (vI n), some (vR (wb e)), some (vI x), some (vI i), some (vI (dO ω i)), some (vI (pgK ω e (dO ω i))), none] [] gW υ 0 0 := fun x hx => by
        subst hx
        refine jwp_sound t_WordPlaces_print _ (b_WordPlaces_print_128 ?_)
        simp only [RW, true_and, and_true, and_self, true_or, or_true, Nat.reduceLeDiff, Nat.reduceEqDiff, Nat.reduceAdd, Int.reduceLE, Int.reduceLT, Int.reduceEq, Int.reduceNeg, Int.reduceNe, Nat.reduceSub, reduceIte, implies_true, gt_1, gr_1_18, gt_183, gr_1_5, gt_97, gr_97_3, gt_101]
        rw [w32_of (x := (i : Int) + 1) (by omega) (by omega), Int.tdiv_eq_ediv_of_nonneg (by omega), w32_of (x := _ / n) (by omega) (by omega), w32_of (x := _ + pgK ω e (dO ω i)) (by omega) (by omega)]
        refine ⟨by omega, o3.1, by omega, IH _ (fun c hc => by rw [ju_row hc, F c hc]) (fun f f0 f1 => ?_)⟩
        show _ = up _ _ _ f
        by_cases y : f = dO ω i
        · rw [y, ju_self, up_self]
        · rw [ju_ne2 y, up_ne y]
          exact P f f0 f1
      refine ⟨fun x => go _ ?_, fun x => ⟨fun y => go _ ?_, fun y => go _ ?_⟩⟩
      · unfold ppos
        rw [if_neg (by omega)]
      · unfold ppos
        rw [if_neg (by omega)]
      · unfold ppos
        rw [if_pos ⟨x, y⟩]
theorem c_print (C : CFR σ ω) (U : RLO ω) (S : RLS σ 4 ω) (e n : Int) : Cw 16 m_WordPlaces_print [vR 1, vI e, vI n] σ (fun z τ => PRP σ τ ω e n z) := by
  have no : ¬ ((0 ≤ e ∧ e ≤ 1) ∧ 5 ≤ n ∧ n ≤ 100) → PRP σ σ ω e n (-2) := fun x => ⟨(if_neg x).symm, fun _ => rfl, fun y => absurd y x⟩
  refine Cw_of o_WordPlaces_print rfl fun l d hd => jwp_sound t_WordPlaces_print _ (b_WordPlaces_print_0 ?_)
  simp only [RW, true_and, and_true, and_self, true_or, or_true, Nat.reduceLeDiff, Nat.reduceEqDiff, Nat.reduceAdd, Int.reduceLE, Int.reduceLT, Int.reduceEq, Int.reduceNeg, Int.reduceNe, Nat.reduceSub, reduceIte, implies_true, gt_1, gr_1_18, gt_183, gr_1_5, gt_97, gr_97_3, gt_101]
  refine cN_p (c_isEdition _ _) (by omega) ?_
  by_cases he : 0 ≤ e ∧ e ≤ 1
  · rw [if_pos he]
    refine ⟨fun x => absurd x (by omega), fun _ => ⟨fun q => no (by omega), fun q => ⟨fun q2 => ?_, fun q2 => no (by omega)⟩⟩⟩
    have ok : (0 ≤ e ∧ e ≤ 1) ∧ 5 ≤ n ∧ n ≤ 100 := ⟨he, q, q2⟩
    refine cN_w (c_freshWords C he) (by omega) (fun z τ h => ?_)
    obtain ⟨rfl, h⟩ := h
    have C2 := C.of h.1
    refine cN_v (c_Arrays_fill (n := 600) (-1) _ gt_183 (by omega) (by omega)) (by omega) (fun _ => ?_)
    have r : ∀ c, c ≠ 183 → jfill τ 183 0 600 (-1) c = τ c := fun c hc => jfill_row hc
    have H2 : CDR (jfill τ 183 0 600 (-1)) ω := CDR_eq (fun c a b => r c (by omega)) h.2.2
    have d0 := h.2.2.n.1
    have go := l_pr_41 (l := l) hd H2 C.1 U (RLS_eq S (fun c a b => by rw [r c (by omega), h.1.1 c (by omega)])) he ⟨q, q2⟩ (dn ω).toNat 0 (jfill τ 183 0 600 (-1)) (by omega) (fun _ _ => rfl) (fun f a b => jfill_in a b)
    refine Ev_post go (fun z υ hz => ?_)
    obtain ⟨h1, h2, h3⟩ := hz
    have g : ∀ c, c ≠ 183 → υ c = τ c := fun c hc => by rw [h3 c hc, r c hc]
    refine ⟨by rw [h1]; exact (if_pos ok).symm, fun x => absurd ok x, fun _ => ⟨h2, h.2.2.n.2.1, ⟨C.1, IML_eq (fun c a b => g c (by omega)) C2.2.1, fun _ => CDR_eq (fun c a b => g c (by omega)) h.2.2⟩, fun c a b => by rw [g c b, h.1.1 c a]⟩⟩
  · rw [if_neg he]
    exact ⟨fun _ => no (fun x => he x.1), fun x => absurd rfl x⟩
def s_page (pg : Int → Int) (f : Int) : Int := if 0 ≤ f ∧ f < 600 then pg f else -1
theorem c_page {pg : Int → Int} (P : PGC σ pg) (f : Int) : Cw 10 m_WordPlaces_page [vR 1, vI f] σ (fun z τ => z = s_page pg f ∧ τ = σ) := by
  refine Cw_of o_WordPlaces_page rfl fun l d hd => jwp_sound t_WordPlaces_page _ (b_WordPlaces_page_0 ?_)
  simp only [RW, true_and, and_true, and_self, true_or, or_true, Nat.reduceLeDiff, Nat.reduceEqDiff, Nat.reduceAdd, Int.reduceLE, Int.reduceLT, Int.reduceEq, Int.reduceNeg, Int.reduceNe, Nat.reduceSub, reduceIte, implies_true, gt_1, gr_1_18, gt_183]
  unfold s_page
  refine ⟨fun q => by rw [if_neg (by omega)], fun q => ⟨fun q2 => by rw [if_neg (by omega)], fun q2 => ?_⟩⟩
  rw [if_pos ⟨q, q2⟩]
  repeat (refine And.intro (by omega) ?_)
  exact P f q q2
end PR
