/-! Ranks: the class's rank and ranked -/
def RKC (σ : jH) (N : Int) (f g : Int → Int) : Prop := σ 1 15 = N ∧ (0 ≤ N ∧ N ≤ 40) ∧ ∀ i, 0 ≤ i → i < N → σ 181 i = f i ∧ σ 182 i = g i
noncomputable def rkW (ω : Int → Int) (e n : Int) (t : Int → Int) : rkT := rks (wth ω e (askA ω t n)) (ω (3 + e)).toNat
def RNP (σ τ : jH) (ω : Int → Int) (e n : Int) (t : Int → Int) (z : Int) : Prop := ((0 ≤ e ∧ e ≤ 1) ∧ z = (rkW ω e n t).1 ∧ RKC τ z (rkW ω e n t).2.1 (rkW ω e n t).2.2 ∧ CFR τ ω ∧ (∀ c, (c < 97 ∨ 134 < c) → c ≠ 1 → c ≠ 179 → c ≠ 181 → c ≠ 182 → τ c = σ c) ∧ τ 1 1 = 0 ∧ ∀ j, j ≠ 1 → j ≠ 15 → τ 1 j = σ 1 j) ∨ (¬ (0 ≤ e ∧ e ≤ 1) ∧ z = -2 ∧ τ = σ)
theorem ins_eq {f g : Int → Int} {s a v : Int} (h : ∀ j, 0 ≤ j → j < s → f j = g j) (a0 : 0 ≤ a) (a1 : a ≤ s) : ∀ j, 0 ≤ j → j < s + 1 → ins f s a v j = ins g s a v j := fun j j0 j1 => by
  unfold ins
  by_cases x : j < a
  · rw [if_pos x, if_pos x, h j j0 (by omega)]
  · rw [if_neg x, if_neg x]
    by_cases y : j = a
    · rw [if_pos y, if_pos y]
    · rw [if_neg y, if_neg y, if_pos (by omega), if_pos (by omega), h (j - 1) (by omega) (by omega)]
theorem ask1_in {ω : Int → Int} {A : Int → Bool} {K : Int} (h : ∀ f, A f = true → 0 ≤ f ∧ f < dn ω) : ∀ f, ask1 ω A K f = true → 0 ≤ f ∧ f < dn ω := fun f hf => by
  unfold ask1 at hf
  rw [Bool.or_eq_true, Bool.and_eq_true, decide_eq_true_eq] at hf
  exact hf.elim (h f) (fun x => x.1)
theorem jfill_row {σ : jH} {a lo hi v c : Int} (h : c ≠ a) : jfill σ a lo hi v c = σ c := by
  funext j
  unfold jfill
  rw [if_neg (fun x => h x.1)]
theorem jfill_in {σ : jH} {a lo hi v j : Int} (h0 : lo ≤ j) (h1 : j < hi) : jfill σ a lo hi v a j = v := if_pos ⟨rfl, h0, h1⟩
section RP
variable {l : Launch} {d : Nat} {ω t : Int → Int} {σ : jH} {e n : Int}
theorem c_clearWorths (he : 0 ≤ e ∧ e ≤ 1) (σ : jH) : Cw 11 m_Words_clearWorths [vR (wb e)] σ (fun _ τ => WTH σ τ ω e (fun _ => false)) := by
  have hW := wb_i he
  have wbr : wb e = 105 ∨ wb e = 120 := by
    unfold wb
    omega
  refine Cw_of o_Words_clearWorths rfl fun l d hd => jwp_sound t_Words_clearWorths _ (b_Words_clearWorths_0 ?_)
  simp only [RW, true_and, and_true, and_self, true_or, or_true, Nat.reduceLeDiff, Nat.reduceEqDiff, Nat.reduceAdd, Int.reduceLE, Int.reduceLT, Int.reduceEq, Int.reduceNeg, Int.reduceNe, Nat.reduceSub, reduceIte, implies_true, wd_t hW, wd_r1 hW, wd_t1 hW, wd_r2 hW, wd_t2 hW, wd_r3 hW, wd_t3 hW, wd_r4 hW, wd_t4 hW, wd_r5 hW, wd_t5 hW, wd_r6 hW, wd_t6 hW, wd_r7 hW, wd_t7 hW, wd_r8 hW, wd_t8 hW, wd_r10 hW, wd_t10 hW, wd_r11 hW, wd_t11 hW, wd_r12 hW, wd_t12 hW, wd_r13 hW, wd_t13 hW]
  refine cN_v (c_Arrays_fill (n := 40) 0 _ (by rcases wbr with h | h <;> rw [h]; exact gt_117; exact gt_132) (by omega) (by omega)) (by omega) (fun _ => ?_)
  refine cN_v (c_Arrays_fill2 (n := 600) 0 _ (by rcases wbr with h | h <;> rw [h]; exact gt_118; exact gt_133) (by omega) (by omega) (by decide)) (by omega) (fun _ => ?_)
  refine ⟨fun c a b _ => ?_, fun j a b => ?_, fun f a b => ?_, fun f h => by cases h⟩
  · rw [jfill_row b, jfill_row a]
  · rw [jfill_row (by omega), jfill_in a b]
    unfold wth
    rw [sq_eq (h := fun _ => 0) (fun k _ _ => by show (if false = true then _ else (0 : Int)) = 0; rw [if_neg Bool.false_ne_true])]
    generalize (dn ω).toNat = m
    induction m with
    | zero => rfl
    | succ m ih => rw [sq_s, ← ih]; rfl
  · rw [jfill_in a b]
    rfl
theorem cN_find {d : Nat} {K : Int} {Q : Int → jH → Prop} (H : CDR σ ω) (hK : 0 ≤ K ∧ K < 1267650600228229401496703205376) (hd : 11 < d) (hk : ∀ z, FND (dF ω) (dn ω) K z → Q z σ) : cN l d m_KeyRow_find [vR 98, vI (dn ω), vL (K / 1125899906842624), vL (K % 1125899906842624)] gW σ Q := by
  have N := H.n
  have kf : ∀ f, 0 ≤ f → f < dn ω → kk σ 98 f = dF ω f := fun f a b => KKV_kk (H.2.2.2.1 f a b).1
  refine cN_w (c_KeyRow_find kr_98 (by omega) (by omega) (dn ω) (K / 1125899906842624) (K % 1125899906842624) σ N.1 (by omega) (fun f f0 f1 => KKV_b (H.2.2.2.1 f f0 (by omega)).1) (fun f g f0 f1 f2 => by rw [kf f f0 (by omega), kf g (by omega) (by omega)]; exact H.1.2.1 f g f0 f1 (show g < dn ω by omega))) hd (fun z τ h => ?_)
  obtain ⟨h, rfl⟩ := h
  refine hk z ?_
  rw [show K / 1125899906842624 * 1125899906842624 + K % 1125899906842624 = K by omega, show min (dn ω) 600 = dn ω by omega] at h
  rcases h with ⟨a, b, c⟩ | ⟨a, b, c, c2⟩
  · exact Or.inl ⟨a, b, (kf z a b).symm.trans c⟩
  · exact Or.inr ⟨a, b, fun p x y => by rw [← kf p x (by omega)]; exact c p x y, fun p x y => by rw [← kf p (by omega) y]; exact c2 p x y⟩
theorem l_rk_38 {P : Int → jH → Prop} {υ : jH} {i : Int} (hd : 16 ≤ d) (T : ∀ j, 0 ≤ j → j < n → υ 2 j = t j) (hn : n ≤ 400) (i0 : 0 ≤ i) {b : Int} : ∀ (k : Nat) (x : Int), x + k = n → i ≤ x → (N : Ev (l, (fun _ => 0), 0) d 0 0 m_WordPlaces_rank (RW P) 61 [some (vR 1), some (vI e), some (vI n), some (vR b), some (vI (fsi (nlB t) k x)), some (vI i)] [] gW υ 0 0) →
    Ev (l, (fun _ => 0), 0) d 0 0 m_WordPlaces_rank (RW P) 38 [some (vR 1), some (vI e), some (vI n), some (vR b), some (vI x), some (vI i)] [] gW υ 0 0
  | 0, x, hx, ix, N => by
    refine jwp_sound t_WordPlaces_rank _ (b_WordPlaces_rank_38 ?_)
    exact ⟨fun _ => N, fun q => absurd q (by omega)⟩
  | k + 1, x, hx, ix, N => by
    refine jwp_sound t_WordPlaces_rank _ (b_WordPlaces_rank_38 ?_)
    simp only [RW, true_and, and_true, and_self, true_or, or_true, Nat.reduceLeDiff, Nat.reduceEqDiff, Nat.reduceAdd, Int.reduceLE, Int.reduceLT, Int.reduceEq, Int.reduceNeg, Int.reduceNe, Nat.reduceSub, reduceIte, implies_true, gt_1, gr_1_10, gt_179, gr_1_2, gt_3, gr_1_5, gt_97, gr_97_2, gt_98]
    rw [w32_of (x := x + 1) (by omega) (by omega)]
    refine ⟨fun q => absurd q (by omega), fun _ => ?_⟩
    refine cN_p (c_letterOn T hn (by omega) (by omega)) (by omega) ?_
    simp only [fsi] at N
    by_cases g : isL (t x)
    · rw [if_pos g]
      rw [nlB_f g, if_neg Bool.false_ne_true] at N
      exact ⟨fun y => absurd y (by omega), fun _ => l_rk_38 hd T hn i0 k (x + 1) (by omega) (by omega) N⟩
    · rw [if_neg g]
      rw [nlB_t g, if_pos rfl] at N
      exact ⟨fun _ => N, fun y => absurd rfl y⟩
theorem rend_r (t : Int → Int) {n i : Int} (h : i ≤ n) : i ≤ rend t n i ∧ rend t n i ≤ n := by
  have := fsi_r (P := nlB t) (n - i).toNat i
  unfold rend
  omega
theorem l_rk_28 {P : Int → jH → Prop} (hd : 16 ≤ d) (H : CDR σ ω) (W : OKW ω) (L : IML σ 3 ω) (T : ∀ j, 0 ≤ j → j < n → σ 2 j = t j) (hn : 0 ≤ n ∧ n ≤ 400) (he : 0 ≤ e ∧ e ≤ 1) : ∀ (k : Nat) (i : Int) (υ : jH) (A : Int → Bool), n ≤ i + k → 0 ≤ i → i ≤ n + 1 → WTH σ υ ω e A →
    (N : ∀ ξ, WTH σ ξ ω e ((runs t n k i).foldl (ask1 ω) A) → Ev (l, (fun _ => 0), 0) d 0 0 m_WordPlaces_rank (RW P) 125 [some (vR 1), some (vI e), none, some (vR (wb e)), some (vI 0), none] [] gW (ju ξ 1 15 0) 0 0) →
    Ev (l, (fun _ => 0), 0) d 0 0 m_WordPlaces_rank (RW P) 28 [some (vR 1), some (vI e), some (vI n), some (vR (wb e)), some (vI i), none] [] gW υ 0 0
  | 0, i, υ, A, hk, i0, i1, S, N => by
    refine jwp_sound t_WordPlaces_rank _ (b_WordPlaces_rank_28 ?_)
    simp only [RW, true_and, and_true, and_self, true_or, or_true, Nat.reduceLeDiff, Nat.reduceEqDiff, Nat.reduceAdd, Int.reduceLE, Int.reduceLT, Int.reduceEq, Int.reduceNeg, Int.reduceNe, Nat.reduceSub, reduceIte, implies_true, gt_1, gr_1_10, gt_179, gr_1_2, gt_3, gr_1_5, gt_97, gr_97_2, gt_98]
    exact ⟨fun _ => N υ S, fun q => absurd q (by omega)⟩
  | k + 1, i, υ, A, hk, i0, i1, S, N => by
    have hW := wb_i he
    have wbr : wb e = 105 ∨ wb e = 120 := by
      unfold wb
      omega
    simp only [runs] at N
    refine jwp_sound t_WordPlaces_rank _ (b_WordPlaces_rank_28 ?_)
    simp only [RW, true_and, and_true, and_self, true_or, or_true, Nat.reduceLeDiff, Nat.reduceEqDiff, Nat.reduceAdd, Int.reduceLE, Int.reduceLT, Int.reduceEq, Int.reduceNeg, Int.reduceNe, Nat.reduceSub, reduceIte, implies_true, gt_1, gr_1_10, gt_179, gr_1_2, gt_3, gr_1_5, gt_97, gr_97_2, gt_98]
    by_cases q : n ≤ i
    · rw [if_pos q] at N
      exact ⟨fun _ => N υ S, fun x => absurd x (by omega)⟩
    · rw [if_neg q] at N
      refine ⟨fun x => absurd x q, fun _ => ?_⟩
      have S1 := S.1
      have rr := rend_r t (n := n) (i := i) (by omega)
      refine l_rk_38 (t := t) hd (fun j a b => by rw [S1 2 (by omega) (by omega) (by omega)]; exact T j a b) hn.2 i0 (n - i).toNat i (by omega) (Int.le_refl _) ?_
      show Ev (l, (fun _ => 0), 0) d 0 0 m_WordPlaces_rank (RW P) 61 [some (vR 1), some (vI e), some (vI n), some (vR (wb e)), some (vI (rend t n i)), some (vI i)] [] gW υ 0 0
      refine jwp_sound t_WordPlaces_rank _ (b_WordPlaces_rank_61 ?_)
      simp only [RW, true_and, and_true, and_self, true_or, or_true, Nat.reduceLeDiff, Nat.reduceEqDiff, Nat.reduceAdd, Int.reduceLE, Int.reduceLT, Int.reduceEq, Int.reduceNeg, Int.reduceNe, Nat.reduceSub, reduceIte, implies_true, gt_1, gr_1_10, gt_179, gr_1_2, gt_3, gr_1_5, gt_97, gr_97_2, gt_98]
      rw [w32_of (x := rend t n i + 1) (by omega) (by omega)]
      refine ⟨fun x => ?_, fun x => ?_⟩
      · rw [if_neg (by omega), List.nil_append] at N
        exact l_rk_28 hd H W L T hn he k _ υ A (by omega) (by omega) (by omega) S N
      · rw [if_pos x, List.singleton_append, List.foldl_cons] at N
        have Lυ : IML υ 3 ω := IML_eq (fun c a b => S1 c (by omega) (by omega) (by omega)) L
        refine cN_w (c_readFolded (t := t) W Lυ (fun j a b => by rw [S1 2 (by omega) (by omega) (by omega)]; exact T j a (by omega)) (by omega) i0 (by omega)) (by omega) (fun _ ξ hξ => ?_)
        obtain ⟨⟨k1, k2, k3⟩, F⟩ := hξ
        have Sξ : WTH σ ξ ω e A := ⟨fun c a b c2 => by rw [F c c2, S1 c a b c2], fun j a b => by rw [F _ (by omega)]; exact S.2.1 j a b, fun f a b => by rw [F _ (by omega)]; exact S.2.2.1 f a b, S.2.2.2⟩
        have Hξ : CDR ξ ω := CDR_w (fun c a b x1 x2 x3 x4 => Sξ.1 c (by omega) (by omega) (by omega)) H
        have kr := km_r W.2.2.1 (tky t i (rend t n i - i).toNat).1
        rw [k1, k2, Hξ.n.2.2]
        refine cN_find Hξ kr (by omega) (fun z hz => ?_)
        simp only [RW, true_and, and_true, and_self, true_or, or_true, Nat.reduceLeDiff, Nat.reduceEqDiff, Nat.reduceAdd, Int.reduceLE, Int.reduceLT, Int.reduceEq, Int.reduceNeg, Int.reduceNe, Nat.reduceSub, reduceIte, implies_true, wd_t hW, wd_r1 hW, wd_t1 hW, wd_r2 hW, wd_t2 hW, wd_r3 hW, wd_t3 hW, wd_r4 hW, wd_t4 hW, wd_r5 hW, wd_t5 hW, wd_r6 hW, wd_t6 hW, wd_r7 hW, wd_t7 hW, wd_r8 hW, wd_t8 hW, wd_r10 hW, wd_t10 hW, wd_r11 hW, wd_t11 hW, wd_r12 hW, wd_t12 hW, wd_r13 hW, wd_t13 hW]
        refine cN_w (c_addWorths (K := (tky t i (rend t n i - i).toNat).1) (x := z) H W he Sξ ?_) (by omega) (fun _ ζ hζ => ?_)
        · rcases hz with ⟨a, b, c⟩ | ⟨a, b, c, c2⟩
          · exact Or.inr ⟨a, b, c⟩
          · refine Or.inl ⟨a, fun f x0 x1 y => ?_⟩
            by_cases w : f < -1 - z
            · have := c f x0 w
              omega
            · have := c2 f (by omega) x1
              omega
        · exact l_rk_28 hd H W L T hn he k _ ζ _ (by omega) (by omega) (by omega) hζ N
end RP
