/-! ASKS: the class's rows of words -/
def ASF (c : Int) (σ τ : jH) : Prop := (∀ c', c' ≠ 140 → c' ≠ 157 → c' ≠ 158 → (c' < c ∨ 175 < c') → τ c' = σ c') ∧ ∀ j, j ≠ 5 → τ 157 j = σ 157 j
theorem ASF.tr {c : Int} {σ τ υ : jH} (h : ASF c σ τ) (h' : ASF c τ υ) : ASF c σ υ := ⟨fun c' a b e f => (h'.1 c' a b e f).trans (h.1 c' a b e f), fun j hj => (h'.2 j hj).trans (h.2 j hj)⟩
theorem ASF.rf {c : Int} {σ : jH} : ASF c σ σ := ⟨fun _ _ _ _ _ => rfl, fun _ _ => rfl⟩
theorem ASF.up {c b : Int} {σ τ : jH} (h : ASF c σ τ) (hb : b ≤ c) : ASF b σ τ := ⟨fun c' a b e f => h.1 c' a b e (by omega), h.2⟩
def CAS (c : Int) (σ τ : jH) (t : Int → Int) (n W : Int) (R : AS) (z : Int) : Prop := ASF c σ τ ∧ ((R.1 = 0 ∧ z = 1 ∧ (0 ≤ R.2.2.1 ∧ R.2.2.1 ≤ n) ∧ TKC τ t n R.2.2.1 ∧ τ 157 5 = R.2.2.2.1 ∧ SET τ c W R.2.2.2.2 ∧ τ 140 6 = σ 140 6 ∧ τ 140 7 = σ 140 7) ∨ (R.1 ≠ 0 ∧ z = 0 ∧ τ 140 6 = R.1 ∧ τ 140 7 = R.2.1))
def AEN (σ : jH) (ω : Int → Int) (e : Int) (t : Int → Int) (n : Int) : Prop := TP σ t n ∧ CDR σ ω ∧ σ 157 4 = wb e ∧ (∀ x, 0 ≤ x → x < 26 → σ 5 x = fo ω x) ∧ RLS σ 4 ω
section AP
variable {l : Launch} {d : Nat} {ω t : Int → Int} {σ : jH} {e n p c : Int}
theorem AEN.of {τ : jH} (A : AEN σ ω e t n) (hc : isSet c) (F : ASF c σ τ) : AEN τ ω e t n := by
  unfold isSet at hc
  obtain ⟨a1, a2, a3, a4, a5⟩ := A
  exact ⟨a1.eq (F.1 2 (by omega) (by omega) (by omega) (by omega)), CDR_eq (fun c' x y => F.1 c' (by omega) (by omega) (by omega) (by omega)) a2, by rw [F.2 4 (by omega)]; exact a3, by rw [F.1 5 (by omega) (by omega) (by omega) (by omega)]; exact a4, RLS_eq a5 (fun c' x y => F.1 c' (by omega) (by omega) (by omega) (by omega))⟩
theorem cas_fail {u : Int} (K : TKC σ t n p) (x : Int) (hx : x ≠ 0) (hc : isSet c) : CAS c σ (ju (ju σ 140 6 x) 140 7 (tS t n p)) t n u (aBD x (tS t n p)) 0 := by
  refine ⟨⟨fun c' a _ _ _ => by rw [ju_row a, ju_row a], fun j _ => by rw [ju_row (by omega), ju_row (by omega)]⟩, Or.inr ⟨hx, rfl, ?_, ?_⟩⟩
  · rw [ju_ne2 (by omega), ju_self]
    rfl
  · rw [ju_self]
    rfl
theorem CAS.pre {σ' τ : jH} {W z : Int} {R : AS} (F : ASF c σ σ') (h6 : σ' 140 6 = σ 140 6) (h7 : σ' 140 7 = σ 140 7) (h : CAS c σ' τ t n W R z) : CAS c σ τ t n W R z := by
  obtain ⟨h1, h2⟩ := h
  rw [h6, h7] at h2
  exact ⟨F.tr h1, h2⟩
theorem l_kf_2 {K b : Int} (hd : 11 ≤ d) (H : CDR σ ω) (W : OKW ω) (he : 0 ≤ e ∧ e ≤ 1) (h4 : σ 157 4 = wb e) (hc : isSet c) (hk : σ 158 0 = K / 1125899906842624 ∧ σ 158 1 = K % 1125899906842624) (hb : 0 ≤ b ∧ b ≤ 400) : ∀ (k i : Nat) (τ : jH), i + k = 300 → (∀ c', c' ≠ c → τ c' = σ c') → (∀ q, 0 ≤ q → q < (wW ω e).1 → τ c q = if q < (i : Int) ∧ ¬ (q + b < (wW ω e).1 ∧ KEY ω e (q + b) = K) then 0 else σ c q) →
    Ev (l, (fun _ => 0), 0) d 0 0 m_Asker_keepFollowed (RW fun _ τ => (∀ c', c' ≠ c → τ c' = σ c') ∧ ∀ q, 0 ≤ q → q < (wW ω e).1 → τ c q = if q + b < (wW ω e).1 ∧ KEY ω e (q + b) = K then σ c q else 0) 2 [some (vR 157), some (vR c), some (vI b), some (vI i), none] [] gW τ 0 0
  | 0, i, τ, hi, F, V => by
    have e300 : i = 300 := by omega
    subst e300
    have w := W.n he
    refine jwp_sound t_Asker_keepFollowed _ (b_Asker_keepFollowed_2 ?_)
    refine ⟨fun _ => ⟨rfl, F, fun q a b' => ?_⟩, fun x => absurd x (by omega)⟩
    rw [V q a b']
    by_cases g : q + b < (wW ω e).1 ∧ KEY ω e (q + b) = K
    · rw [if_pos g, if_neg (fun x => x.2 g)]
    · rw [if_neg g, if_pos ⟨by omega, g⟩]
  | k + 1, i, τ, hi, F, V => by
    have hcc := hc
    unfold isSet at hcc
    have w := W.n he
    have hW := wb_i he
    have wbr : wb e = 105 ∨ wb e = 120 := hW
    have gs := gt_set hc
    obtain ⟨cw1, cw2, cw3, cw4, cw5⟩ := (H.W he).1
    have IH := l_kf_2 hd H W he h4 hc hk hb k (i + 1)
    rw [show ((i + 1 : Nat) : Int) = (i : Int) + 1 by omega] at IH
    have no : ¬ ((i : Int) + b < (wW ω e).1 ∧ KEY ω e ((i : Int) + b) = K) → Ev (l, (fun _ => 0), 0) d 0 0 m_Asker_keepFollowed (RW fun _ τ => (∀ c', c' ≠ c → τ c' = σ c') ∧ ∀ q, 0 ≤ q → q < (wW ω e).1 → τ c q = if q + b < (wW ω e).1 ∧ KEY ω e (q + b) = K then σ c q else 0) 63 [some (vR 157), some (vR c), some (vI b), some (vI i), none] [vI 0] gW τ 0 0 := fun g => by
      refine jwp_sound t_Asker_keepFollowed _ (b_Asker_keepFollowed_63 ?_)
      simp only [RW, true_and, and_true, and_self, true_or, or_true, Nat.reduceLeDiff, Nat.reduceEqDiff, Nat.reduceAdd, Int.reduceLE, Int.reduceLT, Int.reduceEq, Int.reduceNeg, Int.reduceNe, Nat.reduceSub, reduceIte, implies_true]
      rw [gs, w32_of (x := (i : Int) + 1) (by omega) (by omega), show w8 0 = 0 by decide]
      refine ⟨fun x => x.elim, fun _ => ⟨rfl, by omega, (by show (i : Int) < 300; omega), ?_⟩⟩
      refine IH (ju τ c i 0) (by omega) (fun c' hc' => by rw [ju_row hc', F c' hc']) (fun q a b' => ?_)
      by_cases y : q = i
      · rw [y, ju_self, if_pos ⟨by omega, g⟩]
      · rw [ju_ne2 y, V q a b']
        by_cases g2 : q < (i : Int) ∧ ¬ (q + b < (wW ω e).1 ∧ KEY ω e (q + b) = K)
        · rw [if_pos g2, if_pos ⟨by omega, g2.2⟩]
        · rw [if_neg g2, if_neg (fun x => g2 ⟨by omega, x.2⟩)]
    have yes : ((i : Int) + b < (wW ω e).1 ∧ KEY ω e ((i : Int) + b) = K) → Ev (l, (fun _ => 0), 0) d 0 0 m_Asker_keepFollowed (RW fun _ τ => (∀ c', c' ≠ c → τ c' = σ c') ∧ ∀ q, 0 ≤ q → q < (wW ω e).1 → τ c q = if q + b < (wW ω e).1 ∧ KEY ω e (q + b) = K then σ c q else 0) 63 [some (vR 157), some (vR c), some (vI b), some (vI i), none] [vI 1] gW τ 0 0 := fun g => by
      refine jwp_sound t_Asker_keepFollowed _ (b_Asker_keepFollowed_63 ?_)
      simp only [RW, true_and, and_true, and_self, true_or, or_true, Nat.reduceLeDiff, Nat.reduceEqDiff, Nat.reduceAdd, Int.reduceLE, Int.reduceLT, Int.reduceEq, Int.reduceNeg, Int.reduceNe, Nat.reduceSub, reduceIte, implies_true]
      rw [w32_of (x := (i : Int) + 1) (by omega) (by omega)]
      refine ⟨fun _ => ?_, fun x => x.elim⟩
      refine IH τ (by omega) F (fun q a b' => ?_)
      rw [V q a b']
      by_cases g2 : q < (i : Int) ∧ ¬ (q + b < (wW ω e).1 ∧ KEY ω e (q + b) = K)
      · rw [if_pos g2, if_pos ⟨by omega, g2.2⟩]
      · rw [if_neg g2, if_neg (fun x => ?_)]
        by_cases y : q = i
        · rw [y] at x
          exact x.2 g
        · exact g2 ⟨by omega, x.2⟩
    refine jwp_sound t_Asker_keepFollowed _ (b_Asker_keepFollowed_2 ?_)
    simp only [RW, true_and, and_true, and_self, true_or, or_true, Nat.reduceLeDiff, Nat.reduceEqDiff, Nat.reduceAdd, Int.reduceLE, Int.reduceLT, Int.reduceEq, Int.reduceNeg, Int.reduceNe, Nat.reduceSub, reduceIte, implies_true, gt_157, gr_157_3, gt_158, wd_t hW, wd_r1 hW, wd_t1 hW, wd_r2 hW, wd_t2 hW, wd_r3 hW, wd_t3 hW, wd_r4 hW, wd_t4 hW, wd_r5 hW, wd_t5 hW, wd_r6 hW, wd_t6 hW, wd_r7 hW, wd_t7 hW, wd_r8 hW, wd_t8 hW, wd_r10 hW, wd_t10 hW, wd_r11 hW, wd_t11 hW, wd_r12 hW, wd_t12 hW, wd_r13 hW, wd_t13 hW]
    rw [gs, F 157 (by omega), h4, F (wb e) (by omega), cw1, F 158 (by omega), hk.1, hk.2, w32_of (x := (i : Int) + b) (by omega) (by omega)]
    refine ⟨fun x => absurd x (by omega), fun _ => ?_⟩
    refine ⟨⟨(by show (1 : Nat) ≤ 2; omega), (by show (2 : Nat) ≤ 7; omega)⟩, fun x => absurd x (by show ¬ (300 : Int) ≤ i; omega), fun _ => ?_⟩
    simp only [wd_t hW, wd_r1 hW, wd_t1 hW, true_and]
    refine ⟨fun q => no (fun x => by omega), fun q => ?_⟩
    refine cN_p (c_KeyRow_holds (kr_Words_1 hW) _ _ _ _) (by omega) ?_
    obtain ⟨kk1, kk2⟩ := cw3 ((i : Int) + b) (by omega) q
    have e1 : KEY ω e ((i : Int) + b) = km (fo ω) ((wW ω e).2.2.2.2.1 ((i : Int) + b)) := rfl
    rw [← e1] at kk1 kk2
    rw [F (wb e + 1 + 1) (by omega), F (wb e + 1 + 2) (by omega), kk1, kk2]
    by_cases g : KEY ω e ((i : Int) + b) = K
    · rw [if_pos ⟨by omega, by omega, by rw [g], by rw [g]⟩]
      exact ⟨fun x => absurd x (by omega), fun _ => yes ⟨q, g⟩⟩
    · rw [if_neg (fun x => g (by omega))]
      exact ⟨fun _ => no (fun x => g x.2), fun x => absurd rfl x⟩
theorem c_keepFollowed {K b : Int} (H : CDR σ ω) (W : OKW ω) (he : 0 ≤ e ∧ e ≤ 1) (h4 : σ 157 4 = wb e) (hc : isSet c) (hk : σ 158 0 = K / 1125899906842624 ∧ σ 158 1 = K % 1125899906842624) (hb : 0 ≤ b ∧ b ≤ 400) : Cw 11 m_Asker_keepFollowed [vR 157, vR c, vI b] σ (fun _ τ => (∀ c', c' ≠ c → τ c' = σ c') ∧ ∀ q, 0 ≤ q → q < (wW ω e).1 → τ c q = if q + b < (wW ω e).1 ∧ KEY ω e (q + b) = K then σ c q else 0) := by
  refine Cw_of o_Asker_keepFollowed rfl fun l d hd => jwp_sound t_Asker_keepFollowed _ (b_Asker_keepFollowed_0 ?_)
  exact l_kf_2 hd H W he h4 hc hk hb 300 0 σ rfl (fun _ _ => rfl) (fun q a b => by rw [if_neg (fun x => by omega)])
end AP
