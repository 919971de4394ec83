/-! The class: STOPS and ROOTS; forms asked -/
/-- how many letters are folded -/
def fcnt (ω : Int → Int) : Nat → Int
  | 0 => 0
  | n + 1 => fcnt ω n + (if ω (5 + n) = -1 then 0 else 1)
/-- the class's RULES are those of a row -/
def RLS (σ : jH) (r : Int) (ω : Int → Int) : Prop := (σ r 0 = ω 0 ∧ σ r 3 = fcnt ω 26 ∧ σ r 5 = ω 1 ∧ σ r 7 = ω 2) ∧ (∀ s, 0 ≤ s → s < ω 1 → KKV σ (r + 3) s (wst0 ω s)) ∧ ∀ t, 0 ≤ t → t < ω 2 → σ (r + 12) t = ω (477 + 106 * t) - 1 ∧ KKV σ (r + 6) t (wrt ω t 0) ∧ ∀ i, 0 ≤ i → i < ω (477 + 106 * t) - 1 → KKV σ (r + 9) (4 * t + i) (wrt ω t (i + 1))
theorem RLS_eq {σ τ : jH} {r : Int} {ω : Int → Int} (H : RLS σ r ω) (h : ∀ c, r ≤ c → c ≤ r + 12 → τ c = σ c) : RLS τ r ω := by
  obtain ⟨h1, h2, h3⟩ := H
  unfold RLS KKV at *
  rw [h r (by omega) (by omega), h (r + 12) (by omega) (by omega), h (r + 3 + 1) (by omega) (by omega), h (r + 3 + 2) (by omega) (by omega), h (r + 6 + 1) (by omega) (by omega), h (r + 6 + 2) (by omega) (by omega), h (r + 9 + 1) (by omega) (by omega), h (r + 9 + 2) (by omega) (by omega)]
  exact ⟨h1, h2, h3⟩
theorem kkv_iff {σ : jH} {o i K v : Int} (h : KKV σ o i K) : (σ (o + 1) i = v / 1125899906842624 ∧ σ (o + 2) i = v % 1125899906842624) ↔ K = v := by
  rw [h.1, h.2]
  omega
section RC
variable {l : Launch} {d : Nat} {ω : Int → Int} {σ : jH} {r : Int}
theorem l_isStop {v : Int} (hd : 11 ≤ d) (hU : isRules r) (U : RLO ω) (S : RLS σ r ω) : ∀ (m s : Nat), s + m = (ω 1).toNat → exI (wst0 ω) v s = false →
    Ev (l, (fun _ => 0), 0) d 0 0 m_Rules_isStop (RW fun z τ => z = b2i (stopB ω v) ∧ τ = σ) 3 [some (vR r), some (vL (v / 1125899906842624)), none, some (vL (v % 1125899906842624)), none, some (vI s)] [] gW σ 0 0
  | 0, s, hs, hx => by
    obtain ⟨U1, U2, U3, U4, U5⟩ := U
    refine jwp_sound t_Rules_isStop _ (b_Rules_isStop_3 ?_)
    simp only [RW, true_and, and_true, and_self, true_or, or_true, Nat.reduceLeDiff, Nat.reduceEqDiff, Nat.reduceAdd, Int.reduceLE, Int.reduceLT, Int.reduceEq, Int.reduceNeg, Int.reduceNe, Nat.reduceSub, reduceIte, implies_true, ru_t hU, ru_r1 hU, ru_t1 hU, ru_r2 hU, ru_t2 hU, ru_r4 hU, ru_t4 hU, ru_r6 hU, ru_t6 hU, ru_r8 hU, ru_t8 hU, ru_r9 hU, ru_t9 hU, ru_r10 hU, ru_t10 hU]
    rw [S.1.2.2.1]
    refine ⟨fun _ => ?_, fun q => absurd q (by omega)⟩
    unfold stopB
    rw [show (ω 1).toNat = s by omega, hx]
    rfl
  | m + 1, s, hs, hx => by
    obtain ⟨U1, U2, U3, U4, U5⟩ := U
    have k := kkv_iff (v := v) (S.2.1 s (by omega) (by omega))
    refine jwp_sound t_Rules_isStop _ (b_Rules_isStop_3 ?_)
    simp only [RW, true_and, and_true, and_self, true_or, or_true, Nat.reduceLeDiff, Nat.reduceEqDiff, Nat.reduceAdd, Int.reduceLE, Int.reduceLT, Int.reduceEq, Int.reduceNeg, Int.reduceNe, Nat.reduceSub, reduceIte, implies_true, ru_t hU, ru_r1 hU, ru_t1 hU, ru_r2 hU, ru_t2 hU, ru_r4 hU, ru_t4 hU, ru_r6 hU, ru_t6 hU, ru_r8 hU, ru_t8 hU, ru_r9 hU, ru_t9 hU, ru_r10 hU, ru_t10 hU]
    rw [S.1.2.2.1, w32_of (x := (s : Int) + 1) (by omega) (by omega)]
    refine ⟨fun q => absurd q (by omega), fun _ => ?_⟩
    refine cN_p (c_KeyRow_holds (kr_Rules_4 hU) _ _ _ _) (by omega) ?_
    by_cases q : wst0 ω s = v
    · rw [if_pos ⟨by omega, by omega, k.mpr q⟩]
      refine ⟨fun q => by omega, fun _ => ⟨?_, rfl⟩⟩
      have : stopB ω v = true := exI_iff.mpr ⟨s, by omega, by omega, q⟩
      rw [this]
      rfl
    · rw [if_neg (fun x => q (k.mp x.2.2))]
      refine ⟨fun _ => ?_, fun q => absurd rfl q⟩
      refine l_isStop hd hU ⟨U1, U2, U3, U4, U5⟩ S m (s + 1) (by omega) ?_
      show (exI (wst0 ω) v s || decide (wst0 ω s = v)) = false
      rw [hx, Bool.false_or]
      simp only [decide_eq_false_iff_not]
      exact q
theorem c_isStop (v : Int) (hU : isRules r) (U : RLO ω) (S : RLS σ r ω) : Cw 11 m_Rules_isStop [vR r, vL (v / 1125899906842624), vL (v % 1125899906842624)] σ (fun z τ => z = b2i (stopB ω v) ∧ τ = σ) := by
  refine Cw_of o_Rules_isStop rfl fun l d hd => jwp_sound t_Rules_isStop _ (b_Rules_isStop_0 ?_)
  exact l_isStop hd hU U S (ω 1).toNat 0 (by omega) rfl
theorem l_rootNamed {v : Int} (hd : 11 ≤ d) (hU : isRules r) (U : RLO ω) (S : RLS σ r ω) : ∀ (m s : Nat), s + m = (ω 2).toNat → (∀ j, 0 ≤ j → j < (s : Int) → (decide (wrt ω j 0 = v)) = false) →
    Ev (l, (fun _ => 0), 0) d 0 0 m_Rules_rootNamed (RW fun z τ => z = nameI ω v ∧ τ = σ) 3 [some (vR r), some (vL (v / 1125899906842624)), none, some (vL (v % 1125899906842624)), none, some (vI s)] [] gW σ 0 0
  | 0, s, hs, hx => by
    obtain ⟨U1, U2, U3, U4, U5⟩ := U
    refine jwp_sound t_Rules_rootNamed _ (b_Rules_rootNamed_3 ?_)
    simp only [RW, true_and, and_true, and_self, true_or, or_true, Nat.reduceLeDiff, Nat.reduceEqDiff, Nat.reduceAdd, Int.reduceLE, Int.reduceLT, Int.reduceEq, Int.reduceNeg, Int.reduceNe, Nat.reduceSub, reduceIte, implies_true, ru_t hU, ru_r1 hU, ru_t1 hU, ru_r2 hU, ru_t2 hU, ru_r4 hU, ru_t4 hU, ru_r6 hU, ru_t6 hU, ru_r8 hU, ru_t8 hU, ru_r9 hU, ru_t9 hU, ru_r10 hU, ru_t10 hU]
    rw [S.1.2.2.2]
    refine ⟨fun _ => ?_, fun q => absurd q (by omega)⟩
    unfold nameI
    rw [fsB_no (fun k a b => hx k a (by omega))]
  | m + 1, s, hs, hx => by
    obtain ⟨U1, U2, U3, U4, U5⟩ := U
    have k := kkv_iff (v := v) (S.2.2 s (by omega) (by omega)).2.1
    refine jwp_sound t_Rules_rootNamed _ (b_Rules_rootNamed_3 ?_)
    simp only [RW, true_and, and_true, and_self, true_or, or_true, Nat.reduceLeDiff, Nat.reduceEqDiff, Nat.reduceAdd, Int.reduceLE, Int.reduceLT, Int.reduceEq, Int.reduceNeg, Int.reduceNe, Nat.reduceSub, reduceIte, implies_true, ru_t hU, ru_r1 hU, ru_t1 hU, ru_r2 hU, ru_t2 hU, ru_r4 hU, ru_t4 hU, ru_r6 hU, ru_t6 hU, ru_r8 hU, ru_t8 hU, ru_r9 hU, ru_t9 hU, ru_r10 hU, ru_t10 hU]
    rw [S.1.2.2.2, w32_of (x := (s : Int) + 1) (by omega) (by omega)]
    refine ⟨fun q => absurd q (by omega), fun _ => ?_⟩
    refine cN_p (c_KeyRow_holds (kr_Rules_6 hU) _ _ _ _) (by omega) ?_
    by_cases q : wrt ω s 0 = v
    · rw [if_pos ⟨by omega, by omega, k.mpr q⟩]
      refine ⟨fun q => by omega, fun _ => ⟨?_, rfl⟩⟩
      unfold nameI
      rw [fsB_is (by omega) (by omega) (by simp only [decide_eq_true_eq]; exact q) hx]
    · rw [if_neg (fun x => q (k.mp x.2.2))]
      refine ⟨fun _ => ?_, fun q => absurd rfl q⟩
      refine l_rootNamed hd hU ⟨U1, U2, U3, U4, U5⟩ S m (s + 1) (by omega) (fun j a b => ?_)
      by_cases hj : j = s
      · rw [hj]
        simp only [decide_eq_false_iff_not]
        exact q
      · exact hx j a (by omega)
theorem c_rootNamed (v : Int) (hU : isRules r) (U : RLO ω) (S : RLS σ r ω) : Cw 11 m_Rules_rootNamed [vR r, vL (v / 1125899906842624), vL (v % 1125899906842624)] σ (fun z τ => z = nameI ω v ∧ τ = σ) := by
  refine Cw_of o_Rules_rootNamed rfl fun l d hd => jwp_sound t_Rules_rootNamed _ (b_Rules_rootNamed_0 ?_)
  exact l_rootNamed hd hU U S (ω 2).toNat 0 (by omega) (fun j a b => by omega)
theorem l_rootOf22 {v : Int} {t : Nat} (hd : 11 ≤ d) (hU : isRules r) (U : RLO ω) (S : RLS σ r ω) (ht : (t : Int) < ω 2) (hn : ∀ j, 0 ≤ j → j < (t : Int) → memB ω v j = false)
    (H : memB ω v t = false → Ev (l, (fun _ => 0), 0) d 0 0 m_Rules_rootOf (RW fun z τ => z = rootI ω v ∧ τ = σ) 3 [some (vR r), some (vL (v / 1125899906842624)), none, some (vL (v % 1125899906842624)), none, some (vI ((t : Int) + 1)), none] [] gW σ 0 0) : ∀ (m i : Nat), (i : Int) + m = ω (477 + 106 * t) - 1 → exI (fun i => wrt ω t (i + 1)) v i = false →
    Ev (l, (fun _ => 0), 0) d 0 0 m_Rules_rootOf (RW fun z τ => z = rootI ω v ∧ τ = σ) 22 [some (vR r), some (vL (v / 1125899906842624)), none, some (vL (v % 1125899906842624)), none, some (vI t), some (vI i)] [] gW σ 0 0
  | 0, i, hs, hx => by
    obtain ⟨U1, U2, U3, U4, U5⟩ := U
    refine jwp_sound t_Rules_rootOf _ (b_Rules_rootOf_22 ?_)
    simp only [RW, true_and, and_true, and_self, true_or, or_true, Nat.reduceLeDiff, Nat.reduceEqDiff, Nat.reduceAdd, Int.reduceLE, Int.reduceLT, Int.reduceEq, Int.reduceNeg, Int.reduceNe, Nat.reduceSub, reduceIte, implies_true, ru_t hU, ru_r1 hU, ru_t1 hU, ru_r2 hU, ru_t2 hU, ru_r4 hU, ru_t4 hU, ru_r6 hU, ru_t6 hU, ru_r8 hU, ru_t8 hU, ru_r9 hU, ru_t9 hU, ru_r10 hU, ru_t10 hU]
    rw [(S.2.2 t (by omega) ht).1, w32_of (x := (t : Int) + 1) (by omega) (by omega)]
    refine ⟨by omega, by omega, fun _ => H ?_, fun q => absurd q (by omega)⟩
    unfold memB
    rw [show (ω (477 + 106 * (t : Int)) - 1).toNat = i by omega]
    exact hx
  | m + 1, i, hs, hx => by
    have U' := U
    obtain ⟨U1, U2, U3, U4, U5⟩ := U'
    obtain ⟨u5, u6⟩ := U5 t (by omega) ht
    obtain ⟨s1, s2, s3⟩ := S.2.2 t (by omega) ht
    have k := kkv_iff (v := v) (s3 i (by omega) (by omega))
    refine jwp_sound t_Rules_rootOf _ (b_Rules_rootOf_22 ?_)
    simp only [RW, true_and, and_true, and_self, true_or, or_true, Nat.reduceLeDiff, Nat.reduceEqDiff, Nat.reduceAdd, Int.reduceLE, Int.reduceLT, Int.reduceEq, Int.reduceNeg, Int.reduceNe, Nat.reduceSub, reduceIte, implies_true, ru_t hU, ru_r1 hU, ru_t1 hU, ru_r2 hU, ru_t2 hU, ru_r4 hU, ru_t4 hU, ru_r6 hU, ru_t6 hU, ru_r8 hU, ru_t8 hU, ru_r9 hU, ru_t9 hU, ru_r10 hU, ru_t10 hU]
    rw [s1, w32_of (x := (t : Int) + 1) (by omega) (by omega), w32_of (x := (t : Int) * 4) (by omega) (by omega), w32_of (x := (t : Int) * 4 + i) (by omega) (by omega), w32_of (x := (i : Int) + 1) (by omega) (by omega), show (t : Int) * 4 + i = 4 * t + i by omega]
    refine ⟨by omega, by omega, fun q => absurd q (by omega), fun _ => ?_⟩
    refine cN_p (c_KeyRow_holds (kr_Rules_8 hU) _ _ _ _) (by omega) ?_
    by_cases q : wrt ω t ((i : Int) + 1) = v
    · rw [if_pos ⟨by omega, by omega, k.mpr q⟩]
      refine ⟨fun q => by omega, fun _ => ⟨?_, rfl⟩⟩
      have : memB ω v t = true := exI_iff.mpr ⟨i, by omega, by omega, q⟩
      unfold rootI
      rw [fsB_is (by omega) (by omega) this hn]
    · rw [if_neg (fun x => q (k.mp x.2.2))]
      refine ⟨fun _ => ?_, fun q => absurd rfl q⟩
      refine l_rootOf22 hd hU U S ht hn H m (i + 1) (by omega) ?_
      show (exI (fun i => wrt ω t (i + 1)) v i || decide (wrt ω t ((i : Int) + 1) = v)) = false
      rw [hx, Bool.false_or]
      simp only [decide_eq_false_iff_not]
      exact q
theorem l_rootOf {v : Int} (hd : 11 ≤ d) (hU : isRules r) (U : RLO ω) (S : RLS σ r ω) : ∀ (m t : Nat), t + m = (ω 2).toNat → (∀ j, 0 ≤ j → j < (t : Int) → memB ω v j = false) →
    Ev (l, (fun _ => 0), 0) d 0 0 m_Rules_rootOf (RW fun z τ => z = rootI ω v ∧ τ = σ) 3 [some (vR r), some (vL (v / 1125899906842624)), none, some (vL (v % 1125899906842624)), none, some (vI t), none] [] gW σ 0 0
  | 0, t, hs, hn => by
    obtain ⟨U1, U2, U3, U4, U5⟩ := U
    refine jwp_sound t_Rules_rootOf _ (b_Rules_rootOf_3 ?_)
    simp only [RW, true_and, and_true, and_self, true_or, or_true, Nat.reduceLeDiff, Nat.reduceEqDiff, Nat.reduceAdd, Int.reduceLE, Int.reduceLT, Int.reduceEq, Int.reduceNeg, Int.reduceNe, Nat.reduceSub, reduceIte, implies_true, ru_t hU, ru_r1 hU, ru_t1 hU, ru_r2 hU, ru_t2 hU, ru_r4 hU, ru_t4 hU, ru_r6 hU, ru_t6 hU, ru_r8 hU, ru_t8 hU, ru_r9 hU, ru_t9 hU, ru_r10 hU, ru_t10 hU]
    rw [S.1.2.2.2]
    refine ⟨fun _ => ?_, fun q => absurd q (by omega)⟩
    unfold rootI
    rw [fsB_no (fun k a b => hn k a (by omega))]
  | m + 1, t, hs, hn => by
    have U' := U
    obtain ⟨U1, U2, U3, U4, U5⟩ := U'
    obtain ⟨u5, u6⟩ := U5 t (by omega) (by omega)
    refine jwp_sound t_Rules_rootOf _ (b_Rules_rootOf_3 ?_)
    simp only [RW, true_and, and_true, and_self, true_or, or_true, Nat.reduceLeDiff, Nat.reduceEqDiff, Nat.reduceAdd, Int.reduceLE, Int.reduceLT, Int.reduceEq, Int.reduceNeg, Int.reduceNe, Nat.reduceSub, reduceIte, implies_true, ru_t hU, ru_r1 hU, ru_t1 hU, ru_r2 hU, ru_t2 hU, ru_r4 hU, ru_t4 hU, ru_r6 hU, ru_t6 hU, ru_r8 hU, ru_t8 hU, ru_r9 hU, ru_t9 hU, ru_r10 hU, ru_t10 hU]
    rw [S.1.2.2.2]
    refine ⟨fun q => absurd q (by omega), fun _ => ⟨fun q => absurd q (by omega), fun _ => ?_⟩⟩
    refine l_rootOf22 hd hU U S (by omega) hn (fun hm => ?_) (ω (477 + 106 * t) - 1).toNat 0 (by omega) rfl
    have := l_rootOf (v := v) hd hU U S m (t + 1) (by omega) (fun j a b => ?_)
    · rw [show ((t + 1 : Nat) : Int) = (t : Int) + 1 by omega] at this
      exact this
    · by_cases hj : j = t
      · rw [hj]
        exact hm
      · exact hn j a (by omega)
theorem c_rootOf (v : Int) (hU : isRules r) (U : RLO ω) (S : RLS σ r ω) : Cw 11 m_Rules_rootOf [vR r, vL (v / 1125899906842624), vL (v % 1125899906842624)] σ (fun z τ => z = rootI ω v ∧ τ = σ) := by
  refine Cw_of o_Rules_rootOf rfl fun l d hd => jwp_sound t_Rules_rootOf _ (b_Rules_rootOf_0 ?_)
  exact l_rootOf hd hU U S (ω 2).toNat 0 (by omega) (fun j a b => by omega)
end RC
