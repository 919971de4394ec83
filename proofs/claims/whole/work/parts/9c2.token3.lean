/-! Tokens: the class's is and readInto; words of a row -/
theorem gdL_lt (w i : Nat) : (jtb w).getD i 0 < 1000 := by
  have h : jtxs.all (fun l => l.all (fun x => decide (x < 1000))) = true := by decide +kernel
  rw [List.all_eq_true] at h
  have e : jtb w = [] ∨ jtb w ∈ jtxs := by
    unfold jtb
    rw [List.getD_eq_getElem?_getD]
    cases q : jtxs[w]? with
    | none => exact Or.inl rfl
    | some l => exact Or.inr (List.mem_of_getElem? q)
  rcases e with e | e
  · rw [e]
    simp
  · have h1 := h _ e
    rw [List.all_eq_true] at h1
    rw [List.getD_eq_getElem?_getD]
    cases q : (jtb w)[i]? with
    | none => exact (show 0 < 1000 by omega)
    | some x => exact of_decide_eq_true (h1 x (List.mem_of_getElem? q))
section T3
variable {l : Launch} {d : Nat} {t : Int → Int} {σ : jH} {n p : Int}
theorem l_is_28 {w : Nat} (hd : 11 ≤ d) (hw : w < jtxs.length) (T : TP σ t n) (K : TKC σ t n p) (hp : 0 ≤ p ∧ p ≤ n) (h1 : tK t n p = 1) (h2 : tN t n p - tS t n p = (((jtb w).length : Nat) : Int)) : ∀ (k i : Nat), i + k = (jtb w).length → eqB t (tS t n p) (jtb w) i = true →
    Ev (l, (fun _ => 0), 0) d 0 0 m_Tokens_is (RW fun z τ => z = b2i (tI t n p (jtb w)) ∧ τ = σ) 28 [some (vR 140), some (vT w), some (vI i)] [] gW σ 0 0
  | 0, i, hk, A => by
    refine jwp_sound t_Tokens_is _ (b_Tokens_is_28 ?_)
    simp only [RW, true_and, and_true, and_self, true_or, or_true, Nat.reduceLeDiff, Nat.reduceEqDiff, Nat.reduceAdd, Int.reduceLE, Int.reduceLT, Int.reduceEq, Int.reduceNeg, Int.reduceNe, Nat.reduceSub, reduceIte, implies_true, gt_140]
    refine ⟨hw, by omega, fun _ => ?_, fun q => absurd q (by omega)⟩
    unfold tI
    rw [decide_eq_true h1, decide_eq_true h2, ← show i = (jtb w).length by omega, A]
    rfl
  | k + 1, i, hk, A => by
    have r := tS_r (t := t) hp.2
    have r2 := tN_r (t := t) hp.2
    have T' := T
    obtain ⟨T1, T2⟩ := T'
    obtain ⟨b1, b2, b3⟩ := T2 (tS t n p + i) (by omega) (by omega)
    have IH := l_is_28 hd hw T K hp h1 h2 k (i + 1) (by omega)
    rw [show ((i + 1 : Nat) : Int) = (i : Int) + 1 by omega] at IH
    refine jwp_sound t_Tokens_is _ (b_Tokens_is_28 ?_)
    simp only [RW, true_and, and_true, and_self, true_or, or_true, Nat.reduceLeDiff, Nat.reduceEqDiff, Nat.reduceAdd, Int.reduceLE, Int.reduceLT, Int.reduceEq, Int.reduceNeg, Int.reduceNe, Nat.reduceSub, reduceIte, implies_true, gt_140]
    have lt := gdL_lt w i
    rw [w32_of (x := (i : Int) + 1) (by omega) (by omega), show Int.toNat (i : Int) = i by omega, w32_of (x := (((jtb w).getD i 0 : Nat) : Int) - 97) (by omega) (by omega)]
    refine ⟨hw, by omega, fun q => absurd q (by omega), fun _ => ?_⟩
    refine cN_p (c_letterAt (i := (i : Int)) T K hp (by omega) (by omega)) (by omega) ?_
    refine ⟨by omega, by omega, by omega, fun q => ?_, fun q => ?_⟩
    · have q1 : t (tS t n p + i) = (((jtb w).getD i 0 : Nat) : Int) := by omega
      refine IH ?_
      simp only [eqB]
      rw [A, decide_eq_true q1]
      rfl
    · have q1 : ¬ t (tS t n p + i) = (((jtb w).getD i 0 : Nat) : Int) := by omega
      unfold tI
      rw [eqB_f q1 _ (by omega), Bool.and_false]
      exact ⟨rfl, rfl⟩
theorem c_is {w : Nat} (hw : w < jtxs.length) (T : TP σ t n) (K : TKC σ t n p) (hp : 0 ≤ p ∧ p ≤ n) : Cw 11 m_Tokens_is [vR 140, vT w] σ (fun z τ => z = b2i (tI t n p (jtb w)) ∧ τ = σ) := by
  have r := tS_r (t := t) hp.2
  have r2 := tN_r (t := t) hp.2
  have T1 := T.1
  refine Cw_of o_Tokens_is rfl fun l d hd => jwp_sound t_Tokens_is _ (b_Tokens_is_0 ?_)
  simp only [RW, true_and, and_true, and_self, true_or, or_true, Nat.reduceLeDiff, Nat.reduceEqDiff, Nat.reduceAdd, Int.reduceLE, Int.reduceLT, Int.reduceEq, Int.reduceNeg, Int.reduceNe, Nat.reduceSub, reduceIte, implies_true, gt_140]
  rw [K.1.2.2.2, K.1.2.2.1, K.1.2.1, w32_of (by omega) (by omega)]
  refine ⟨fun q => ?_, fun q => ⟨hw, by omega, fun q2 => ?_, fun q2 => ?_⟩⟩
  · unfold tI
    rw [decide_eq_false q, Bool.false_and, Bool.false_and]
    rfl
  · exact l_is_28 hd hw T K hp q q2 (jtb w).length 0 (by omega) rfl
  · unfold tI
    rw [decide_eq_false q2, Bool.and_false, Bool.false_and]
    rfl
theorem l_ri_6 {o : Int} (hd : 11 ≤ d) (Y : KY o) (ho : o ≠ 140 ∧ o ≠ 2) (T : TP σ t n) (K : TKC σ t n p) (hp : 0 ≤ p ∧ p ≤ n) (h1 : tK t n p = 1) : ∀ (k m : Nat) (τ : jH), (m : Int) + k = min 20 (tN t n p - tS t n p) → KS τ o (tky t (tS t n p) m).1 (tky t (tS t n p) m).2 → FR1 σ τ o →
    Ev (l, (fun _ => 0), 0) d 0 0 m_Tokens_readInto (RW fun _ τ => KS τ o (tky t (tS t n p) (m + k)).1 (tky t (tS t n p) (m + k)).2 ∧ FR1 σ τ o) 6 [some (vR 140), some (vR o), some (vI m)] [] gW τ 0 0
  | 0, m, τ, hk, S, F => by
    have T1 := T.1
    have Kτ : TKC τ t n p := by
      unfold TKC
      rw [F 140 (by omega)]
      exact K
    refine jwp_sound t_Tokens_readInto _ (b_Tokens_readInto_6 ?_)
    simp only [RW, true_and, and_true, and_self, true_or, or_true, Nat.reduceLeDiff, Nat.reduceEqDiff, Nat.reduceAdd, Int.reduceLE, Int.reduceLT, Int.reduceEq, Int.reduceNeg, Int.reduceNe, Nat.reduceSub, reduceIte, implies_true, gt_140]
    refine cN_p (c_letterCount Kτ hp T1.2) (by omega) ?_
    rw [if_pos h1]
    exact ⟨fun _ => ⟨S, F⟩, fun q => ⟨fun _ => ⟨S, F⟩, fun q2 => absurd hk (by omega)⟩⟩
  | k + 1, m, τ, hk, S, F => by
    have T1 := T.1
    have r := tS_r (t := t) hp.2
    have r2 := tN_r (t := t) hp.2
    have Kτ : TKC τ t n p := by
      unfold TKC
      rw [F 140 (by omega)]
      exact K
    have Tτ := T.eq (F 2 (by omega))
    have g := tK_l hp.2 h1 (tS t n p + m) (by omega) (by omega)
    have e : tky t (tS t n p) (m + 1) = (kad (tky t (tS t n p) m).1 (tky t (tS t n p) m).2 (t (tS t n p + m) - 97), min ((tky t (tS t n p) m).2 + 1) 20) := if_pos g
    have IH := fun υ S2 F2 => l_ri_6 hd Y ho T K hp h1 k (m + 1) υ (by omega) S2 F2
    rw [show m + 1 + k = m + (k + 1) by omega, show ((m + 1 : Nat) : Int) = (m : Int) + 1 by omega, e] at IH
    have k1 : gW.2.1 o = (11, 3) := Y
    refine jwp_sound t_Tokens_readInto _ (b_Tokens_readInto_6 ?_)
    simp only [RW, true_and, and_true, and_self, true_or, or_true, Nat.reduceLeDiff, Nat.reduceEqDiff, Nat.reduceAdd, Int.reduceLE, Int.reduceLT, Int.reduceEq, Int.reduceNeg, Int.reduceNe, Nat.reduceSub, reduceIte, implies_true, gt_140]
    refine cN_p (c_letterCount Kτ hp T1.2) (by omega) ?_
    rw [if_pos h1]
    refine ⟨fun q => absurd hk (by omega), fun _ => ⟨fun q => absurd hk (by omega), fun _ => ?_⟩⟩
    refine cN_p (c_letterAt (i := (m : Int)) Tτ Kτ hp (by omega) (by omega)) (by omega) ?_
    rw [k1, w32_of (x := (m : Int) + 1) (by omega) (by omega)]
    refine ⟨rfl, ?_⟩
    refine cN_w (c_Key_add Y S (by omega) (by omega)) (by omega) (fun _ υ h => ?_)
    exact IH υ h.1 (F.tr h.2)
theorem wK_20 (hp : 0 ≤ p ∧ p ≤ n) (h1 : tK t n p = 1) : tky t (tS t n p) (min 20 (tN t n p - tS t n p)).toNat = wK t n p ∧ (wK t n p).2 = (min 20 (tN t n p - tS t n p)).toNat := by
  have r2 := tN_r (t := t) hp.2
  have L := tK_l hp.2 h1
  unfold wK
  by_cases q : tN t n p - tS t n p ≤ 20
  · rw [show min 20 (tN t n p - tS t n p) = tN t n p - tS t n p by omega]
    refine ⟨rfl, ?_⟩
    rw [tky_len _ (fun j a b => L _ (by omega) (by omega))]
    omega
  · have e := tky_20 (t := t) (s := tS t n p) ((tN t n p - tS t n p).toNat - 20) (fun j a b => L _ (by omega) (by omega))
    rw [show 20 + ((tN t n p - tS t n p).toNat - 20) = (tN t n p - tS t n p).toNat by omega] at e
    rw [e, show (min 20 (tN t n p - tS t n p)).toNat = 20 by omega]
    refine ⟨rfl, ?_⟩
    rw [tky_len 20 (fun j a b => L _ (by omega) (by omega))]
    rfl
theorem c_readInto {o : Int} (Y : KY o) (ho : o ≠ 140 ∧ o ≠ 2) (T : TP σ t n) (K : TKC σ t n p) (hp : 0 ≤ p ∧ p ≤ n) (h1 : tK t n p = 1) : Cw 11 m_Tokens_readInto [vR 140, vR o] σ (fun _ τ => KS τ o (wK t n p).1 (wK t n p).2 ∧ FR1 σ τ o) := by
  have r2 := tN_r (t := t) hp.2
  have k1 : gW.2.1 o = (11, 3) := Y
  refine Cw_of o_Tokens_readInto rfl fun l d hd => jwp_sound t_Tokens_readInto _ (b_Tokens_readInto_0 ?_)
  rw [k1]
  refine ⟨rfl, ?_⟩
  refine cN_v (c_Key_clear Y _) (by omega) (fun _ => ?_)
  have r : ∀ c, c ≠ o → ju (ju (ju σ o 0 0) o 1 0) o 2 0 c = σ c := fun c hc => by rw [ju_row hc, ju_row hc, ju_row hc]
  have go := l_ri_6 (l := l) (o := o) (σ := σ) hd Y ho T K hp h1 (min 20 (tN t n p - tS t n p)).toNat 0 (ju (ju (ju σ o 0 0) o 1 0) o 2 0) (by omega) ⟨by show 0 ≤ 20; omega, by show (0 : Int) ≤ 0; omega, by show (0 : Int) < _; omega, by unfold dv32; exact Int.zero_emod _, by rw [ju_ne2 (by omega), ju_ne2 (by omega), ju_self]; rfl, by rw [ju_ne2 (by omega), ju_self]; rfl, ju_self⟩ r
  rw [Nat.zero_add, (wK_20 hp h1).1] at go
  exact go
/-- the word at p put into a row -/
def wrd (ρ : Int → Int) (A : Int) (t : Int → Int) (n p : Int) : Int → Int := slw ρ A (min 20 (tN t n p - tS t n p)) (fun i => t (tS t n p + i))
theorem tky_sh (t : Int → Int) (s : Int) : ∀ k : Nat, tky (fun i => t (s + i)) 0 k = tky t s k
  | 0 => rfl
  | k + 1 => by
    show (if isL (t (s + (0 + k))) then (kad (tky (fun i => t (s + i)) 0 k).1 (tky (fun i => t (s + i)) 0 k).2 (t (s + (0 + k)) - 97), min ((tky (fun i => t (s + i)) 0 k).2 + 1) 20) else tky (fun i => t (s + i)) 0 k) = (if isL (t (s + k)) then (kad (tky t s k).1 (tky t s k).2 (t (s + k) - 97), min ((tky t s k).2 + 1) 20) else tky t s k)
    rw [Int.zero_add, tky_sh t s k]
theorem wrd_ok (hp : 0 ≤ p ∧ p ≤ n) (h1 : tK t n p = 1) : okwd (fun i => t (tS t n p + i)) (min 20 (tN t n p - tS t n p)) := by
  have r2 := tN_r (t := t) hp.2
  have k1 := tK_1 h1
  have r3 := r2.2.2 k1.1
  exact ⟨by omega, alB_iff.mpr (fun k a b => tK_l hp.2 h1 _ (by omega) (by omega))⟩
theorem wrd_at {ρ : Int → Int} {A : Int} (hp : 0 ≤ p ∧ p ≤ n) (h1 : tK t n p = 1) : RV (wrd ρ A t n p) A ∧ rk (wrd ρ A t n p) A = (wK t n p).1 ∧ 1 ≤ wrd ρ A t n p A ∧ wrd ρ A t n p A = (wK t n p).2 := by
  have ok := wrd_ok hp h1
  obtain ⟨a, b, c⟩ := slw_at (ω := ρ) (A := A) ok
  have e := (wK_20 hp h1).1
  refine ⟨a, ?_, by show 1 ≤ slw _ _ _ _ A; rw [c]; exact ok.1.1, ?_⟩
  · show rk (slw _ _ _ _) A = _
    rw [b, tky_sh, e]
  · show slw _ _ _ _ A = _
    rw [c, (wK_20 hp h1).2]
    have := ok.1.1
    omega
end T3
