/-! Slips: what the class keeps; how many -/
def SPO (ω : Int → Int) : Prop := ∀ q, 0 ≤ q → q < 1200 → RV ω (7477 + 21 * q)
def SPC (σ : jH) (o : Int) (ω : Int → Int) : Prop := ∀ q, 0 ≤ q → q < 1200 → KKV σ (o + 20) q (rk ω (7477 + 21 * q))
def scnt (ω : Int → Int) : Nat → Int
  | 0 => 0
  | q + 1 => scnt ω q + if ω (7477 + 21 * q) ≠ 0 then 1 else 0
theorem scnt_r (ω : Int → Int) : ∀ n : Nat, 0 ≤ scnt ω n ∧ scnt ω n ≤ n
  | 0 => by simp [scnt]
  | n + 1 => by
    have := scnt_r ω n
    simp only [scnt]
    split <;> omega
theorem rk_z {f : Int → Int} {a : Int} (V : RV f a) : rk f a = 0 ↔ f a = 0 := by
  refine ⟨fun h => ?_, rk_0⟩
  obtain ⟨v1, v2, v3⟩ := V
  by_cases q : f a = 0
  · exact q
  · exfalso
    have p := v3 0 (by omega) (by omega)
    have lt := rh_lt (g := fun _ => 0) (g' := dgr f a) (n := 0) (fun j a b => by omega) (by unfold dgr; rw [if_pos (by omega)]; show (0 : Int) < _; simp only [Int.natCast_zero, Int.add_zero] at *; omega) 19 (fun j _ _ => by omega) (fun j a b => by have := dgr_r ⟨v1, v2, v3⟩ j a; omega)
    have z : rh (fun _ => (0 : Int)) (0 + 1 + 19) = 0 := by decide
    have e : rk f a = rh (dgr f a) (0 + 1 + 19) := rfl
    omega
section SP
variable {l : Launch} {d : Nat} {o : Int} {ω : Int → Int} {σ : jH} {m w x : Int → Int}
theorem c_hasSlip {h p : Int} (hI : isImage o) (S : SPO ω) (C : SPC σ o ω) (hh : 0 ≤ h ∧ h < 4) (hp : 0 ≤ p ∧ p < 300) : Cw 11 m_Image_hasSlip [vR o, vI h, vI p] σ (fun z τ => z = (if ω (7477 + 21 * (300 * h + p)) ≠ 0 then 1 else 0) ∧ τ = σ) := by
  skip
  have K : KR (o + 20) 1200 := kr_Image_6 hI
  refine Cw_of o_Image_hasSlip rfl fun l d hd => jwp_sound t_Image_hasSlip _ (b_Image_hasSlip_0 ?_)
  simp only [RW, true_and, and_true, and_self, true_or, or_true, Nat.reduceLeDiff, Nat.reduceEqDiff, Nat.reduceAdd, Int.reduceLE, Int.reduceLT, Int.reduceEq, Int.reduceNeg, Int.reduceNe, Nat.reduceSub, reduceIte, implies_true, im_t hI, im_r0 hI, im_t0 hI, im_r1 hI, im_t1 hI, im_r2 hI, im_t2 hI, im_r3 hI, im_t3 hI, im_r4 hI, im_t4 hI, im_r5 hI, im_t5 hI, im_r6 hI, im_t6 hI]
  have s0 : Cw 10 m_Image_slipAt [vI h, vI p] σ (fun z τ => z = 300 * h + p ∧ τ = σ) := by
    refine Cw_of o_Image_slipAt rfl fun l d hd => jwp_sound t_Image_slipAt _ (b_Image_slipAt_0 ?_)
    simp only [RW, true_and, and_true, and_self, true_or, or_true, Nat.reduceLeDiff, Nat.reduceEqDiff, Nat.reduceAdd, Int.reduceLE, Int.reduceLT, Int.reduceEq, Int.reduceNeg, Int.reduceNe, Nat.reduceSub, reduceIte, implies_true]
    rw [w32_of (x := h * 300) (by omega) (by omega), w32_of (x := h * 300 + p) (by omega) (by omega)]
    omega
  refine cN_p s0 (by omega) ?_
  refine cN_p (c_KeyRow_holds K _ _ _ _) (by omega) ?_
  obtain ⟨k1, k2⟩ := C (300 * h + p) (by omega) (by omega)
  have r := rk_r (S (300 * h + p) (by omega) (by omega))
  have z := rk_z (S (300 * h + p) (by omega) (by omega))
  rw [k1, k2]
  by_cases q : ω (7477 + 21 * (300 * h + p)) = 0
  · have q2 := z.mpr q
    rw [q2, if_pos ⟨by omega, by omega, by omega, by omega⟩, if_neg (fun x => x q)]
    exact ⟨fun _ => ⟨rfl, rfl⟩, fun x => by omega⟩
  · rw [if_neg (fun x => q (z.mp (by omega))), if_pos q]
    exact ⟨fun x => absurd rfl x, fun _ => ⟨rfl, rfl⟩⟩
theorem l_slipCount (hd : 12 ≤ d) (hI : isImage o) (S : SPO ω) (C : SPC σ o ω) : ∀ (k h p : Nat), 301 * h + p + k = 1204 → h ≤ 4 → p ≤ 300 → h < 4 →
    Ev (l, (fun _ => 0), 0) d 0 0 m_Image_slipCount (RW fun z τ => z = scnt ω 1200 ∧ τ = σ) 11 [some (vR o), some (vI (scnt ω (300 * h + p))), some (vI h), some (vI p)] [] gW σ 0 0
  | 0, h, p, e, h4, p3, hl => by omega
  | k + 1, h, p, e, h4, p3, hl => by
    have r := scnt_r ω (300 * h + p)
    by_cases q : p = 300
    · refine jwp_sound t_Image_slipCount _ (b_Image_slipCount_11 ?_)
      simp only [RW, true_and, and_true, and_self, true_or, or_true, Nat.reduceLeDiff, Nat.reduceEqDiff, Nat.reduceAdd, Int.reduceLE, Int.reduceLT, Int.reduceEq, Int.reduceNeg, Int.reduceNe, Nat.reduceSub, reduceIte, implies_true]
      rw [w32_of (x := (h : Int) + 1) (by omega) (by omega)]
      refine ⟨fun _ => ?_, fun x => absurd x (by omega)⟩
      refine jwp_sound t_Image_slipCount _ (b_Image_slipCount_4 ?_)
      simp only [RW, true_and, and_true, and_self, true_or, or_true, Nat.reduceLeDiff, Nat.reduceEqDiff, Nat.reduceAdd, Int.reduceLE, Int.reduceLT, Int.reduceEq, Int.reduceNeg, Int.reduceNe, Nat.reduceSub, reduceIte, implies_true]
      by_cases q2 : h = 3
      · refine ⟨fun _ => ?_, fun x => absurd x (by omega)⟩
        rw [show 300 * h + p = 1200 by omega]
      · refine ⟨fun x => absurd x (by omega), fun _ => ?_⟩
        have := l_slipCount hd hI S C k (h + 1) 0 (by omega) (by omega) (by omega) (by omega)
        rw [show 300 * (h + 1) + 0 = 300 * h + p by omega, show ((h + 1 : Nat) : Int) = (h : Int) + 1 by omega] at this
        exact this
    · have IH := l_slipCount hd hI S C k h (p + 1) (by omega) h4 (by omega) hl
      rw [show ((p + 1 : Nat) : Int) = (p : Int) + 1 by omega] at IH
      have hs : scnt ω (300 * h + (p + 1)) = scnt ω (300 * h + p) + if ω (7477 + 21 * (300 * h + p)) ≠ 0 then 1 else 0 := by
        rw [show 300 * h + (p + 1) = 300 * h + p + 1 by omega]
        simp only [scnt]
        rw [show ((300 * h + p : Nat) : Int) = 300 * (h : Int) + p by omega]
      rw [hs] at IH
      refine jwp_sound t_Image_slipCount _ (b_Image_slipCount_11 ?_)
      simp only [RW, true_and, and_true, and_self, true_or, or_true, Nat.reduceLeDiff, Nat.reduceEqDiff, Nat.reduceAdd, Int.reduceLE, Int.reduceLT, Int.reduceEq, Int.reduceNeg, Int.reduceNe, Nat.reduceSub, reduceIte, implies_true, im_t hI, im_r0 hI, im_t0 hI, im_r1 hI, im_t1 hI, im_r2 hI, im_t2 hI, im_r3 hI, im_t3 hI, im_r4 hI, im_t4 hI, im_r5 hI, im_t5 hI, im_r6 hI, im_t6 hI]
      rw [w32_of (x := (p : Int) + 1) (by omega) (by omega), w32_of (x := scnt _ _ + 0) (by omega) (by omega), w32_of (x := scnt _ _ + 1) (by omega) (by omega)]
      refine ⟨fun x => absurd x (by omega), fun _ => ?_⟩
      repeat (refine And.intro (by omega) ?_)
      refine cN_p (c_hasSlip hI S C ⟨by omega, by omega⟩ ⟨by omega, by omega⟩) (by omega) ?_
      by_cases q2 : ω (7477 + 21 * (300 * h + p)) ≠ 0
      · rw [if_pos q2] at IH ⊢
        exact ⟨fun x => by omega, fun _ => IH⟩
      · rw [if_neg q2] at IH ⊢
        exact ⟨fun _ => IH, fun x => absurd rfl x⟩
theorem c_slipCount (hI : isImage o) (S : SPO ω) (C : SPC σ o ω) : Cw 12 m_Image_slipCount [vR o] σ (fun z τ => z = scnt ω 1200 ∧ τ = σ) := by
  refine Cw_of o_Image_slipCount rfl fun l d hd => jwp_sound t_Image_slipCount _ (b_Image_slipCount_0 ?_)
  refine jwp_sound t_Image_slipCount _ (b_Image_slipCount_4 ?_)
  refine ⟨fun x => absurd x (by omega), fun _ => ?_⟩
  exact l_slipCount hd hI S C 1204 0 0 (by omega) (by omega) (by omega) (by omega)
def mcnt (m : Int → Int) : Nat → Int
  | 0 => 0
  | s + 1 => mcnt m s + if m s ≠ -1 then 1 else 0
theorem mcnt_r (m : Int → Int) : ∀ n : Nat, 0 ≤ mcnt m n ∧ mcnt m n ≤ n
  | 0 => by simp [mcnt]
  | n + 1 => by
    have := mcnt_r m n
    simp only [mcnt]
    split <;> omega
theorem l_filled (hd : 12 ≤ d) (C : SLC σ m w x) : ∀ (k s : Nat), s + k = 4 →
    Ev (l, (fun _ => 0), 0) d 0 0 m_Slots_filled (RW fun z τ => z = mcnt m 4 ∧ τ = σ) 4 [some (vR 184), some (vI (mcnt m s)), some (vI s)] [] gW σ 0 0
  | 0, s, h => by
    have s4 : s = 4 := by omega
    subst s4
    refine jwp_sound t_Slots_filled _ (b_Slots_filled_4 ?_)
    exact ⟨fun _ => ⟨rfl, rfl, rfl⟩, fun q => absurd q (by omega)⟩
  | k + 1, s, h => by
    have IH := l_filled hd C k (s + 1) (by omega)
    have r := mcnt_r m s
    rw [show ((s + 1 : Nat) : Int) = (s : Int) + 1 by omega] at IH
    simp only [mcnt] at IH
    refine jwp_sound t_Slots_filled _ (b_Slots_filled_4 ?_)
    simp only [RW, true_and, and_true, and_self, true_or, or_true, Nat.reduceLeDiff, Nat.reduceEqDiff, Nat.reduceAdd, Int.reduceLE, Int.reduceLT, Int.reduceEq, Int.reduceNeg, Int.reduceNe, Nat.reduceSub, reduceIte, implies_true, gt_184]
    rw [w32_of (x := (s : Int) + 1) (by omega) (by omega), w32_of (x := mcnt _ _ + 0) (by omega) (by omega), w32_of (x := mcnt _ _ + 1) (by omega) (by omega)]
    refine ⟨fun x => absurd x (by omega), fun _ => ?_⟩
    refine cN_p (c_isEmpty C _) (by omega) ?_
    by_cases q : m s ≠ -1
    · rw [if_pos q] at IH
      rw [if_pos ⟨⟨by omega, by omega⟩, q⟩]
      exact ⟨fun _ => IH, fun x => absurd rfl x⟩
    · rw [if_neg q] at IH
      rw [if_neg (fun y => q y.2)]
      exact ⟨fun x => by omega, fun _ => IH⟩
theorem c_filled (C : SLC σ m w x) : Cw 12 m_Slots_filled [vR 184] σ (fun z τ => z = mcnt m 4 ∧ τ = σ) := by
  refine Cw_of o_Slots_filled rfl fun l d hd => jwp_sound t_Slots_filled _ (b_Slots_filled_0 ?_)
  exact l_filled hd C 4 0 rfl
end SP
