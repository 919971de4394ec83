/-! A key that grows; its letters -/
def dv32 (x : Int) (m : Nat) : Prop := x % 32 ^ m = 0
def KS (σ : jH) (o K : Int) (n : Nat) : Prop := n ≤ 20 ∧ 0 ≤ K ∧ K < 1267650600228229401496703205376 ∧ dv32 K (20 - n) ∧ σ o 0 = K / 1125899906842624 ∧ σ o 1 = K % 1125899906842624 ∧ σ o 2 = n
def kad (K : Int) (n : Nat) (x : Int) : Int := if n < 20 then K + (x + 1) * 32 ^ (19 - n) else K
theorem kad_hi {K x : Int} {n : Nat} (hn : n < 10) (h0 : 0 ≤ K) (h1 : K < 1267650600228229401496703205376) (hm : dv32 K (20 - n)) (hx : 0 ≤ x) (hx2 : x < 26) :
    (K + (x + 1) * 32 ^ (19 - n)) / 1125899906842624 = K / 1125899906842624 + (x + 1) * 32 ^ (9 - n) ∧ (K + (x + 1) * 32 ^ (19 - n)) % 1125899906842624 = K % 1125899906842624 ∧
    dv32 (K / 1125899906842624) (9 - n + 1) ∧ K + (x + 1) * 32 ^ (19 - n) < 1267650600228229401496703205376 ∧ dv32 (K + (x + 1) * 32 ^ (19 - n)) (20 - (n + 1)) ∧ 0 ≤ K + (x + 1) * 32 ^ (19 - n) := by
  rcases (by omega : n = 0 ∨ n = 1 ∨ n = 2 ∨ n = 3 ∨ n = 4 ∨ n = 5 ∨ n = 6 ∨ n = 7 ∨ n = 8 ∨ n = 9) with rfl | rfl | rfl | rfl | rfl | rfl | rfl | rfl | rfl | rfl
  all_goals simp only [dv32, Nat.reduceSub, Nat.reduceAdd, Int.reducePow] at *
  all_goals omega
theorem kad_lo {K x : Int} {n : Nat} (hn : n < 20) (hn2 : 10 ≤ n) (h0 : 0 ≤ K) (h1 : K < 1267650600228229401496703205376) (hm : dv32 K (20 - n)) (hx : 0 ≤ x) (hx2 : x < 26) :
    (K + (x + 1) * 32 ^ (19 - n)) / 1125899906842624 = K / 1125899906842624 ∧ (K + (x + 1) * 32 ^ (19 - n)) % 1125899906842624 = K % 1125899906842624 + (x + 1) * 32 ^ (19 - n) ∧
    dv32 (K % 1125899906842624) (19 - n + 1) ∧ K + (x + 1) * 32 ^ (19 - n) < 1267650600228229401496703205376 ∧ dv32 (K + (x + 1) * 32 ^ (19 - n)) (20 - (n + 1)) ∧ 0 ≤ K + (x + 1) * 32 ^ (19 - n) := by
  rcases (by omega : n = 10 ∨ n = 11 ∨ n = 12 ∨ n = 13 ∨ n = 14 ∨ n = 15 ∨ n = 16 ∨ n = 17 ∨ n = 18 ∨ n = 19) with rfl | rfl | rfl | rfl | rfl | rfl | rfl | rfl | rfl | rfl
  all_goals simp only [dv32, Nat.reduceSub, Nat.reduceAdd, Int.reducePow] at *
  all_goals omega
theorem tmod10 {n : Nat} : Int.tmod (n : Int) 10 = ((n % 10 : Nat) : Int) := by
  rw [Int.tmod_eq_emod_of_nonneg (by omega)]
  omega
theorem sft45 {n m : Nat} (h : m = 9 - n % 10) : w32 (45 - w32 (5 * Int.tmod (n : Int) 10)) = ((5 * m : Nat) : Int) := by
  rw [tmod10, w32_of (x := 5 * _) (by omega) (by omega), w32_of (by omega) (by omega)]
  omega
theorem c_Key_add {o K x : Int} {n : Nat} {σ : jH} (Y : KY o) (hs : KS σ o K n) (hx : 0 ≤ x) (hx2 : x < 26) :
    Cw 10 m_Key_add [vR o, vI x] σ (fun _ τ => KS τ o (kad K n x) (min (n + 1) 20) ∧ ∀ c, c ≠ o → τ c = σ c) := by
  have k1 : gW.2.1 o = (11, 3) := Y
  obtain ⟨h1, h2, h3, h4, h5, h6, h7⟩ := hs
  refine Cw_of o_Key_add rfl fun l d hd => jwp_sound t_Key_add _ (b_Key_add_0 ?_)
  simp only [RW, true_and, and_true, and_self, true_or, or_true, Nat.reduceLeDiff, Nat.reduceEqDiff, Nat.reduceAdd, Int.reduceLE, Int.reduceLT, Int.reduceEq, Int.reduceNeg, Int.reduceNe, Nat.reduceSub, reduceIte, implies_true, k1, h7]
  have hw : w32 ((n : Int) + 1) = ((n + 1 : Nat) : Int) := w32_of (by omega) (by omega)
  have hw2 : w64 (x + 1) = x + 1 := w64_of (by omega) (by omega)
  refine ⟨fun q => ?_, fun q => ⟨fun q => absurd q (by omega), fun _ => ⟨fun _ => ⟨fun q2 => ?_, fun q2 => ?_⟩, fun q => absurd q (by omega)⟩⟩⟩
  · have e1 : min (n + 1) 20 = n := by clear h2 h3 h4 h5 h6; omega
    have e2 : kad K n x = K := by
      unfold kad
      rw [if_neg (by clear h2 h3 h4 h5 h6; omega)]
    rw [e1, e2]
    exact ⟨h1, h2, h3, h4, h5, h6, h7⟩
  · obtain ⟨e1, e2, e3, e4, e5, e6⟩ := kad_lo (by omega) (by omega) h2 h3 h4 hx hx2
    have hm : min (n + 1) 20 = n + 1 := by omega
    rw [hm, sft45 (m := 19 - n) (by omega), h6, hw2, kor (by omega) (by omega) (by omega) e3 (by omega) (by omega), ju_ne2 (by omega), h7, hw]
    unfold kad
    rw [if_pos (by omega)]
    refine ⟨⟨by omega, e6, e4, e5, ?_, ?_, ?_⟩, fun c hc => ?_⟩
    · rw [ju_ne2 (by omega), ju_ne2 (by omega), h5, e1]
    · rw [ju_ne2 (by omega), ju_self, e2]
    · rw [ju_self]
    · rw [ju_row hc, ju_row hc]
  · obtain ⟨e1, e2, e3, e4, e5, e6⟩ := kad_hi (by omega) h2 h3 h4 hx hx2
    have hm : min (n + 1) 20 = n + 1 := by omega
    rw [hm, sft45 (m := 9 - n) (by omega), h5, hw2, kor (by omega) (by omega) (by omega) e3 (by omega) (by omega), ju_ne2 (by omega), h7, hw]
    unfold kad
    rw [if_pos (by omega)]
    refine ⟨⟨by omega, e6, e4, e5, ?_, ?_, ?_⟩, fun c hc => ?_⟩
    · rw [ju_ne2 (by omega), ju_self, e1]
    · rw [ju_ne2 (by omega), ju_ne2 (by omega), h6, e2]
    · rw [ju_self]
    · rw [ju_row hc, ju_row hc]
/-- a whole key mapped -/
def km (ρ : Int → Int) (K : Int) : Int := hm ρ 20 K
theorem km_hl (ρ : Int → Int) (K : Int) : km ρ K = hm ρ 10 (K / 1125899906842624) * 1125899906842624 + hm ρ 10 (K % 1125899906842624) := by
  have h := hm_dm (ρ := ρ) 10 10 (K / 1125899906842624) (K % 1125899906842624) (by omega) (by omega)
  have e : K / 1125899906842624 * 32 ^ 10 + K % 1125899906842624 = K := by omega
  rw [e] at h
  exact h
theorem km_div {ρ : Int → Int} (h : okρ ρ) (K : Int) : km ρ K / 1125899906842624 = hm ρ 10 (K / 1125899906842624) ∧ km ρ K % 1125899906842624 = hm ρ 10 (K % 1125899906842624) := by
  have h1 := hm_r h 10 (K % 1125899906842624)
  have e : (32 : Int) ^ 10 = 1125899906842624 := by decide
  rw [e] at h1
  rw [km_hl]
  omega
theorem km_r {ρ : Int → Int} (h : okρ ρ) (K : Int) : 0 ≤ km ρ K ∧ km ρ K < 1267650600228229401496703205376 := hm_r h 20 K
theorem c_Key_map {o a : Int} {σ : jH} (Y : KY o) (ht : gW.2.1 a = (2, 26)) (hao : a ≠ o) (hρ : okρ (σ a)) (h0 : 0 ≤ σ o 0 ∧ σ o 0 < 1125899906842624) (h1 : 0 ≤ σ o 1 ∧ σ o 1 < 1125899906842624) :
    Cw 11 m_Key_map [vR o, vR a] σ (fun _ τ => τ = ju (ju σ o 0 (hm (σ a) 10 (σ o 0))) o 1 (hm (σ a) 10 (σ o 1))) := by
  have k1 : gW.2.1 o = (11, 3) := Y
  refine Cw_of o_Key_map rfl fun l d hd => jwp_sound t_Key_map _ (b_Key_map_0 ?_)
  simp only [RW, true_and, and_true, and_self, true_or, or_true, Nat.reduceLeDiff, Nat.reduceEqDiff, Nat.reduceAdd, Int.reduceLE, Int.reduceLT, Int.reduceEq, Int.reduceNeg, Int.reduceNe, Nat.reduceSub, reduceIte, implies_true, k1]
  refine cN_p (c_Key_mapped _ ht hρ h0.1 h0.2) (by omega) ?_
  have e : ju σ o 0 (hm (σ a) 10 (σ o 0)) a = σ a := ju_row hao
  rw [ju_ne2 (by omega)]
  refine cN_p (c_Key_mapped _ ht (by rw [e]; exact hρ) h1.1 h1.2) (by omega) ?_
  rw [e]
def dgk (K : Int) (j : Nat) : Int := K / 32 ^ (19 - j) % 32
theorem c_Key_letterAt {K i : Int} (σ : jH) (h0 : 0 ≤ K) (h1 : K < 1267650600228229401496703205376) :
    Cw 10 m_Key_letterAt [vL (K / 1125899906842624), vL (K % 1125899906842624), vI i] σ (fun z τ => z = (if 0 ≤ i ∧ i < 20 then dgk K i.toNat - 1 else -1) ∧ τ = σ) := by
  refine Cw_of o_Key_letterAt rfl fun l d hd => jwp_sound t_Key_letterAt _ (b_Key_letterAt_0 ?_)
  simp only [RW, true_and, and_true, and_self, true_or, or_true, Nat.reduceLeDiff, Nat.reduceEqDiff, Nat.reduceAdd, Int.reduceLE, Int.reduceLT, Int.reduceEq, Int.reduceNeg, Int.reduceNe, Nat.reduceSub, reduceIte, implies_true]
  refine ⟨fun q => by rw [if_neg (by omega)], fun q => ⟨fun q2 => ⟨fun q3 => ?_, fun q3 => ?_⟩, fun q2 => by rw [if_neg (by omega)]⟩⟩
  · refine jwp_sound t_Key_letterAt _ (b_Key_letterAt_26 ?_)
    simp only [RW, true_and, and_true, and_self, true_or, or_true, Nat.reduceLeDiff, Nat.reduceEqDiff, Nat.reduceAdd, Int.reduceLE, Int.reduceLT, Int.reduceEq, Int.reduceNeg, Int.reduceNe, Nat.reduceSub, reduceIte, implies_true]
    rw [if_pos (by omega)]
    have e : i = ((i.toNat : Nat) : Int) := by omega
    rw [e, sft45 (m := 19 - i.toNat) (by omega), kdg (by omega) (by omega) (by omega)]
    have e2 : K % 1125899906842624 / 32 ^ (19 - i.toNat) % 32 = dgk K i.toNat := by
      unfold dgk
      rcases (by omega : i.toNat = 10 ∨ i.toNat = 11 ∨ i.toNat = 12 ∨ i.toNat = 13 ∨ i.toNat = 14 ∨ i.toNat = 15 ∨ i.toNat = 16 ∨ i.toNat = 17 ∨ i.toNat = 18 ∨ i.toNat = 19) with e | e | e | e | e | e | e | e | e | e
      all_goals rw [e]
      all_goals simp only [Nat.reduceSub, Int.reducePow]
      all_goals omega
    rw [e2]
    have := dig_r K (19 - i.toNat)
    have e3 : dgk K i.toNat = K / 32 ^ (19 - i.toNat) % 32 := rfl
    rw [w32_of (x := dgk K i.toNat) (by omega) (by omega), w32_of (by omega) (by omega), Int.toNat_natCast]
  · refine jwp_sound t_Key_letterAt _ (b_Key_letterAt_26 ?_)
    simp only [RW, true_and, and_true, and_self, true_or, or_true, Nat.reduceLeDiff, Nat.reduceEqDiff, Nat.reduceAdd, Int.reduceLE, Int.reduceLT, Int.reduceEq, Int.reduceNeg, Int.reduceNe, Nat.reduceSub, reduceIte, implies_true]
    rw [if_pos (by omega)]
    have e : i = ((i.toNat : Nat) : Int) := by omega
    rw [e, sft45 (m := 9 - i.toNat) (by omega), kdg (by omega) (by omega) (by omega)]
    have e2 : K / 1125899906842624 / 32 ^ (9 - i.toNat) % 32 = dgk K i.toNat := by
      unfold dgk
      rcases (by omega : i.toNat = 0 ∨ i.toNat = 1 ∨ i.toNat = 2 ∨ i.toNat = 3 ∨ i.toNat = 4 ∨ i.toNat = 5 ∨ i.toNat = 6 ∨ i.toNat = 7 ∨ i.toNat = 8 ∨ i.toNat = 9) with e | e | e | e | e | e | e | e | e | e
      all_goals rw [e]
      all_goals simp only [Nat.reduceSub, Int.reducePow]
      all_goals omega
    rw [e2]
    have := dig_r K (19 - i.toNat)
    have e3 : dgk K i.toNat = K / 32 ^ (19 - i.toNat) % 32 := rfl
    rw [w32_of (x := dgk K i.toNat) (by omega) (by omega), w32_of (by omega) (by omega), Int.toNat_natCast]
/-- a key's letters: n digits, then nothing -/
def VK (K : Int) (n : Nat) : Prop := n ≤ 20 ∧ 0 ≤ K ∧ K < 1267650600228229401496703205376 ∧ (∀ j, j < n → 1 ≤ dgk K j ∧ dgk K j ≤ 26) ∧ ∀ j, n ≤ j → j < 20 → dgk K j = 0
theorem l_Key_lengthOf {l : Launch} {d : Nat} {K : Int} {n : Nat} {σ : jH} (hd : 11 ≤ d) (V : VK K n) : ∀ (k i : Nat), i + k = n →
    Ev (l, (fun _ => 0), 0) d 0 0 m_Key_lengthOf (RW fun z τ => z = n ∧ τ = σ) 3 [some (vL (K / 1125899906842624)), none, some (vL (K % 1125899906842624)), none, some (vI i)] [] gW σ 0 0 := by
  intro k
  obtain ⟨v1, v2, v3, v4, v5⟩ := V
  induction k with
  | zero =>
    intro i hi
    have e : i = n := by omega
    subst e
    refine jwp_sound t_Key_lengthOf _ (b_Key_lengthOf_3 ?_)
    simp only [RW, true_and, and_true, and_self, true_or, or_true, Nat.reduceLeDiff, Nat.reduceEqDiff, Nat.reduceAdd, Int.reduceLE, Int.reduceLT, Int.reduceEq, Int.reduceNeg, Int.reduceNe, Nat.reduceSub, reduceIte, implies_true]
    intro q
    refine cN_p (c_Key_letterAt _ v2 v3) (by omega) ?_
    rw [if_pos (by omega)]
    have := v5 i (by omega) (by omega)
    have e2 : ((i : Int)).toNat = i := by omega
    rw [e2, this]
    exact ⟨fun _ => rfl, fun q => absurd rfl q⟩
  | succ k ih =>
    intro i hi
    refine jwp_sound t_Key_lengthOf _ (b_Key_lengthOf_3 ?_)
    simp only [RW, true_and, and_true, and_self, true_or, or_true, Nat.reduceLeDiff, Nat.reduceEqDiff, Nat.reduceAdd, Int.reduceLE, Int.reduceLT, Int.reduceEq, Int.reduceNeg, Int.reduceNe, Nat.reduceSub, reduceIte, implies_true]
    refine ⟨fun q => absurd q (by omega), fun q => ?_⟩
    refine cN_p (c_Key_letterAt _ v2 v3) (by omega) ?_
    rw [if_pos (by omega)]
    have := v4 i (by omega)
    have e2 : ((i : Int)).toNat = i := by omega
    rw [e2]
    refine ⟨fun q => absurd q (by omega), fun q => ?_⟩
    rw [w32_of (by omega) (by omega)]
    exact ih (i + 1) (by omega)
theorem c_Key_lengthOf {K : Int} {n : Nat} (V : VK K n) (σ : jH) : Cw 11 m_Key_lengthOf [vL (K / 1125899906842624), vL (K % 1125899906842624)] σ (fun z τ => z = n ∧ τ = σ) := by
  refine Cw_of o_Key_lengthOf rfl fun l d hd => jwp_sound t_Key_lengthOf _ (b_Key_lengthOf_0 ?_)
  exact l_Key_lengthOf hd V n 0 (by omega)
