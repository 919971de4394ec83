/-! Shares: how many hands; the class -/
/-- hands needed: so many lines to go, hands so far, words in the last one, the line -/
def hnk (c : Int → Int) (m : Int) : Nat → Int → Int → Int → Int
  | 0, h, _, _ => h
  | k + 1, h, s, i => if m < c i then 41 else if m < s + c i then hnk c m k (h + 1) (c i) (i + 1) else hnk c m k h (s + c i) (i + 1)
def HN (c : Int → Int) (L i m : Int) : Int := hnk c m (L - i).toNat (if i < L then 1 else 0) 0 i
/-- the first that is so, or the end -/
def fsi (P : Int → Bool) : Nat → Int → Int
  | 0, i => i
  | k + 1, i => if P i = true then i else fsi P k (i + 1)
theorem fsi_r {P : Int → Bool} : ∀ (k : Nat) (i : Int), i ≤ fsi P k i ∧ fsi P k i ≤ i + k
  | 0, i => by simp [fsi]
  | k + 1, i => by
    have := fsi_r (P := P) k (i + 1)
    simp only [fsi]
    split <;> omega
theorem fsi_skip {P : Int → Bool} : ∀ (k a : Nat) (i : Int), (∀ j, i ≤ j → j < i + a → P j = false) → fsi P (a + k) i = fsi P k (i + a)
  | k, 0, i, _ => by rw [Nat.zero_add, Int.natCast_zero, Int.add_zero]
  | k, a + 1, i, h => by
    have IH := fsi_skip k a (i + 1) (fun j x y => h j (by omega) (by omega))
    rw [show a + 1 + k = a + k + 1 by omega]
    simp only [fsi]
    rw [h i (by omega) (by omega), if_neg Bool.false_ne_true, IH, show i + 1 + (a : Int) = i + ((a + 1 : Nat) : Int) by omega]
def lnW (ω : Int → Int) (e i : Int) : Int := cq (wW ω e).2.2.1 (wW ω e).1.toNat i
def shP (c : Int → Int) (L n m : Int) : Bool := decide (HN c L 0 m ≤ n)
def shQ (c : Int → Int) (L m r i : Int) : Bool := decide (HN c L i m ≤ r)
def shM (c : Int → Int) (L n : Int) : Int := fsi (shP c L n) 300 0
def sts (c : Int → Int) (L m n : Int) : Nat → Int
  | 0 => 0
  | h + 1 => fsi (shQ c L m (n - h - 1)) (L - sts c L m n h).toNat (sts c L m n h)
theorem sts_r {c : Int → Int} {L m n : Int} (hL : 0 ≤ L) : ∀ h : Nat, 0 ≤ sts c L m n h ∧ sts c L m n h ≤ L
  | 0 => ⟨Int.le_refl _, hL⟩
  | h + 1 => by
    have IH := sts_r (c := c) (m := m) (n := n) hL h
    have := fsi_r (P := shQ c L m (n - h - 1)) (L - sts c L m n h).toNat (sts c L m n h)
    simp only [sts]
    omega
section SH
variable {l : Launch} {d : Nat} {ω c : Int → Int} {σ : jH} {b L n : Int}
theorem l_hn {m : Int} (hd : 10 ≤ d) (hW : isWords b) (hc : ∀ i, 0 ≤ i → i < 40 → σ (b + 11) i = c i ∧ 0 ≤ c i ∧ c i ≤ 300) (hL : L ≤ 40) (hm : 0 ≤ m ∧ m ≤ 300) : ∀ (k : Nat) (h s i : Int), i + k = L → 0 ≤ i → 0 ≤ h → h + k ≤ 100 → 0 ≤ s → s ≤ m →
    Ev (l, (fun _ => 0), 0) d 0 0 m_Words_handsNeeded (RW fun z τ => z = hnk c m k h s i ∧ τ = σ) 22 [some (vR b), none, some (vI L), some (vI m), some (vI h), some (vI s), some (vI i)] [] gW σ 0 0
  | 0, h, s, i, hk, i0, h0, h1, s0, s1 => by
    skip
    refine jwp_sound t_Words_handsNeeded _ (b_Words_handsNeeded_22 ?_)
    simp only [RW, true_and, and_true, and_self, true_or, or_true, Nat.reduceLeDiff, Nat.reduceEqDiff, Nat.reduceAdd, Int.reduceLE, Int.reduceLT, Int.reduceEq, Int.reduceNeg, Int.reduceNe, Nat.reduceSub, reduceIte, implies_true, wd_t hW, wd_r1 hW, wd_t1 hW, wd_r2 hW, wd_t2 hW, wd_r3 hW, wd_t3 hW, wd_r4 hW, wd_t4 hW, wd_r5 hW, wd_t5 hW, wd_r6 hW, wd_t6 hW, wd_r7 hW, wd_t7 hW, wd_r8 hW, wd_t8 hW, wd_r10 hW, wd_t10 hW, wd_r11 hW, wd_t11 hW, wd_r12 hW, wd_t12 hW, wd_r13 hW, wd_t13 hW]
    exact ⟨fun _ => rfl, fun q => absurd q (by omega)⟩
  | k + 1, h, s, i, hk, i0, h0, h1, s0, s1 => by
    skip
    obtain ⟨c1, c2, c3⟩ := hc i i0 (by omega)
    have IH := fun h s => l_hn hd hW hc hL hm k h s (i + 1) (by omega) (by omega)
    refine jwp_sound t_Words_handsNeeded _ (b_Words_handsNeeded_22 ?_)
    simp only [RW, true_and, and_true, and_self, true_or, or_true, Nat.reduceLeDiff, Nat.reduceEqDiff, Nat.reduceAdd, Int.reduceLE, Int.reduceLT, Int.reduceEq, Int.reduceNeg, Int.reduceNe, Nat.reduceSub, reduceIte, implies_true, wd_t hW, wd_r1 hW, wd_t1 hW, wd_r2 hW, wd_t2 hW, wd_r3 hW, wd_t3 hW, wd_r4 hW, wd_t4 hW, wd_r5 hW, wd_t5 hW, wd_r6 hW, wd_t6 hW, wd_r7 hW, wd_t7 hW, wd_r8 hW, wd_t8 hW, wd_r10 hW, wd_t10 hW, wd_r11 hW, wd_t11 hW, wd_r12 hW, wd_t12 hW, wd_r13 hW, wd_t13 hW]
    rw [c1, w32_of (x := i + 1) (by omega) (by omega), w32_of (x := h + 1) (by omega) (by omega), w32_of (x := s + c i) (by omega) (by omega)]
    refine ⟨fun q => absurd q (by omega), fun _ => ⟨fun q => absurd q (by omega), fun _ => ?_⟩⟩
    repeat (refine And.intro (by omega) ?_)
    simp only [hnk]
    refine ⟨fun q => ⟨i0, by omega, fun q2 => ?_, fun q2 => ⟨i0, by omega, ?_⟩⟩, fun q => ?_⟩
    · rw [if_neg (by omega), if_neg (by omega)]
      exact IH h (s + c i) h0 (by omega) (by omega) q2
    · rw [if_neg (by omega), if_pos q2]
      exact IH (h + 1) (c i) (by omega) (by omega) c2 q
    · rw [if_pos q]
theorem c_handsNeeded {m i : Int} (hW : isWords b) (hc : ∀ i, 0 ≤ i → i < 40 → σ (b + 11) i = c i ∧ 0 ≤ c i ∧ c i ≤ 300) (hL : L ≤ 40) (hm : 0 ≤ m ∧ m ≤ 300) (hi : 0 ≤ i ∧ i ≤ L) : Cw 10 m_Words_handsNeeded [vR b, vI i, vI L, vI m] σ (fun z τ => z = HN c L i m ∧ τ = σ) := by
  have hk : i + ((L - i).toNat : Int) = L := by omega
  have mx : max 0 i = i := by omega
  refine Cw_of o_Words_handsNeeded rfl fun l d hd => jwp_sound t_Words_handsNeeded _ (b_Words_handsNeeded_0 ?_)
  refine ⟨fun q => ?_, fun q => ?_⟩
  all_goals refine jwp_sound t_Words_handsNeeded _ (b_Words_handsNeeded_10 ?_)
  all_goals refine ⟨by omega, ?_⟩
  all_goals rw [mx]
  · have := l_hn (l := l) hd hW hc hL hm (L - i).toNat 0 0 i hk hi.1 (by omega) (by omega) (by omega) hm.1
    unfold HN
    rw [if_neg (by omega)]
    exact this
  · have := l_hn (l := l) hd hW hc hL hm (L - i).toNat 1 0 i hk hi.1 (by omega) (by omega) (by omega) hm.1
    unfold HN
    rw [if_pos q]
    exact this
/-- most is found; then the starts -/
theorem l_dv_63 {P : Int → jH → Prop} {m : Int} (hd : 11 ≤ d) (hW : isWords b) (h180 : b < 180) (hL : 0 ≤ L ∧ L ≤ 40) (hn : 1 ≤ n ∧ n ≤ 8) (hm : 0 ≤ m ∧ m ≤ 300) {τ : jH} {h : Nat} (hh : h < n) (hc : ∀ i, 0 ≤ i → i < 40 → τ (b + 11) i = c i ∧ 0 ≤ c i ∧ c i ≤ 300) : ∀ (k : Nat) (i : Int), 0 ≤ i → i + k = L →
    (N : Ev (l, (fun _ => 0), 0) d 0 0 m_Words_divide (RW P) 44 [some (vR b), some (vI n), none, some (vR 180), some (vI L), some (vI m), some (vI (fsi (shQ c L m (n - h - 1)) k i)), some (vI (h + 1))] [] gW τ 0 0) →
    Ev (l, (fun _ => 0), 0) d 0 0 m_Words_divide (RW P) 63 [some (vR b), some (vI n), none, some (vR 180), some (vI L), some (vI m), some (vI i), some (vI h)] [] gW τ 0 0
  | 0, i, i0, hk, N => by
    skip
    refine jwp_sound t_Words_divide _ (b_Words_divide_63 ?_)
    simp only [RW, true_and, and_true, and_self, true_or, or_true, Nat.reduceLeDiff, Nat.reduceEqDiff, Nat.reduceAdd, Int.reduceLE, Int.reduceLT, Int.reduceEq, Int.reduceNeg, Int.reduceNe, Nat.reduceSub, reduceIte, implies_true, wd_t hW, wd_r1 hW, wd_t1 hW, wd_r2 hW, wd_t2 hW, wd_r3 hW, wd_t3 hW, wd_r4 hW, wd_t4 hW, wd_r5 hW, wd_t5 hW, wd_r6 hW, wd_t6 hW, wd_r7 hW, wd_t7 hW, wd_r8 hW, wd_t8 hW, wd_r10 hW, wd_t10 hW, wd_r11 hW, wd_t11 hW, wd_r12 hW, wd_t12 hW, wd_r13 hW, wd_t13 hW]
    rw [w32_of (x := (h : Int) + 1) (by omega) (by omega)]
    exact ⟨fun _ => N, fun q => absurd q (by omega)⟩
  | k + 1, i, i0, hk, N => by
    skip
    refine jwp_sound t_Words_divide _ (b_Words_divide_63 ?_)
    simp only [RW, true_and, and_true, and_self, true_or, or_true, Nat.reduceLeDiff, Nat.reduceEqDiff, Nat.reduceAdd, Int.reduceLE, Int.reduceLT, Int.reduceEq, Int.reduceNeg, Int.reduceNe, Nat.reduceSub, reduceIte, implies_true, wd_t hW, wd_r1 hW, wd_t1 hW, wd_r2 hW, wd_t2 hW, wd_r3 hW, wd_t3 hW, wd_r4 hW, wd_t4 hW, wd_r5 hW, wd_t5 hW, wd_r6 hW, wd_t6 hW, wd_r7 hW, wd_t7 hW, wd_r8 hW, wd_t8 hW, wd_r10 hW, wd_t10 hW, wd_r11 hW, wd_t11 hW, wd_r12 hW, wd_t12 hW, wd_r13 hW, wd_t13 hW]
    rw [w32_of (x := (h : Int) + 1) (by omega) (by omega), w32_of (x := i + 1) (by omega) (by omega), w32_of (x := n - (h : Int)) (by omega) (by omega), w32_of (x := n - (h : Int) - 1) (by omega) (by omega)]
    refine ⟨fun q => absurd q (by omega), fun _ => ?_⟩
    refine cN_p (c_handsNeeded hW hc hL.2 hm ⟨i0, by omega⟩) (by omega) ?_
    simp only [fsi] at N
    have e : shQ c L m (n - h - 1) i = true ↔ HN c L i m ≤ n - h - 1 := by
      unfold shQ
      rw [decide_eq_true_eq]
    refine ⟨fun q => ?_, fun q => ?_⟩
    · rw [if_pos (e.mpr q)] at N
      exact N
    · rw [if_neg (fun x => absurd (e.mp x) (by omega))] at N
      exact l_dv_63 hd hW h180 hL hn hm hh hc k (i + 1) (by omega) (by omega) N
/-- shares that stand -/
def SHC (σ : jH) (N : Int) (f : Int → Int) : Prop := σ 1 12 = N ∧ (0 ≤ N ∧ N ≤ 8) ∧ ∀ i, 0 ≤ i → i < N → σ 180 i = f i
theorem l_dv_44 {m : Int} (hd : 11 ≤ d) (hW : isWords b) (h180 : b + 11 < 180) (hL : 0 ≤ L ∧ L ≤ 40) (hn : 1 ≤ n ∧ n ≤ 8) (hm : 0 ≤ m ∧ m ≤ 300) (hc : ∀ i, 0 ≤ i → i < 40 → σ (b + 11) i = c i ∧ 0 ≤ c i ∧ c i ≤ 300) : ∀ (k h : Nat) (τ : jH), (h : Int) + k = n → (∀ x, x ≠ 180 → τ x = σ x) → (∀ j : Nat, j < h → τ 180 j = sts c L m n j) →
    Ev (l, (fun _ => 0), 0) d 0 0 m_Words_divide (RW fun z υ => z = m ∧ (∀ j : Nat, (j : Int) < n → υ 180 j = sts c L m n j) ∧ ∀ x, x ≠ 180 → υ x = σ x) 44 [some (vR b), some (vI n), none, some (vR 180), some (vI L), some (vI m), some (vI (sts c L m n h)), some (vI h)] [] gW τ 0 0
  | 0, h, τ, hk, F, V => by
    refine jwp_sound t_Words_divide _ (b_Words_divide_44 ?_)
    refine ⟨fun _ => ⟨rfl, rfl, fun j hj => V j (by omega), F⟩, fun q => absurd q (by omega)⟩
  | k + 1, h, τ, hk, F, V => by
    have t180 : gW.2.1 180 = (1, 8) := gt_180
    have r := sts_r (c := c) (m := m) (n := n) hL.1 h
    refine jwp_sound t_Words_divide _ (b_Words_divide_44 ?_)
    rw [t180]
    simp only [RW, true_and, and_true, and_self, true_or, or_true, Nat.reduceLeDiff, Nat.reduceEqDiff, Nat.reduceAdd, Int.reduceLE, Int.reduceLT, Int.reduceEq, Int.reduceNeg, Int.reduceNe, Nat.reduceSub, reduceIte, implies_true]
    refine ⟨fun q => absurd q (by omega), fun _ => ⟨fun q => absurd q (by omega), fun _ => ?_⟩⟩
    repeat (refine And.intro (by omega) ?_)
    have IH := l_dv_44 hd hW h180 hL hn hm hc k (h + 1) (ju τ 180 h (sts c L m n h)) (by omega) (fun x hx => by rw [ju_row hx, F x hx]) (fun j hj => by
      by_cases q : j = h
      · subst q
        exact ju_self
      · rw [ju_ne2 (by omega)]
        exact V j (by omega))
    simp only [sts] at IH
    rw [show ((h + 1 : Nat) : Int) = (h : Int) + 1 by omega] at IH
    refine l_dv_63 (c := c) hd hW (by omega) hL hn hm (by omega) (fun i a b => by rw [ju_row (by omega), F _ (by omega)]; exact hc i a b) (L - sts c L m n h).toNat _ r.1 (by omega) IH
theorem l_dv_11 (hd : 11 ≤ d) (hW : isWords b) (h180 : b + 11 < 180) (hL : 0 ≤ L ∧ L ≤ 40) (hn : 1 ≤ n ∧ n ≤ 8) (hc : ∀ i, 0 ≤ i → i < 40 → σ (b + 11) i = c i ∧ 0 ≤ c i ∧ c i ≤ 300) {M : Int} (hM : 0 ≤ M ∧ M ≤ 300) : ∀ (k : Nat) (m : Int), m + k = 300 → 0 ≤ m → fsi (shP c L n) k m = M →
    Ev (l, (fun _ => 0), 0) d 0 0 m_Words_divide (RW fun z υ => z = M ∧ (∀ j : Nat, (j : Int) < n → υ 180 j = sts c L M n j) ∧ ∀ x, x ≠ 180 → υ x = σ x) 11 [some (vR b), some (vI n), none, some (vR 180), some (vI L), some (vI m), none, none] [] gW σ 0 0
  | 0, m, hk, m0, e => by
    skip
    have go := l_dv_44 (l := l) hd hW h180 hL hn hM hc n.toNat 0 σ (by omega) (fun _ _ => rfl) (fun j hj => by omega)
    simp only [fsi] at e
    subst e
    refine jwp_sound t_Words_divide _ (b_Words_divide_11 ?_)
    exact ⟨fun _ => go, fun q => absurd q (by omega)⟩
  | k + 1, m, hk, m0, e => by
    skip
    have go := l_dv_44 (l := l) hd hW h180 hL hn hM hc n.toNat 0 σ (by omega) (fun _ _ => rfl) (fun j hj => by omega)
    simp only [fsi] at e
    have ep : shP c L n m = true ↔ HN c L 0 m ≤ n := by
      unfold shP
      rw [decide_eq_true_eq]
    refine jwp_sound t_Words_divide _ (b_Words_divide_11 ?_)
    simp only [RW, true_and, and_true, and_self, true_or, or_true, Nat.reduceLeDiff, Nat.reduceEqDiff, Nat.reduceAdd, Int.reduceLE, Int.reduceLT, Int.reduceEq, Int.reduceNeg, Int.reduceNe, Nat.reduceSub, reduceIte, implies_true, wd_t hW, wd_r1 hW, wd_t1 hW, wd_r2 hW, wd_t2 hW, wd_r3 hW, wd_t3 hW, wd_r4 hW, wd_t4 hW, wd_r5 hW, wd_t5 hW, wd_r6 hW, wd_t6 hW, wd_r7 hW, wd_t7 hW, wd_r8 hW, wd_t8 hW, wd_r10 hW, wd_t10 hW, wd_r11 hW, wd_t11 hW, wd_r12 hW, wd_t12 hW, wd_r13 hW, wd_t13 hW]
    rw [w32_of (x := m + 1) (by omega) (by omega)]
    refine ⟨fun q => absurd q (by omega), fun _ => ?_⟩
    refine cN_p (c_handsNeeded hW hc hL.2 ⟨m0, by omega⟩ ⟨by omega, hL.1⟩) (by omega) ?_
    refine ⟨fun q => ?_, fun q => ?_⟩
    · rw [if_pos (ep.mpr q)] at e
      subst e
      exact go
    · rw [if_neg (fun x => absurd (ep.mp x) (by omega))] at e
      exact l_dv_11 hd hW h180 hL hn hc hM k (m + 1) (by omega) (by omega) e
theorem shM_r (c : Int → Int) (L n : Int) : 0 ≤ shM c L n ∧ shM c L n ≤ 300 := by
  have := fsi_r (P := shP c L n) 300 0
  unfold shM
  omega
theorem c_divide (hW : isWords b) (h180 : b + 11 < 180) (hL : 0 ≤ L ∧ L ≤ 40) (hn : 1 ≤ n ∧ n ≤ 8) (hc : ∀ i, 0 ≤ i → i < 40 → σ (b + 11) i = c i ∧ 0 ≤ c i ∧ c i ≤ 300) : Cw 11 m_Words_divide [vR b, vI n, vI L, vR 180] σ (fun z υ => z = shM c L n ∧ (∀ j : Nat, (j : Int) < n → υ 180 j = sts c L (shM c L n) n j) ∧ ∀ x, x ≠ 180 → υ x = σ x) := by
  refine Cw_of o_Words_divide rfl fun l d hd => jwp_sound t_Words_divide _ (b_Words_divide_0 ?_)
  refine ⟨by omega, ?_⟩
  rw [show min L 40 = L by omega]
  exact l_dv_11 hd hW h180 hL hn hc (shM_r c L n) 300 0 (by omega) (by omega) rfl
/-- shares are made, or not -/
def SHP (σ τ : jH) (ω : Int → Int) (e n z : Int) : Prop := (((0 ≤ e ∧ e ≤ 1) ∧ 1 ≤ n ∧ n ≤ 8) ∧ z = shM (lnW ω e) (ω (3 + e)) n ∧ SHC τ n (fun j => sts (lnW ω e) (ω (3 + e)) (shM (lnW ω e) (ω (3 + e)) n) n j.toNat) ∧ CFR τ ω ∧ (∀ c, (c < 97 ∨ 134 < c) → c ≠ 1 → c ≠ 180 → τ c = σ c) ∧ ∀ j, j ≠ 12 → τ 1 j = σ 1 j) ∨ (¬ ((0 ≤ e ∧ e ≤ 1) ∧ 1 ≤ n ∧ n ≤ 8) ∧ z = -2 ∧ τ = σ)
theorem lnW_r (W : OKW ω) {e : Int} (he : 0 ≤ e ∧ e ≤ 1) (i : Int) : 0 ≤ lnW ω e i ∧ lnW ω e i ≤ 300 := by
  have w := W.n he
  have := cq_r (wW ω e).2.2.1 i (wW ω e).1.toNat
  unfold lnW
  omega
theorem c_shares (C : CFR σ ω) (e n : Int) : Cw 16 m_WordPlaces_shares [vR 1, vI e, vI n] σ (fun z τ => SHP σ τ ω e n z) := by
  refine Cw_of o_WordPlaces_shares rfl fun l d hd => jwp_sound t_WordPlaces_shares _ (b_WordPlaces_shares_0 ?_)
  simp only [RW, true_and, and_true, and_self, true_or, or_true, Nat.reduceLeDiff, Nat.reduceEqDiff, Nat.reduceAdd, Int.reduceLE, Int.reduceLT, Int.reduceEq, Int.reduceNeg, Int.reduceNe, Nat.reduceSub, reduceIte, implies_true, gt_1, gr_1_11, gt_180, gr_1_2, gt_3]
  refine cN_p (c_isEdition _ _) (by omega) ?_
  by_cases he : 0 ≤ e ∧ e ≤ 1
  · have L := (C.1.L he).1
    have hW := wb_i he
    have hb : wb e + 11 < 180 := by
      unfold wb
      omega
    have C' : CFR (ju σ 1 12 n) ω := C.of1 (fun c a b => ju_row (by omega))
    rw [if_pos he]
    refine ⟨fun q => by omega, fun _ => ⟨fun q => Or.inr ⟨fun x => by omega, rfl, rfl⟩, fun q => ⟨fun q2 => ?_, fun q2 => Or.inr ⟨fun x => by omega, rfl, rfl⟩⟩⟩⟩
    refine cN_w (c_freshWords C' he) (by omega) (fun z τ h => ?_)
    obtain ⟨rfl, h⟩ := h
    have T := h.2.2.W he
    have Cτ := C'.of h.1
    refine cN_p (c_Image_lineCount _ i3 he) (by omega) ?_
    simp only [RW, true_and, and_true, and_self, true_or, or_true, Nat.reduceLeDiff, Nat.reduceEqDiff, Nat.reduceAdd, Int.reduceLE, Int.reduceLT, Int.reduceEq, Int.reduceNeg, Int.reduceNe, Nat.reduceSub, reduceIte, implies_true, wd_t hW, wd_r1 hW, wd_t1 hW, wd_r2 hW, wd_t2 hW, wd_r3 hW, wd_t3 hW, wd_r4 hW, wd_t4 hW, wd_r5 hW, wd_t5 hW, wd_r6 hW, wd_t6 hW, wd_r7 hW, wd_t7 hW, wd_r8 hW, wd_t8 hW, wd_r10 hW, wd_t10 hW, wd_r11 hW, wd_t11 hW, wd_r12 hW, wd_t12 hW, wd_r13 hW, wd_t13 hW]
    rw [(Cτ.2.1.L he).1]
    refine cN_w (c_divide (c := lnW ω e) hW hb ⟨L.1, L.2.1⟩ ⟨q, q2⟩ (fun i a b => ⟨T.1.2.2.2.1 i a b, lnW_r C.1 he i⟩)) (by omega) (fun z υ hυ => ?_)
    obtain ⟨rfl, V, F⟩ := hυ
    have r : ∀ c, (c < 97 ∨ 134 < c) → c ≠ 180 → υ c = ju σ 1 12 n c := fun c a b => by rw [F c b, h.1.1 c a]
    refine Or.inl ⟨⟨he, q, q2⟩, rfl, ⟨by rw [r 1 (by omega) (by omega), ju_self], by omega, fun i a b => ?_⟩, Cτ.of1 (fun c a b => F c (by omega)), fun c a b b2 => by rw [r c a b2, ju_row b], fun j hj => by rw [r 1 (by omega) (by omega), ju_ne2 hj]⟩
    have := V i.toNat (by omega)
    rwa [show ((i.toNat : Nat) : Int) = i by omega] at this
  · rw [if_neg he]
    exact ⟨fun _ => Or.inr ⟨fun x => he x.1, rfl, rfl⟩, fun q => absurd rfl q⟩
def s_share (N : Int) (f : Int → Int) (i : Int) : Int := if 0 ≤ i ∧ i < N then f i else -1
theorem c_share {N : Int} {f : Int → Int} (S : SHC σ N f) (i : Int) : Cw 10 m_WordPlaces_share [vR 1, vI i] σ (fun z τ => z = s_share N f i ∧ τ = σ) := by
  obtain ⟨s1, s2, s3⟩ := S
  refine Cw_of o_WordPlaces_share rfl fun l d hd => jwp_sound t_WordPlaces_share _ (b_WordPlaces_share_0 ?_)
  simp only [RW, true_and, and_true, and_self, true_or, or_true, Nat.reduceLeDiff, Nat.reduceEqDiff, Nat.reduceAdd, Int.reduceLE, Int.reduceLT, Int.reduceEq, Int.reduceNeg, Int.reduceNe, Nat.reduceSub, reduceIte, implies_true, gt_1, gr_1_11, gt_180]
  rw [s1]
  unfold s_share
  refine ⟨fun q => by rw [if_neg (by omega)], fun q => ⟨fun q2 => by rw [if_neg (by omega)], fun q2 => ⟨fun q3 => absurd q3 (by omega), fun _ => ?_⟩⟩⟩
  rw [if_pos ⟨q, q2⟩, s3 i q q2]
  repeat (refine And.intro (by omega) ?_)
  first | rfl | exact ⟨rfl, rfl⟩
end SH
