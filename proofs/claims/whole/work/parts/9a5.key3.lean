/-! Letters of the TAPE as a key; a slip is written (class) -/
def tky (t : Int → Int) (a : Int) : Nat → Int × Nat
  | 0 => (0, 0)
  | k + 1 => if isL (t (a + k)) then (kad (tky t a k).1 (tky t a k).2 (t (a + k) - 97), min ((tky t a k).2 + 1) 20) else tky t a k
theorem tky_ok (t : Int → Int) (a : Int) : ∀ k : Nat, (tky t a k).2 ≤ 20 ∧ 0 ≤ (tky t a k).1 ∧ (tky t a k).1 < 1267650600228229401496703205376 ∧ dv32 (tky t a k).1 (20 - (tky t a k).2)
  | 0 => ⟨by show 0 ≤ 20; omega, by show (0 : Int) ≤ 0; omega, by show (0 : Int) < _; omega, by unfold dv32; exact Int.zero_emod _⟩
  | k + 1 => by
    obtain ⟨h1, h2, h3, h4⟩ := tky_ok t a k
    by_cases q : isL (t (a + k))
    · have e : tky t a (k + 1) = (kad (tky t a k).1 (tky t a k).2 (t (a + k) - 97), min ((tky t a k).2 + 1) 20) := if_pos q
      rw [e]
      exact kad_ok h1 h2 h3 h4 (by omega) (by omega)
    · have e : tky t a (k + 1) = tky t a k := if_neg q
      rw [e]
      exact ⟨h1, h2, h3, h4⟩
/-- a key stands in key o -/
def KF (σ : jH) (o K : Int) (n : Nat) : Prop := σ o 0 = K / 1125899906842624 ∧ σ o 1 = K % 1125899906842624 ∧ σ o 2 = n
def alB (t : Int → Int) : Nat → Bool
  | 0 => true
  | k + 1 => alB t k && decide (isL (t k))
theorem alB_iff {t : Int → Int} : ∀ {n : Nat}, alB t n = true ↔ ∀ k : Int, 0 ≤ k → k < n → isL (t k)
  | 0 => by simp [alB]; intro k a b; omega
  | n + 1 => by
    simp only [alB, Bool.and_eq_true, decide_eq_true_eq, alB_iff]
    constructor
    · rintro ⟨h1, h2⟩ k a b
      by_cases q : k = n
      · rw [q]; exact h2
      · exact h1 k a (by omega)
    · intro h
      exact ⟨fun k a b => h k a (by omega), h n (by omega) (by omega)⟩
abbrev okwd (t : Int → Int) (n : Int) : Prop := (1 ≤ n ∧ n ≤ 20) ∧ alB t n.toNat = true
def lcnt (t : Int → Int) : Nat → Int
  | 0 => 0
  | k + 1 => lcnt t k + (if isL (t k) then 1 else 0)
theorem lcnt_r (t : Int → Int) : ∀ k : Nat, 0 ≤ lcnt t k ∧ lcnt t k ≤ k
  | 0 => ⟨Int.le_refl _, Int.le_refl _⟩
  | k + 1 => by
    have := lcnt_r t k
    simp only [lcnt]
    split <;> omega
theorem lcnt_alB {t : Int → Int} : ∀ n : Nat, lcnt t n = n ↔ alB t n = true
  | 0 => by simp [lcnt, alB]
  | n + 1 => by
    have r := lcnt_r t n
    have ih := lcnt_alB (t := t) n
    simp only [lcnt, alB, Bool.and_eq_true, decide_eq_true_eq]
    by_cases g : isL (t n)
    · rw [if_pos g, ← ih]
      constructor
      · intro h
        exact ⟨by omega, g⟩
      · intro h
        have := h.1
        omega
    · rw [if_neg g]
      constructor
      · intro h
        omega
      · intro h
        exact absurd h.2 g
section K3
variable {l : Launch} {d : Nat} {ω t : Int → Int} {σ : jH} {n : Int}
theorem ky179 : KY 179 := gt_179
theorem c_Key_add_no {o x : Int} (Y : KY o) (σ : jH) (hx : x < 0) : Cw 10 m_Key_add [vR o, vI x] σ (fun _ τ => τ = σ) := by
  have k1 : gW.2.1 o = (11, 3) := Y
  refine Cw_of o_Key_add rfl fun l d hd => jwp_sound t_Key_add _ (b_Key_add_0 ?_)
  exact ⟨by rw [k1], fun _ => ⟨rfl, rfl⟩, fun _ => ⟨fun _ => ⟨rfl, rfl⟩, fun q => absurd q (by omega)⟩⟩
theorem c_letterOn {i : Int} (T : ∀ j, 0 ≤ j → j < n → σ 2 j = t j) (h4 : n ≤ 400) (i0 : 0 ≤ i) (i1 : i < n) : Cw 11 m_WordPlaces_letterOn [vR 1, vI i, vI n] σ (fun z τ => z = (if isL (t i) then t i - 97 else -1) ∧ τ = σ) := by
  refine Cw_of o_WordPlaces_letterOn rfl fun l d hd => jwp_sound t_WordPlaces_letterOn _ (b_WordPlaces_letterOn_0 ?_)
  simp only [RW, true_and, and_true, and_self, true_or, or_true, Nat.reduceLeDiff, Nat.reduceEqDiff, Nat.reduceAdd, Int.reduceLE, Int.reduceLT, Int.reduceEq, Int.reduceNeg, Int.reduceNe, Nat.reduceSub, reduceIte, implies_true, gt_1, gr_1_0, gt_2]
  refine ⟨fun q => absurd q (by omega), fun _ => ⟨fun q => absurd q (by omega), fun _ => ⟨fun q => absurd q (by omega), fun _ => ⟨by omega, by omega, ?_⟩⟩⟩⟩
  refine cN_p (c_isLetter _ _) (by omega) ?_
  rw [T i i0 i1]
  by_cases g : isL (t i)
  · rw [if_pos g, if_pos g]
    refine ⟨fun x => absurd x (by omega), fun _ => ⟨by omega, by omega, ?_⟩⟩
    rw [w32_of (by omega) (by omega)]
    exact ⟨rfl, rfl⟩
  · rw [if_neg g, if_neg g]
    exact ⟨fun _ => ⟨rfl, rfl⟩, fun x => absurd rfl x⟩
theorem l_lt_4 (hd : 12 ≤ d) (T : ∀ j, 0 ≤ j → j < n → σ 2 j = t j) (hn : n ≤ 400) : ∀ (k i : Nat), (i : Int) + k = n →
    Ev (l, (fun _ => 0), 0) d 0 0 m_WordPlaces_lettersOnTape (RW fun z τ => z = lcnt t n.toNat ∧ τ = σ) 4 [some (vR 1), some (vI n), some (vI (lcnt t i)), some (vI i)] [] gW σ 0 0
  | 0, i, hk => by
    refine jwp_sound t_WordPlaces_lettersOnTape _ (b_WordPlaces_lettersOnTape_4 ?_)
    simp only [RW, true_and, and_true, and_self, true_or, or_true, Nat.reduceLeDiff, Nat.reduceEqDiff, Nat.reduceAdd, Int.reduceLE, Int.reduceLT, Int.reduceEq, Int.reduceNeg, Int.reduceNe, Nat.reduceSub, reduceIte, implies_true]
    refine ⟨fun _ => ?_, fun q => absurd q (by omega)⟩
    rw [show n.toNat = i by omega]
  | k + 1, i, hk => by
    have r := lcnt_r t i
    have IH := l_lt_4 hd T hn k (i + 1) (by omega)
    rw [show ((i + 1 : Nat) : Int) = (i : Int) + 1 by omega] at IH
    simp only [lcnt] at IH
    refine jwp_sound t_WordPlaces_lettersOnTape _ (b_WordPlaces_lettersOnTape_4 ?_)
    simp only [RW, true_and, and_true, and_self, true_or, or_true, Nat.reduceLeDiff, Nat.reduceEqDiff, Nat.reduceAdd, Int.reduceLE, Int.reduceLT, Int.reduceEq, Int.reduceNeg, Int.reduceNe, Nat.reduceSub, reduceIte, implies_true, gt_1]
    rw [w32_of (x := (i : Int) + 1) (by omega) (by omega), w32_of (x := lcnt t i + 0) (by omega) (by omega), w32_of (x := lcnt t i + 1) (by omega) (by omega)]
    refine ⟨fun q => absurd q (by omega), fun _ => ?_⟩
    refine cN_p (c_letterOn T hn (by omega) (by omega)) (by omega) ?_
    by_cases g : isL (t i)
    · rw [if_pos g] at IH ⊢
      exact ⟨fun x => absurd x (by omega), fun _ => IH⟩
    · rw [if_neg g] at IH ⊢
      exact ⟨fun _ => IH, fun x => absurd rfl x⟩
theorem c_lettersOnTape (T : ∀ j, 0 ≤ j → j < n → σ 2 j = t j) (hn : 0 ≤ n ∧ n ≤ 400) : Cw 12 m_WordPlaces_lettersOnTape [vR 1, vI n] σ (fun z τ => z = lcnt t n.toNat ∧ τ = σ) := by
  refine Cw_of o_WordPlaces_lettersOnTape rfl fun l d hd => jwp_sound t_WordPlaces_lettersOnTape _ (b_WordPlaces_lettersOnTape_0 ?_)
  exact l_lt_4 hd T hn.2 n.toNat 0 (by omega)
theorem l_rl_9 {a to : Int} (hd : 12 ≤ d) (T : ∀ j, 0 ≤ j → j < to → σ 2 j = t j) (h4 : to ≤ 400) (a0 : 0 ≤ a) : ∀ (k m : Nat) (τ : jH), a + m + k = to → KS τ 179 (tky t a m).1 (tky t a m).2 → FR1 σ τ 179 →
    Ev (l, (fun _ => 0), 0) d 0 0 m_WordPlaces_readLetters (RW fun _ τ => KS τ 179 (tky t a (m + k)).1 (tky t a (m + k)).2 ∧ FR1 σ τ 179) 9 [some (vR 1), none, some (vI to), some (vI (a + m))] [] gW τ 0 0
  | 0, m, τ, hk, K, F => by
    refine jwp_sound t_WordPlaces_readLetters _ (b_WordPlaces_readLetters_9 ?_)
    exact ⟨fun _ => ⟨rfl, K, F⟩, fun q => absurd q (by omega)⟩
  | k + 1, m, τ, hk, K, F => by
    refine jwp_sound t_WordPlaces_readLetters _ (b_WordPlaces_readLetters_9 ?_)
    simp only [RW, true_and, and_true, and_self, true_or, or_true, Nat.reduceLeDiff, Nat.reduceEqDiff, Nat.reduceAdd, Int.reduceLE, Int.reduceLT, Int.reduceEq, Int.reduceNeg, Int.reduceNe, Nat.reduceSub, reduceIte, implies_true, gt_1, gr_1_10, gt_179]
    rw [w32_of (x := a + (m : Int) + 1) (by omega) (by omega)]
    refine ⟨fun q => absurd q (by omega), fun _ => ?_⟩
    refine cN_p (c_letterOn (t := t) (n := to) (i := a + m) (fun j x y => by rw [F 2 (by omega)]; exact T j x y) h4 (by omega) (by omega)) (by omega) ?_
    have IH := fun υ K2 F2 => l_rl_9 hd T h4 a0 k (m + 1) υ (by omega) K2 F2
    rw [show m + 1 + k = m + (k + 1) by omega, show a + ((m + 1 : Nat) : Int) = a + (m : Int) + 1 by omega] at IH
    by_cases g : isL (t (a + m))
    · have e : tky t a (m + 1) = (kad (tky t a m).1 (tky t a m).2 (t (a + m) - 97), min ((tky t a m).2 + 1) 20) := if_pos g
      rw [if_pos g]
      refine cN_w (c_Key_add ky179 K (by omega) (by omega)) (by omega) (fun _ υ h => ?_)
      exact IH υ (by rw [e]; exact h.1) (F.tr h.2)
    · have e : tky t a (m + 1) = tky t a m := if_neg g
      rw [if_neg g]
      refine cN_v (c_Key_add_no ky179 τ (by omega)) (by omega) (fun _ => ?_)
      exact IH τ (by rw [e]; exact K) F
theorem c_readLetters {a to : Int} (T : ∀ j, 0 ≤ j → j < to → σ 2 j = t j) (h4 : to ≤ 400) (a0 : 0 ≤ a) (h : a ≤ to) : Cw 12 m_WordPlaces_readLetters [vR 1, vI a, vI to] σ (fun _ τ => KS τ 179 (tky t a (to - a).toNat).1 (tky t a (to - a).toNat).2 ∧ FR1 σ τ 179) := by
  refine Cw_of o_WordPlaces_readLetters rfl fun l d hd => jwp_sound t_WordPlaces_readLetters _ (b_WordPlaces_readLetters_0 ?_)
  simp only [RW, true_and, and_true, and_self, true_or, or_true, Nat.reduceLeDiff, Nat.reduceEqDiff, Nat.reduceAdd, Int.reduceLE, Int.reduceLT, Int.reduceEq, Int.reduceNeg, Int.reduceNe, Nat.reduceSub, reduceIte, implies_true, gt_1, gr_1_10, gt_179]
  refine cN_v (c_Key_clear ky179 _) (by omega) (fun _ => ?_)
  have go := l_rl_9 (l := l) hd T h4 a0 (to - a).toNat 0 (ju (ju (ju σ 179 0 0) 179 1 0) 179 2 0) (by omega) ⟨by show 0 ≤ 20; omega, by show (0 : Int) ≤ 0; omega, by show (0 : Int) < _; omega, by unfold dv32; exact Int.zero_emod _, by rw [ju_ne2 (by omega), ju_ne2 (by omega), ju_self]; rfl, by rw [ju_ne2 (by omega), ju_self]; rfl, ju_self⟩ (fun c hc => by rw [ju_row hc, ju_row hc, ju_row hc])
  rw [Nat.zero_add, Int.natCast_zero, Int.add_zero] at go
  exact go
theorem c_readFolded {a to : Int} (W : OKW ω) (L : IML σ 3 ω) (T : ∀ j, 0 ≤ j → j < to → σ 2 j = t j) (h4 : to ≤ 400) (a0 : 0 ≤ a) (h : a ≤ to) : Cw 13 m_WordPlaces_readFolded [vR 1, vI a, vI to] σ (fun _ τ => KF τ 179 (km (fo ω) (tky t a (to - a).toNat).1) (tky t a (to - a).toNat).2 ∧ FR1 σ τ 179) := by
  have t5 : gW.2.1 5 = (2, 26) := gt_5
  refine Cw_of o_WordPlaces_readFolded rfl fun l d hd => jwp_sound t_WordPlaces_readFolded _ (b_WordPlaces_readFolded_0 ?_)
  simp only [RW, true_and, and_true, and_self, true_or, or_true, Nat.reduceLeDiff, Nat.reduceEqDiff, Nat.reduceAdd, Int.reduceLE, Int.reduceLT, Int.reduceEq, Int.reduceNeg, Int.reduceNe, Nat.reduceSub, reduceIte, implies_true, gt_1, gr_1_10, gt_179, gr_1_2, gt_3, gr_3_0, gt_4, gr_4_1, gt_5]
  refine cN_w (c_readLetters T h4 a0 h) (by omega) (fun _ τ h => ?_)
  obtain ⟨⟨k1, k2, k3, k4, k5, k6, k7⟩, F⟩ := h
  have f5 : ∀ x, 0 ≤ x → x < 26 → τ 5 x = fo ω x := fun x a b => by rw [F 5 (by omega)]; exact L.2.2.1 x a b
  refine cN_v (c_Key_map ky179 t5 (by omega) (fun x a b => by rw [f5 x a b]; exact W.2.2.1 x a b) (by rw [k5]; omega) (by rw [k6]; omega)) (by omega) (fun _ => ?_)
  obtain ⟨d1, d2⟩ := km_div W.2.2.1 (tky t a (to - a).toNat).1
  refine ⟨⟨?_, ?_, ?_⟩, fun c hc => by rw [ju_row hc, ju_row hc, F c hc]⟩
  · rw [ju_ne2 (by omega), ju_self, hm_eq f5, k5, d1]
  · rw [ju_self, hm_eq f5, k6, d2]
  · rw [ju_ne2 (by omega), ju_ne2 (by omega), k7]
theorem c_isOneWord (T : ∀ j, 0 ≤ j → j < n → σ 2 j = t j) : Cw 13 m_WordPlaces_isOneWord [vR 1, vI n] σ (fun z τ => z = (if okwd t n then 1 else 0) ∧ τ = σ) := by
  refine Cw_of o_WordPlaces_isOneWord rfl fun l d hd => jwp_sound t_WordPlaces_isOneWord _ (b_WordPlaces_isOneWord_0 ?_)
  simp only [RW, true_and, and_true, and_self, true_or, or_true, Nat.reduceLeDiff, Nat.reduceEqDiff, Nat.reduceAdd, Int.reduceLE, Int.reduceLT, Int.reduceEq, Int.reduceNeg, Int.reduceNe, Nat.reduceSub, reduceIte, implies_true, gt_1]
  refine ⟨fun q => ?_, fun q => ⟨fun q2 => ?_, fun q2 => ?_⟩⟩
  · rw [if_neg (fun x => absurd x.1 (by omega))]
  · rw [if_neg (fun x => absurd x.1 (by omega))]
  · have e := lcnt_alB (t := t) n.toNat
    rw [show ((n.toNat : Nat) : Int) = n by omega] at e
    refine cN_p (c_lettersOnTape T ⟨by omega, by omega⟩) (by omega) ?_
    refine ⟨fun x => ?_, fun x => ?_⟩
    · rw [if_neg (fun y => x (e.mpr y.2))]
      exact ⟨rfl, rfl⟩
    · rw [if_pos ⟨⟨q, q2⟩, e.mp x⟩]
      exact ⟨rfl, rfl⟩
end K3
