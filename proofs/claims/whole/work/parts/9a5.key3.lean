/-! Letters of the TAPE as a key; a slip is written (class) -/
def tky (t : Int → Int) (a : Int) : Nat → Int × Nat
  | 0 => (0, 0)
  | k + 1 => if isL (t (a + k)) then (kad (tky t a k).1 (tky t a k).2 (t (a + k) - 97), min ((tky t a k).2 + 1) 20) else tky t a k
theorem tky_ok (t : Int → Int) (a : Int) : ∀ k : Nat, (tky t a k).2 ≤ 20 ∧ 0 ≤ (tky t a k).1 ∧ (tky t a k).1 < 1267650600228229401496703205376 ∧ dv32 (tky t a k).1 (20 - (tky t a k).2)
  | 0 => ⟨by show 0 ≤ 20; omega, by show (0 : Int) ≤ 0; omega, by show (0 : Int) < _; omega, by unfold dv32; exact Int.zero_emod _⟩
  | k + 1 => by
    obtain ⟨h1, h2, h3, h4⟩ := tky_ok t a k
    by_cases q : isL (t (a + k))
    · have e : tky t a (k + 1) = (kad (tky t a k).1 (tky t a k).2 (t (a + k) - 97), min ((tky t a k).2 + 1) 20) := if_pos q
      rw [e]
      exact kad_ok h1 h2 h3 h4 (by omega) (by omega)
    · have e : tky t a (k + 1) = tky t a k := if_neg q
      rw [e]
      exact ⟨h1, h2, h3, h4⟩
/-- a key stands in key o -/
def KF (σ : jH) (o K : Int) (n : Nat) : Prop := σ o 0 = K / 1125899906842624 ∧ σ o 1 = K % 1125899906842624 ∧ σ o 2 = n
def alB (t : Int → Int) : Nat → Bool
  | 0 => true
  | k + 1 => alB t k && decide (isL (t k))
theorem alB_iff {t : Int → Int} : ∀ {n : Nat}, alB t n = true ↔ ∀ k : Int, 0 ≤ k → k < n → isL (t k)
  | 0 => by simp [alB]; intro k a b; omega
  | n + 1 => by
    simp only [alB, Bool.and_eq_true, decide_eq_true_eq, alB_iff]
    constructor
    · rintro ⟨h1, h2⟩ k a b
      by_cases q : k = n
      · rw [q]; exact h2
      · exact h1 k a (by omega)
    · intro h
      exact ⟨fun k a b => h k a (by omega), h n (by omega) (by omega)⟩
abbrev okwd (t : Int → Int) (n : Int) : Prop := (1 ≤ n ∧ n ≤ 20) ∧ alB t n.toNat = true
section K3
variable {l : Launch} {d : Nat} {ω t : Int → Int} {σ : jH} {n : Int}
theorem ky179 : KY 179 := gt_179
theorem l_rl_9 {a to : Int} (hd : 12 ≤ d) (T : ∀ j, 0 ≤ j → j < to → σ 2 j = t j) (h4 : to ≤ 400) (a0 : 0 ≤ a) : ∀ (k m : Nat) (τ : jH), a + m + k = to → KS τ 179 (tky t a m).1 (tky t a m).2 → FR1 σ τ 179 →
    Ev (l, (fun _ => 0), 0) d 0 0 m_WordPlaces_readLetters (RW fun _ τ => KS τ 179 (tky t a (m + k)).1 (tky t a (m + k)).2 ∧ FR1 σ τ 179) 9 [some (vR 1), none, some (vI to), some (vI (a + m))] [] gW τ 0 0
  | 0, m, τ, hk, K, F => by
    refine jwp_sound t_WordPlaces_readLetters _ (b_WordPlaces_readLetters_9 ?_)
    exact ⟨fun _ => ⟨rfl, K, F⟩, fun q => absurd q (by omega)⟩
  | k + 1, m, τ, hk, K, F => by
    have e2 : τ 2 (a + m) = t (a + m) := by
      rw [F 2 (by omega)]
      exact T _ (by omega) (by omega)
    refine jwp_sound t_WordPlaces_readLetters _ (b_WordPlaces_readLetters_9 ?_)
    simp only [RW, true_and, and_true, and_self, true_or, or_true, Nat.reduceLeDiff, Nat.reduceEqDiff, Nat.reduceAdd, Int.reduceLE, Int.reduceLT, Int.reduceEq, Int.reduceNeg, Int.reduceNe, Nat.reduceSub, reduceIte, implies_true, gt_1, gr_1_10, gt_179]
    rw [w32_of (x := a + (m : Int) + 1) (by omega) (by omega), e2]
    refine ⟨fun q => absurd q (by omega), fun _ => ⟨fun q => absurd q (by omega), fun _ => ⟨by omega, by omega, ?_⟩⟩⟩
    refine cN_p (c_isLetter _ _) (by omega) ?_
    have IH := fun υ K2 F2 => l_rl_9 hd T h4 a0 k (m + 1) υ (by omega) K2 F2
    rw [show m + 1 + k = m + (k + 1) by omega, show a + ((m + 1 : Nat) : Int) = a + (m : Int) + 1 by omega] at IH
    by_cases g : isL (t (a + m))
    · have e : tky t a (m + 1) = (kad (tky t a m).1 (tky t a m).2 (t (a + m) - 97), min ((tky t a m).2 + 1) 20) := if_pos g
      rw [if_pos g]
      refine ⟨fun x => absurd x (by omega), fun _ => ⟨by omega, by omega, ?_⟩⟩
      rw [e2, w32_of (by omega) (by omega)]
      refine cN_w (c_Key_add ky179 K (by omega) (by omega)) (by omega) (fun _ υ h => ?_)
      exact IH υ (by rw [e]; exact h.1) (F.tr h.2)
    · have e : tky t a (m + 1) = tky t a m := if_neg g
      rw [if_neg g]
      exact ⟨fun _ => IH τ (by rw [e]; exact K) F, fun x => absurd rfl x⟩
theorem c_readLetters {a to : Int} (T : ∀ j, 0 ≤ j → j < to → σ 2 j = t j) (h4 : to ≤ 400) (a0 : 0 ≤ a) (h : a ≤ to) : Cw 12 m_WordPlaces_readLetters [vR 1, vI a, vI to] σ (fun _ τ => KS τ 179 (tky t a (to - a).toNat).1 (tky t a (to - a).toNat).2 ∧ FR1 σ τ 179) := by
  refine Cw_of o_WordPlaces_readLetters rfl fun l d hd => jwp_sound t_WordPlaces_readLetters _ (b_WordPlaces_readLetters_0 ?_)
  simp only [RW, true_and, and_true, and_self, true_or, or_true, Nat.reduceLeDiff, Nat.reduceEqDiff, Nat.reduceAdd, Int.reduceLE, Int.reduceLT, Int.reduceEq, Int.reduceNeg, Int.reduceNe, Nat.reduceSub, reduceIte, implies_true, gt_1, gr_1_10, gt_179]
  refine cN_v (c_Key_clear ky179 _) (by omega) (fun _ => ?_)
  have go := l_rl_9 (l := l) hd T h4 a0 (to - a).toNat 0 (ju (ju (ju σ 179 0 0) 179 1 0) 179 2 0) (by omega) ⟨by show 0 ≤ 20; omega, by show (0 : Int) ≤ 0; omega, by show (0 : Int) < _; omega, by unfold dv32; exact Int.zero_emod _, by rw [ju_ne2 (by omega), ju_ne2 (by omega), ju_self]; rfl, by rw [ju_ne2 (by omega), ju_self]; rfl, ju_self⟩ (fun c hc => by rw [ju_row hc, ju_row hc, ju_row hc])
  rw [Nat.zero_add, Int.natCast_zero, Int.add_zero] at go
  exact go
theorem c_readFolded {a to : Int} (W : OKW ω) (L : IML σ 3 ω) (T : ∀ j, 0 ≤ j → j < to → σ 2 j = t j) (h4 : to ≤ 400) (a0 : 0 ≤ a) (h : a ≤ to) : Cw 13 m_WordPlaces_readFolded [vR 1, vI a, vI to] σ (fun _ τ => KF τ 179 (km (fo ω) (tky t a (to - a).toNat).1) (tky t a (to - a).toNat).2 ∧ FR1 σ τ 179) := by
  have t5 : gW.2.1 5 = (2, 26) := gt_5
  refine Cw_of o_WordPlaces_readFolded rfl fun l d hd => jwp_sound t_WordPlaces_readFolded _ (b_WordPlaces_readFolded_0 ?_)
  simp only [RW, true_and, and_true, and_self, true_or, or_true, Nat.reduceLeDiff, Nat.reduceEqDiff, Nat.reduceAdd, Int.reduceLE, Int.reduceLT, Int.reduceEq, Int.reduceNeg, Int.reduceNe, Nat.reduceSub, reduceIte, implies_true, gt_1, gr_1_10, gt_179, gr_1_2, gt_3, gr_3_0, gt_4, gr_4_1, gt_5]
  refine cN_w (c_readLetters T h4 a0 h) (by omega) (fun _ τ h => ?_)
  obtain ⟨⟨k1, k2, k3, k4, k5, k6, k7⟩, F⟩ := h
  have f5 : ∀ x, 0 ≤ x → x < 26 → τ 5 x = fo ω x := fun x a b => by rw [F 5 (by omega)]; exact L.2.2.1 x a b
  refine cN_v (c_Key_map ky179 t5 (by omega) (fun x a b => by rw [f5 x a b]; exact W.2.2.1 x a b) (by rw [k5]; omega) (by rw [k6]; omega)) (by omega) (fun _ => ?_)
  obtain ⟨d1, d2⟩ := km_div W.2.2.1 (tky t a (to - a).toNat).1
  refine ⟨⟨?_, ?_, ?_⟩, fun c hc => by rw [ju_row hc, ju_row hc, F c hc]⟩
  · rw [ju_ne2 (by omega), ju_self, hm_eq f5, k5, d1]
  · rw [ju_self, hm_eq f5, k6, d2]
  · rw [ju_ne2 (by omega), ju_ne2 (by omega), k7]
theorem l_iow_15 (hd : 13 ≤ d) (T : ∀ j, 0 ≤ j → j < n → σ 2 j = t j) (h1 : 1 ≤ n ∧ n ≤ 20) : ∀ (k i : Nat), (i : Int) + k = n → alB t i = true →
    Ev (l, (fun _ => 0), 0) d 0 0 m_WordPlaces_isOneWord (RW fun z τ => z = (if okwd t n then 1 else 0) ∧ τ = σ) 15 [some (vR 1), some (vI n), some (vI i)] [] gW σ 0 0
  | 0, i, hk, A => by
    refine jwp_sound t_WordPlaces_isOneWord _ (b_WordPlaces_isOneWord_15 ?_)
    simp only [RW, true_and, and_true, and_self, true_or, or_true, Nat.reduceLeDiff, Nat.reduceEqDiff, Nat.reduceAdd, Int.reduceLE, Int.reduceLT, Int.reduceEq, Int.reduceNeg, Int.reduceNe, Nat.reduceSub, reduceIte, implies_true]
    refine ⟨fun _ => ?_, fun q => absurd q (by omega)⟩
    rw [if_pos ⟨h1, by rw [show n.toNat = i by omega]; exact A⟩]
  | k + 1, i, hk, A => by
    refine jwp_sound t_WordPlaces_isOneWord _ (b_WordPlaces_isOneWord_15 ?_)
    simp only [RW, true_and, and_true, and_self, true_or, or_true, Nat.reduceLeDiff, Nat.reduceEqDiff, Nat.reduceAdd, Int.reduceLE, Int.reduceLT, Int.reduceEq, Int.reduceNeg, Int.reduceNe, Nat.reduceSub, reduceIte, implies_true, gt_1]
    rw [T i (by omega) (by omega), w32_of (x := (i : Int) + 1) (by omega) (by omega)]
    refine ⟨fun q => absurd q (by omega), fun _ => ⟨by omega, by omega, ?_⟩⟩
    refine cN_p (c_isLetter _ _) (by omega) ?_
    have IH := l_iow_15 hd T h1 k (i + 1) (by omega)
    rw [show ((i + 1 : Nat) : Int) = (i : Int) + 1 by omega] at IH
    by_cases g : isL (t i)
    · rw [if_pos g]
      refine ⟨fun _ => IH ?_, fun x => absurd x (by omega)⟩
      show (alB t i && decide (isL (t i))) = true
      rw [A, decide_eq_true g]
      rfl
    · rw [if_neg g]
      refine ⟨fun x => absurd rfl x, fun _ => ?_⟩
      rw [if_neg (fun x => g (alB_iff.mp x.2 i (by omega) (by omega)))]
      exact ⟨rfl, rfl⟩
theorem c_isOneWord (T : ∀ j, 0 ≤ j → j < n → σ 2 j = t j) : Cw 13 m_WordPlaces_isOneWord [vR 1, vI n] σ (fun z τ => z = (if okwd t n then 1 else 0) ∧ τ = σ) := by
  refine Cw_of o_WordPlaces_isOneWord rfl fun l d hd => jwp_sound t_WordPlaces_isOneWord _ (b_WordPlaces_isOneWord_0 ?_)
  simp only [RW, true_and, and_true, and_self, true_or, or_true, Nat.reduceLeDiff, Nat.reduceEqDiff, Nat.reduceAdd, Int.reduceLE, Int.reduceLT, Int.reduceEq, Int.reduceNeg, Int.reduceNe, Nat.reduceSub, reduceIte, implies_true]
  refine ⟨fun q => ?_, fun q => ⟨fun q2 => ?_, fun q2 => ?_⟩⟩
  · rw [if_neg (fun x => absurd x.1 (by omega))]
  · exact l_iow_15 hd T ⟨q, q2⟩ n.toNat 0 (by omega) rfl
  · rw [if_neg (fun x => absurd x.1 (by omega))]
end K3
