/-! Ranks: what the reference is asked -/
section RU
variable {l : Launch} {d : Nat} {ω t : Int → Int} {σ : jH} {e n : Int}
/-- a row of folded letters gets a further one -/
theorem told_add {φ f f' : Int → Int} {K x : Int} {c : Nat} (h : okρ φ) (V : RV f 0) (hc : f 0 = c) (hn : c < 20) (hk : rk f 0 = km φ K) (hv : dv32 K (20 - c)) (hx : 0 ≤ x) (hx2 : x < 26) (h1 : f' 0 = c + 1) (h2 : ∀ j : Int, 0 ≤ j → j < c → f' (0 + 1 + j) = f (0 + 1 + j)) (h3 : f' (0 + 1 + c) = φ x) : RV f' 0 ∧ rk f' 0 = km φ (kad K c x) := by
  have px := h x hx hx2
  refine ⟨⟨by omega, by omega, fun j a b => ?_⟩, ?_⟩
  · by_cases q : j = c
    · rw [q, h3]
      exact px
    · rw [h2 j a (by omega)]
      exact V.2.2 j a (by omega)
  · rw [rk_add hn hc h1 h2 h3, hk, km_kad hn hv hx hx2]
def TOL (σ : jH) (ω : Int → Int) (X K : Int) (c : Nat) : Prop := RV (σ X) 0 ∧ σ X 0 = c ∧ rk (σ X) 0 = km (fo ω) K
def FAS (σ τ : jH) : Prop := ∀ c, c ≠ 218 → c ≠ 223 → τ c = σ c
theorem l_as_2 {P : Int → jH → Prop} (hd : 12 ≤ d) (R : RFR σ ω) (N : ∀ τ : jH, FAS σ τ → (∀ f, 0 ≤ f → f < dn ω → τ 223 f = 0) → Ev (l, (fun _ => 0), 0) d 0 0 m_Model_asks (RW P) 25 [some (vR 189), some (vI 0), none] [] gW τ 0 0) : ∀ (k f : Nat) (τ : jH), (f : Int) + k = dn ω → FAS σ τ → (∀ j, 0 ≤ j → j < (f : Int) → τ 223 j = 0) →
    Ev (l, (fun _ => 0), 0) d 0 0 m_Model_asks (RW P) 2 [some (vR 189), some (vI f), none] [] gW τ 0 0
  | 0, f, τ, hk, F, V => by
    have d10 := R.2.2.2.2.1
    refine jwp_sound t_Model_asks _ (b_Model_asks_2 ?_)
    simp only [RW, true_and, and_true, and_self, true_or, or_true, Nat.reduceLeDiff, Nat.reduceEqDiff, Nat.reduceAdd, Int.reduceLE, Int.reduceLT, Int.reduceEq, Int.reduceNeg, Int.reduceNe, Nat.reduceSub, reduceIte, implies_true, gt_189, gr_189_14, gt_202, gr_189_31, gt_218, gr_189_38, gt_223]
    rw [F 189 (by omega) (by omega), d10]
    exact ⟨fun _ => N τ F (fun j a b => V j a (by omega)), fun q => absurd q (by omega)⟩
  | k + 1, f, τ, hk, F, V => by
    have d10 := R.2.2.2.2.1
    have d680 := R.2.2.1
    have IH := l_as_2 hd R N k (f + 1) (ju τ 223 f 0) (by omega) (fun c a b => by rw [ju_row b, F c a b]) (fun j a b => by
      by_cases q : j = f
      · rw [q, ju_self]
      · rw [ju_ne2 q]
        exact V j a (by omega))
    rw [show ((f + 1 : Nat) : Int) = (f : Int) + 1 by omega] at IH
    refine jwp_sound t_Model_asks _ (b_Model_asks_2 ?_)
    simp only [RW, true_and, and_true, and_self, true_or, or_true, Nat.reduceLeDiff, Nat.reduceEqDiff, Nat.reduceAdd, Int.reduceLE, Int.reduceLT, Int.reduceEq, Int.reduceNeg, Int.reduceNe, Nat.reduceSub, reduceIte, implies_true, gt_189, gr_189_14, gt_202, gr_189_31, gt_218, gr_189_38, gt_223]
    rw [F 189 (by omega) (by omega), d10, w32_of (x := (f : Int) + 1) (by omega) (by omega)]
    exact ⟨fun q => absurd q (by omega), fun _ => ⟨by omega, by omega, IH⟩⟩
theorem l_as_40 {P : Int → jH → Prop} {i : Int} (hd : 12 ≤ d) (W : OKW ω) (h190 : σ 190 = ω) (h15 : σ 189 15 = n) (T : ∀ j, 0 ≤ j → j < n → σ 202 j = t j) (hn : n ≤ 400) (i0 : 0 ≤ i) : ∀ (k m : Nat) (τ : jH), i + m + k = n → (∀ c, c ≠ 218 → τ c = σ c) → TOL τ ω 218 (tky t i m).1 (tky t i m).2 → 
    (N : ∀ υ : jH, (∀ c, c ≠ 218 → υ c = σ c) → TOL υ ω 218 (tky t i (fsi (nlB t) k (i + m) - i).toNat).1 (tky t i (fsi (nlB t) k (i + m) - i).toNat).2 → Ev (l, (fun _ => 0), 0) d 0 0 m_Model_asks (RW P) 111 [some (vR 189), some (vI (fsi (nlB t) k (i + m))), none] [] gW υ 0 0) →
    Ev (l, (fun _ => 0), 0) d 0 0 m_Model_asks (RW P) 40 [some (vR 189), some (vI (i + m)), none] [] gW τ 0 0
  | 0, m, τ, hk, F, O, N => by
    simp only [fsi] at N
    rw [show (i + (m : Int) - i).toNat = m by omega] at N
    refine jwp_sound t_Model_asks _ (b_Model_asks_40 ?_)
    simp only [RW, true_and, and_true, and_self, true_or, or_true, Nat.reduceLeDiff, Nat.reduceEqDiff, Nat.reduceAdd, Int.reduceLE, Int.reduceLT, Int.reduceEq, Int.reduceNeg, Int.reduceNe, Nat.reduceSub, reduceIte, implies_true, gt_189, gr_189_14, gt_202, gr_189_31, gt_218, gr_189_38, gt_223]
    rw [F 189 (by omega), h15]
    exact ⟨fun _ => N τ F O, fun q => absurd q (by omega)⟩
  | k + 1, m, τ, hk, F, O, N => by
    simp only [fsi] at N
    obtain ⟨O1, O2, O3⟩ := O
    have ok := tky_ok t i m
    refine jwp_sound t_Model_asks _ (b_Model_asks_40 ?_)
    simp only [RW, true_and, and_true, and_self, true_or, or_true, Nat.reduceLeDiff, Nat.reduceEqDiff, Nat.reduceAdd, Int.reduceLE, Int.reduceLT, Int.reduceEq, Int.reduceNeg, Int.reduceNe, Nat.reduceSub, reduceIte, implies_true, gt_189, gr_189_14, gt_202, gr_189_31, gt_218, gr_189_38, gt_223]
    rw [F 189 (by omega), h15, F 202 (by omega), T (i + m) (by omega) (by omega), w32_of (x := i + (m : Int) + 1) (by omega) (by omega)]
    refine ⟨fun q => absurd q (by omega), fun _ => ⟨by omega, by omega, ?_⟩⟩
    refine cN_p (c_Model_isLetter _ _) (by omega) ?_
    by_cases g : isL (t (i + m))
    · rw [nlB_f g, if_neg Bool.false_ne_true] at N
      have e : tky t i (m + 1) = (kad (tky t i m).1 (tky t i m).2 (t (i + m) - 97), min ((tky t i m).2 + 1) 20) := if_pos g
      have IH := fun υ F2 O2 => l_as_40 hd W h190 h15 T hn i0 k (m + 1) υ (by omega) F2 O2 (by
        rw [show i + ((m + 1 : Nat) : Int) = i + (m : Int) + 1 by omega]
        exact N)
      rw [show i + ((m + 1 : Nat) : Int) = i + (m : Int) + 1 by omega, e] at IH
      rw [if_pos g, O2]
      refine ⟨fun x => absurd x (by omega), fun _ => ⟨fun q => ?_, fun q => ?_⟩⟩
      · refine IH τ F ⟨O1, ?_, ?_⟩
        · rw [O2]
          show ((tky t i m).2 : Int) = ((min ((tky t i m).2 + 1) 20 : Nat) : Int)
          omega
        · rw [O3]
          show _ = km (fo ω) (kad (tky t i m).1 (tky t i m).2 (t (i + m) - 97))
          unfold kad
          rw [if_neg (by omega)]
      · rw [w32_of (x := ((tky t i m).2 : Int) + 1) (by omega) (by omega), ju_row (a := 218) (c := 202) (by omega), F 202 (by omega), T (i + m) (by omega) (by omega), w32_of (x := t (i + m) - 97) (by omega) (by omega), ju_self]
        refine ⟨by omega, by omega, ?_⟩
        refine cN_p (c_Model_folded _ (show 0 ≤ t (i + m) - 97 by omega) (show t (i + m) - 97 < 26 by omega)) (by omega) ?_
        rw [ju_row (a := 218) (c := 190) (by omega), F 190 (by omega), h190]
        refine ⟨by omega, by omega, ?_⟩
        have A := told_add (f := τ 218) (f' := ju (ju τ 218 0 ((tky t i m).2 + 1)) 218 ((tky t i m).2 + 1) (fo ω (t (i + m) - 97)) 218) W.2.2.1 O1 O2 (by omega) O3 ok.2.2.2 (x := t (i + m) - 97) (by omega) (by omega) (by rw [ju_ne2 (by omega), ju_self]) (fun j a b => by rw [ju_ne2 (by omega), ju_ne2 (by omega)]) (by rw [show (0 : Int) + 1 + ((tky t i m).2 : Int) = (tky t i m).2 + 1 by omega, ju_self])
        refine IH _ (fun c hc => by rw [ju_row hc, ju_row hc, F c hc]) ⟨A.1, ?_, A.2⟩
        rw [ju_ne2 (by omega), ju_self]
        show ((tky t i m).2 : Int) + 1 = ((min ((tky t i m).2 + 1) 20 : Nat) : Int)
        omega
    · rw [nlB_t g, if_pos rfl, show (i + (m : Int) - i).toNat = m by omega] at N
      rw [if_neg g]
      exact ⟨fun _ => N τ F ⟨O1, O2, O3⟩, fun x => absurd rfl x⟩
/-- letters alone make the length -/
theorem tky_len {t : Int → Int} {i : Int} : ∀ k : Nat, (∀ j : Int, 0 ≤ j → j < k → isL (t (i + j))) → (tky t i k).2 = min k 20
  | 0, _ => rfl
  | k + 1, h => by
    have g := h k (by omega) (by omega)
    have e : (tky t i (k + 1)).2 = min ((tky t i k).2 + 1) 20 := by
      show (if isL (t (i + k)) then _ else _ : Int × Nat).2 = _
      rw [if_pos g]
    rw [e, tky_len k (fun j a b => h j a (by omega))]
    omega
theorem fsi_all {P : Int → Bool} : ∀ (k : Nat) (i : Int), ∀ j, i ≤ j → j < fsi P k i → P j = false
  | 0, i, j, a, b => absurd b (by show ¬ j < i; omega)
  | k + 1, i, j, a, b => by
    simp only [fsi] at b
    cases h : P i with
    | true =>
      rw [h, if_pos rfl] at b
      omega
    | false =>
      rw [h, if_neg Bool.false_ne_true] at b
      by_cases q : j = i
      · rw [q]; exact h
      · exact fsi_all k (i + 1) j (by omega) b
theorem run_len {t : Int → Int} {n i : Int} (h : i ≤ n) : (tky t i (rend t n i - i).toNat).2 = min (rend t n i - i).toNat 20 := tky_len _ (fun j a b => by
  have rr := rend_r t (n := n) h
  have := fsi_all (P := nlB t) (n - i).toNat i (i + j) (by omega) (by show i + j < rend t n i; omega)
  unfold nlB at this
  exact Classical.not_not.mp (of_decide_eq_false this))
/-- what has been asked so far -/
def AKR (σ τ : jH) (ω : Int → Int) (A : Int → Bool) : Prop := FAS σ τ ∧ (∀ f, 0 ≤ f → f < dn ω → τ 223 f = b2i (A f)) ∧ ∀ f, A f = true → 0 ≤ f ∧ f < dn ω
theorem l_as_25 {P : Int → jH → Prop} (hd : 12 ≤ d) (R : RFR σ ω) (hal : ALP σ) (h15 : σ 189 15 = n) (T : ∀ j, 0 ≤ j → j < n → σ 202 j = t j) (hn : 0 ≤ n ∧ n ≤ 400) : ∀ (k : Nat) (i : Int) (υ : jH) (A : Int → Bool), n ≤ i + k → 0 ≤ i → i ≤ n + 1 → AKR σ υ ω A →
    (N : ∀ ξ, AKR σ ξ ω ((runs t n k i).foldl (ask1 ω) A) → P 0 (ju ξ 189 15 0)) →
    Ev (l, (fun _ => 0), 0) d 0 0 m_Model_asks (RW P) 25 [some (vR 189), some (vI i), none] [] gW υ 0 0
  | 0, i, υ, A, hk, i0, i1, S, N => by
    refine jwp_sound t_Model_asks _ (b_Model_asks_25 ?_)
    simp only [RW, true_and, and_true, and_self, true_or, or_true, Nat.reduceLeDiff, Nat.reduceEqDiff, Nat.reduceAdd, Int.reduceLE, Int.reduceLT, Int.reduceEq, Int.reduceNeg, Int.reduceNe, Nat.reduceSub, reduceIte, implies_true, gt_189, gr_189_14, gt_202, gr_189_31, gt_218, gr_189_38, gt_223]
    rw [S.1 189 (by omega) (by omega), h15]
    exact ⟨fun _ => N υ S, fun q => absurd q (by omega)⟩
  | k + 1, i, υ, A, hk, i0, i1, S, N => by
    have e190 : σ 190 = ω := R.2.2.2.1
    simp only [runs] at N
    refine jwp_sound t_Model_asks _ (b_Model_asks_25 ?_)
    simp only [RW, true_and, and_true, and_self, true_or, or_true, Nat.reduceLeDiff, Nat.reduceEqDiff, Nat.reduceAdd, Int.reduceLE, Int.reduceLT, Int.reduceEq, Int.reduceNeg, Int.reduceNe, Nat.reduceSub, reduceIte, implies_true, gt_189, gr_189_14, gt_202, gr_189_31, gt_218, gr_189_38, gt_223]
    rw [S.1 189 (by omega) (by omega), h15]
    by_cases q : n ≤ i
    · rw [if_pos q] at N
      exact ⟨fun _ => N υ S, fun x => absurd x (by omega)⟩
    · rw [if_neg q] at N
      refine ⟨fun x => absurd x q, fun _ => ?_⟩
      have rr := rend_r t (n := n) (i := i) (by omega)
      have S1 := S.1
      have rl := run_len (t := t) (n := n) (i := i) (by omega)
      have V0 : TOL (ju υ 218 0 0) ω 218 (tky t i 0).1 (tky t i 0).2 := ⟨⟨by rw [ju_self]; omega, by rw [ju_self]; omega, fun j a b => by rw [ju_self] at b; omega⟩, ju_self, by rw [rk_0 ju_self]; show (0 : Int) = km (fo ω) 0; rw [km_0]⟩
      have go := l_as_40 (l := l) (P := P) (σ := υ) (i := i) hd R.1 (by rw [S1 190 (by omega) (by omega)]; exact e190) (by rw [S1 189 (by omega) (by omega)]; exact h15) (fun j a b => by rw [S1 202 (by omega) (by omega)]; exact T j a b) hn.2 i0 (n - i).toNat 0 (ju υ 218 0 0) (by omega) (fun c hc => ju_row hc) V0
      rw [Int.natCast_zero, Int.add_zero] at go
      refine go (fun ξ F O => ?_)
      have O' : TOL ξ ω 218 (tky t i (rend t n i - i).toNat).1 (tky t i (rend t n i - i).toNat).2 := O
      show Ev (l, (fun _ => 0), 0) d 0 0 m_Model_asks (RW P) 111 [some (vR 189), some (vI (rend t n i)), none] [] gW ξ 0 0
      obtain ⟨O1, O2, O3⟩ := O'
      have Fσ : ∀ c, c ≠ 218 → c ≠ 223 → ξ c = σ c := fun c a b => by rw [F c a, S1 c a b]
      have Sξ : AKR σ ξ ω A := ⟨Fσ, fun f a b => by rw [F 223 (by omega)]; exact S.2.1 f a b, S.2.2⟩
      have Rξ := R.of (τ := ξ) (fun c h => Fσ c (by omega) (by omega))
      have d680 := R.2.2.1
      refine jwp_sound t_Model_asks _ (b_Model_asks_111 ?_)
      simp only [RW, true_and, and_true, and_self, true_or, or_true, Nat.reduceLeDiff, Nat.reduceEqDiff, Nat.reduceAdd, Int.reduceLE, Int.reduceLT, Int.reduceEq, Int.reduceNeg, Int.reduceNe, Nat.reduceSub, reduceIte, implies_true, gt_189, gr_189_14, gt_202, gr_189_31, gt_218, gr_189_38, gt_223]
      rw [O2, rl]
      refine ⟨fun x => ?_, fun x => ?_⟩
      · rw [if_neg (by omega), List.nil_append] at N
        refine jwp_sound t_Model_asks _ (b_Model_asks_133 ?_)
        simp only [RW, true_and, and_true, and_self, true_or, or_true, Nat.reduceLeDiff, Nat.reduceEqDiff, Nat.reduceAdd, Int.reduceLE, Int.reduceLT, Int.reduceEq, Int.reduceNeg, Int.reduceNe, Nat.reduceSub, reduceIte, implies_true]
        rw [w32_of (x := rend t n i + 1) (by omega) (by omega)]
        exact ⟨fun _ => l_as_25 hd R hal h15 T hn k _ ξ A (by omega) (by omega) (by omega) Sξ N, fun x => x.elim⟩
      · rw [if_pos (by omega), List.singleton_append, List.foldl_cons] at N
        refine cN_w (c_Model_find (X := 218) ξ (fun y a b => by rw [Fσ 200 (by omega) (by omega)]; exact hal y a b) gt_218 O1 (by omega) (by omega) (by omega) Rξ.FRM) (by omega) (fun z χ hz => ?_)
        obtain ⟨hz, rfl⟩ := hz
        rw [O3] at hz
        have ix := Rξ.IX hz
        refine jwp_sound t_Model_asks _ (b_Model_asks_133 ?_)
        simp only [RW, true_and, and_true, and_self, true_or, or_true, Nat.reduceLeDiff, Nat.reduceEqDiff, Nat.reduceAdd, Int.reduceLE, Int.reduceLT, Int.reduceEq, Int.reduceNeg, Int.reduceNe, Nat.reduceSub, reduceIte, implies_true, gt_189, gr_189_14, gt_202, gr_189_31, gt_218, gr_189_38, gt_223]
        rw [w32_of (x := rend t n i + 1) (by omega) (by omega)]
        rcases ix with ⟨h1, h2⟩ | ⟨h1, h2, h3⟩
        · rw [ask1_no h2] at N
          exact ⟨fun _ => l_as_25 hd R hal h15 T hn k _ χ A (by omega) (by omega) (by omega) Sξ N, fun y => absurd h1 y⟩
        · rw [ask1_yes R.2.1 h1 h2 h3] at N
          refine ⟨fun y => absurd y (by omega), fun _ => ⟨h1, by omega, ?_⟩⟩
          refine l_as_25 hd R hal h15 T hn k _ _ _ (by omega) (by omega) (by omega) ⟨fun c a b => by rw [ju_row b]; exact Fσ c a b, fun f a b => ?_, fun f hf => ?_⟩ N
          · show _ = b2i (if f = z then true else A f)
            by_cases y : f = z
            · rw [if_pos y, y, ju_self]
              rfl
            · rw [if_neg y, ju_ne2 y]
              exact Sξ.2.1 f a b
          · by_cases y : f = z
            · rw [y]
              exact ⟨h1, h2⟩
            · have hf' : (if f = z then true else A f) = true := hf
              rw [if_neg y] at hf'
              exact S.2.2 f hf'
theorem c_Model_asks (R : RFR σ ω) (hal : ALP σ) (T : TPR σ n t) : Cw 12 m_Model_asks [vR 189] σ (fun _ τ => ∃ ξ, AKR σ ξ ω (askA ω t n) ∧ τ = ju ξ 189 15 0) := by
  obtain ⟨T1, T2, T3⟩ := T
  have d0 := R.2.1.1
  have dn0 : 0 ≤ dn ω := d0
  refine Cw_of o_Model_asks rfl fun l d hd => jwp_sound t_Model_asks _ (b_Model_asks_0 ?_)
  refine l_as_2 (σ := σ) hd R (fun τ F V => ?_) (dn ω).toNat 0 σ (by omega) (fun _ _ _ => rfl) (fun j a b => by omega)
  exact l_as_25 (σ := σ) hd R hal T1 T3 T2 n.toNat 0 τ (fun _ => false) (by omega) (by omega) (by omega) ⟨F, fun f a b => by rw [V f a b]; rfl, fun f h => by cases h⟩ (fun ξ S => ⟨ξ, S, rfl⟩)
end RU
