/-! Queries of words and forms: what they tell -/
def jshrB : Prop := True
theorem sh32s : ∀ n : Fin 32, ((Int32.ofInt ((n.val : Nat) : Int) &&& 31).toBitVec.smod 32).toNat = n.val := by decide +kernel
theorem jshr32_of {x : Int} {s : Nat} (hx : r32 x) (hs : s < 32) : jshr32 x s = x / 2 ^ s := by
  unfold jshr32
  rw [← Int32.toInt_toBitVec, Int32.toBitVec_shiftRight]
  show ((Int32.ofInt x).toBitVec.sshiftRight ((Int32.ofInt ((s : Nat) : Int) &&& 31).toBitVec.smod 32).toNat).toInt = _
  have e : ((Int32.ofInt ((s : Nat) : Int) &&& 31).toBitVec.smod 32).toNat = s := sh32s ⟨s, hs⟩
  rw [e, BitVec.toInt_sshiftRight, Int32.toInt_toBitVec, i32_of hx, Int.shiftRight_eq_div_pow, pw2]
theorem jshr32_r {x k : Int} (h0 : 0 ≤ x) (h : x < 2147483648) (k0 : 0 ≤ k) (k1 : k < 32) : 0 ≤ jshr32 x k ∧ jshr32 x k ≤ x := by
  have e := jshr32_of (x := x) (s := k.toNat) (by unfold r32; omega) (by omega)
  rw [show ((k.toNat : Nat) : Int) = k by omega] at e
  rw [e]
  have hp : (0 : Int) < 2 ^ k.toNat := Int.pow_pos (by omega)
  exact ⟨Int.ediv_nonneg h0 (by omega), Int.ediv_le_self _ h0⟩
/-- the i-th place of a form among the first n -/
def fnd (w : Int → Int) (f i : Int) : Nat → Int
  | 0 => -1
  | n + 1 => if fnd w f i n ≠ -1 then fnd w f i n else if w n = f ∧ cq w n f = i then n else -1
theorem fnd_r {w : Int → Int} {f i : Int} : ∀ n : Nat, fnd w f i n = -1 ∨ (0 ≤ fnd w f i n ∧ fnd w f i n < n ∧ w (fnd w f i n) = f ∧ cq w (fnd w f i n).toNat f = i)
  | 0 => Or.inl rfl
  | n + 1 => by
    have IH := fnd_r (w := w) (f := f) (i := i) n
    simp only [fnd]
    by_cases q : fnd w f i n = -1
    · rw [if_neg (by omega)]
      by_cases q2 : w n = f ∧ cq w n f = i
      · rw [if_pos q2]
        exact Or.inr ⟨by omega, by omega, q2.1, by rw [show ((n : Int)).toNat = n by omega]; exact q2.2⟩
      · rw [if_neg q2]
        exact Or.inl rfl
    · rw [if_pos q]
      rcases IH with IH | IH
      · exact absurd IH q
      · exact Or.inr ⟨IH.1, by omega, IH.2.2⟩
theorem fnd_eq {w : Int → Int} {f i p : Int} {n : Nat} (h0 : 0 ≤ p) (h1 : p < n) (hw : w p = f) (hc : cq w p.toNat f = i) : fnd w f i n = p := by
  have un : ∀ q, 0 ≤ q → w q = f → cq w q.toNat f = i → q = p := by
    intro q q0 q1 q2
    by_cases a : q < p
    · have := cq_lt2 (w := w) q0 a (by rw [q1, hw])
      rw [q1, hw, q2, hc] at this
      omega
    · by_cases b : p < q
      · have := cq_lt2 (w := w) h0 b (by rw [q1, hw])
        rw [q1, hw, q2, hc] at this
        omega
      · omega
  have ne : ∀ m : Nat, p < m → fnd w f i m ≠ -1 := by
    intro m
    induction m with
    | zero => intro h; omega
    | succ m ih =>
      intro h
      simp only [fnd]
      by_cases q : fnd w f i m = -1
      · rw [if_neg (by omega)]
        have hm : p = m := by
          by_cases a : p < m
          · exact absurd q (ih a)
          · omega
        rw [if_pos]
        · omega
        · rw [← hm]
          refine ⟨hw, ?_⟩
          rw [show m = p.toNat by omega]
          exact hc
      · rw [if_pos q]
        exact q
  rcases fnd_r (w := w) (f := f) (i := i) n with h | h
  · exact absurd h (ne n h1)
  · exact un _ h.1 h.2.2.1 h.2.2.2
theorem fnd_no {w : Int → Int} {f i : Int} {n : Nat} (h : i < 0 ∨ cq w n f ≤ i) : fnd w f i n = -1 := by
  rcases fnd_r (w := w) (f := f) (i := i) n with a | ⟨a, b, c, e⟩
  · exact a
  · exfalso
    have r := (cq_r w f (fnd w f i n).toNat).1
    have l := cq_lt (w := w) (W := n) a b
    rw [c] at l
    omega
/-- there is one, if so many -/
theorem fnd_yes {w : Int → Int} {f i : Int} : ∀ {n : Nat}, 0 ≤ i → i < cq w n f → 0 ≤ fnd w f i n
  | 0, h0, h1 => by
    have : cq w 0 f = 0 := rfl
    omega
  | n + 1, h0, h1 => by
    simp only [fnd]
    by_cases q : fnd w f i n = -1
    · rw [if_neg (by omega)]
      have hle : cq w n f ≤ i := by
        by_cases a : i < cq w n f
        · have := fnd_yes h0 a
          omega
        · omega
      have h2 : cq w (n + 1) f = cq w n f + (if w n = f then 1 else 0) := rfl
      by_cases c : w n = f
      · rw [if_pos c] at h2
        rw [if_pos ⟨c, by omega⟩]
        omega
      · rw [if_neg c] at h2
        omega
    · rw [if_pos q]
      rcases fnd_r (w := w) (f := f) (i := i) n with a | a
      · exact absurd a q
      · exact a.1
/-- bits of a list packed by k, and its last place -/
def pk (w : Int → Int) (f k : Int) : Nat → Int × Int
  | 0 => (0, -1)
  | n + 1 => if w n = f then ((pk w f k n).1 + (jshr32 ((n : Int) - (pk w f k n).2 - 1) k + 1 + k), (n : Int)) else pk w f k n
theorem pk_r {w : Int → Int} {f k : Int} (k0 : 0 ≤ k) (k1 : k ≤ 10) : ∀ n : Nat, n ≤ 1000 → -1 ≤ (pk w f k n).2 ∧ (pk w f k n).2 < n ∧ 0 ≤ (pk w f k n).1 ∧ (pk w f k n).1 ≤ (n : Int) * 1100
  | 0, _ => by simp [pk]
  | n + 1, h => by
    obtain ⟨a, b, c, e⟩ := pk_r (w := w) (f := f) k0 k1 n (by omega)
    simp only [pk]
    split
    · have := jshr32_r (x := (n : Int) - (pk w f k n).2 - 1) (k := k) (by omega) (by omega) k0 (by omega)
      simp only
      omega
    · omega
theorem pk_no {w : Int → Int} {f k : Int} (a : Nat) : ∀ n : Nat, (∀ q : Int, a ≤ q → q < a + n → w q ≠ f) → pk w f k (a + n) = pk w f k a
  | 0, _ => rfl
  | n + 1, h => by
    show (if w ((a + n : Nat) : Int) = f then _ else pk w f k (a + n)) = _
    rw [if_neg (h _ (by omega) (by omega)), pk_no a n (fun q x y => h q x (by omega))]
def pkb (w : Int → Int) (f : Int) (W : Nat) : Nat → Int
  | 0 => (pk w f 0 W).1
  | k + 1 => min (pkb w f W k) (pk w f ((k + 1 : Nat) : Int) W).1
theorem pkb_r {w : Int → Int} {f : Int} {W : Nat} (hW : W ≤ 1000) : ∀ k : Nat, k ≤ 10 → 0 ≤ pkb w f W k ∧ pkb w f W k ≤ 1100000
  | 0, _ => by
    have := pk_r (w := w) (f := f) (k := 0) (by omega) (by omega) W hW
    simp only [pkb]
    omega
  | k + 1, h => by
    have := pk_r (w := w) (f := f) (k := ((k + 1 : Nat) : Int)) (by omega) (by omega) W hW
    have := pkb_r (w := w) (f := f) hW k (by omega)
    simp only [pkb]
    omega
/-! the reference's side -/
section RQ
variable {l : Launch} {d : Nat} {ω : Int → Int} {σ : jH}
/-- what the reference's calls rely on: its rows made of a good row -/
def RFR (σ : jH) (ω : Int → Int) : Prop := OKW ω ∧ RDR σ ω
theorem RFR.W {e : Int} (R : RFR σ ω) (he : 0 ≤ e ∧ e ≤ 1) : σ 193 e = (wW ω e).1 ∧ 0 ≤ (wW ω e).1 ∧ (wW ω e).1 ≤ 300 := by
  have h := (R.2.2.2.2.2.1 e he.1 he.2).1
  have h0 := wW_0 ω e
  refine ⟨h, h0, ?_⟩
  have : e = 0 ∨ e = 1 := by omega
  rcases this with rfl | rfl
  · exact R.1.2.2.2.2.1
  · exact R.1.2.2.2.2.2
theorem RFR.N (R : RFR σ ω) : σ 189 10 = dn ω ∧ 0 ≤ dn ω ∧ dn ω ≤ 680 := ⟨R.2.2.2.2.1, R.2.1.1, R.2.2.1⟩
theorem c_Model_isForm (R : RFR σ ω) (f : Int) : Cw 11 m_Model_isForm [vR 189, vI f] σ (fun z τ => z = (if 0 ≤ f ∧ f < dn ω then 1 else 0) ∧ τ = σ) := by
  have N := R.N
  refine Cw_of o_Model_isForm rfl fun l d hd => jwp_sound t_Model_isForm _ (b_Model_isForm_0 ?_)
  simp only [RW, true_and, and_true, and_self, true_or, or_true, Nat.reduceLeDiff, Nat.reduceEqDiff, Nat.reduceAdd, Int.reduceLE, Int.reduceLT, Int.reduceEq, Int.reduceNeg, Int.reduceNe, Nat.reduceSub, reduceIte, implies_true, gt_189]
  rw [N.1, w32_of (by omega) (by omega)]
  refine cN_p (c_Model_in _ _ _ _) (by omega) ?_
  by_cases q : 0 ≤ f ∧ f < dn ω
  · rw [if_pos (by omega), if_pos q]
    exact ⟨Or.inr rfl, rfl, rfl⟩
  · rw [if_neg (by omega), if_neg q]
    exact ⟨Or.inl rfl, rfl, rfl⟩
theorem c_Model_isWord (R : RFR σ ω) (e p : Int) : Cw 12 m_Model_isWord [vR 189, vI e, vI p] σ (fun z τ => z = (if (0 ≤ e ∧ e ≤ 1) ∧ 0 ≤ p ∧ p < (wW ω e).1 then 1 else 0) ∧ τ = σ) := by
  refine Cw_of o_Model_isWord rfl fun l d hd => jwp_sound t_Model_isWord _ (b_Model_isWord_0 ?_)
  simp only [RW, true_and, and_true, and_self, true_or, or_true, Nat.reduceLeDiff, Nat.reduceEqDiff, Nat.reduceAdd, Int.reduceLE, Int.reduceLT, Int.reduceEq, Int.reduceNeg, Int.reduceNe, Nat.reduceSub, reduceIte, implies_true, gt_189, gr_189_4, gt_193]
  refine cN_p (c_Model_isEdition _ _) (by omega) ?_
  by_cases he : 0 ≤ e ∧ e ≤ 1
  · have w := R.W he
    rw [if_pos he, w.1, w32_of (by omega) (by omega)]
    refine ⟨fun q => by omega, fun _ => ⟨by omega, by omega, ?_⟩⟩
    refine cN_p (c_Model_in _ _ _ _) (by omega) ?_
    by_cases q : 0 ≤ p ∧ p < (wW ω e).1
    · rw [if_pos (by omega), if_pos ⟨he, q⟩]
      exact ⟨fun q => by omega, fun _ => ⟨rfl, rfl⟩⟩
    · rw [if_neg (by omega), if_neg (fun x => q x.2)]
      exact ⟨fun _ => ⟨rfl, rfl⟩, fun q => absurd rfl q⟩
  · rw [if_neg he, if_neg (fun x => he x.1)]
    exact ⟨fun _ => ⟨rfl, rfl⟩, fun q => absurd rfl q⟩
theorem l_Model_manyOf {e f : Int} (hd : 10 ≤ d) (R : RFR σ ω) (he : 0 ≤ e ∧ e ≤ 1) : ∀ (k p : Nat), p + k = (wW ω e).1.toNat →
    Ev (l, (fun _ => 0), 0) d 0 0 m_Model_manyOf (RW fun z τ => z = cq (dw ω e) (wW ω e).1.toNat f ∧ τ = σ) 5 [some (vR 189), some (vI e), some (vI f), some (vI (cq (dw ω e) p f)), some (vI p)] [] gW σ 0 0
  | 0, p, h => by
    have w := R.W he
    refine jwp_sound t_Model_manyOf _ (b_Model_manyOf_5 ?_)
    simp only [RW, true_and, and_true, and_self, true_or, or_true, Nat.reduceLeDiff, Nat.reduceEqDiff, Nat.reduceAdd, Int.reduceLE, Int.reduceLT, Int.reduceEq, Int.reduceNeg, Int.reduceNe, Nat.reduceSub, reduceIte, implies_true, gt_189, gr_189_4, gt_193, gr_189_5, gt_194]
    rw [w.1]
    refine ⟨by omega, by omega, fun _ => ?_, fun q => absurd q (by omega)⟩
    rw [show (wW ω e).1.toNat = p by omega]
  | k + 1, p, h => by
    have w := R.W he
    have IH := l_Model_manyOf (f := f) hd R he k (p + 1) (by omega)
    have r := cq_r (dw ω e) f p
    have hw := R.2.2.2.2.2.2.1 e p he.1 he.2 (by omega) (by omega)
    have hs : cq (dw ω e) (p + 1) f = cq (dw ω e) p f + (if dw ω e p = f then 1 else 0) := rfl
    rw [hs] at IH
    refine jwp_sound t_Model_manyOf _ (b_Model_manyOf_5 ?_)
    simp only [RW, true_and, and_true, and_self, true_or, or_true, Nat.reduceLeDiff, Nat.reduceEqDiff, Nat.reduceAdd, Int.reduceLE, Int.reduceLT, Int.reduceEq, Int.reduceNeg, Int.reduceNe, Nat.reduceSub, reduceIte, implies_true, gt_189, gr_189_4, gt_193, gr_189_5, gt_194]
    rw [w.1, w32_of (x := 340 * e) (by omega) (by omega), w32_of (x := 340 * e + p) (by omega) (by omega), hw, w32_of (x := _ + 0) (by omega) (by omega), w32_of (x := cq _ _ _ + 1) (by omega) (by omega), w32_of (x := (p : Int) + 1) (by omega) (by omega)]
    refine ⟨by omega, by omega, fun q => absurd q (by omega), fun _ => ⟨by omega, by omega, fun q => ?_, fun q => ?_⟩⟩
    · rw [if_neg q] at IH
      exact IH
    · rw [if_pos q] at IH
      exact IH
theorem c_Model_manyOf (R : RFR σ ω) {e f : Int} (he : 0 ≤ e ∧ e ≤ 1) : Cw 10 m_Model_manyOf [vR 189, vI e, vI f] σ (fun z τ => z = cq (dw ω e) (wW ω e).1.toNat f ∧ τ = σ) := by
  refine Cw_of o_Model_manyOf rfl fun l d hd => jwp_sound t_Model_manyOf _ (b_Model_manyOf_0 ?_)
  exact l_Model_manyOf hd R he (wW ω e).1.toNat 0 (by omega)
theorem l_Model_placeInLine {e p : Int} (hd : 10 ≤ d) (R : RFR σ ω) (he : 0 ≤ e ∧ e ≤ 1) (hp : 0 ≤ p ∧ p < (wW ω e).1) : ∀ (k q : Nat), (q : Int) + k = p →
    Ev (l, (fun _ => 0), 0) d 0 0 m_Model_placeInLine (RW fun z τ => z = cq (wW ω e).2.2.1 p.toNat ((wW ω e).2.2.1 p) ∧ τ = σ) 5 [some (vR 189), some (vI e), some (vI p), some (vI (cq (wW ω e).2.2.1 q ((wW ω e).2.2.1 p))), some (vI q)] [] gW σ 0 0
  | 0, q, h => by
    refine jwp_sound t_Model_placeInLine _ (b_Model_placeInLine_5 ?_)
    simp only [RW, true_and, and_true, and_self, true_or, or_true, Nat.reduceLeDiff, Nat.reduceEqDiff, Nat.reduceAdd, Int.reduceLE, Int.reduceLT, Int.reduceEq, Int.reduceNeg, Int.reduceNe, Nat.reduceSub, reduceIte, implies_true, gt_189, gr_189_6, gt_195]
    refine ⟨fun _ => ?_, fun q => absurd q (by omega)⟩
    rw [show p.toNat = q by omega]
  | k + 1, q, h => by
    have w := R.W he
    have IH := l_Model_placeInLine hd R he hp k (q + 1) (by omega)
    have r := cq_r (wW ω e).2.2.1 ((wW ω e).2.2.1 p) q
    have h1 := ((R.2.2.2.2.2.1 e he.1 he.2).2 q (by omega) (by omega)).1
    have h2 := ((R.2.2.2.2.2.1 e he.1 he.2).2 p hp.1 hp.2).1
    have hs : cq (wW ω e).2.2.1 (q + 1) ((wW ω e).2.2.1 p) = cq (wW ω e).2.2.1 q ((wW ω e).2.2.1 p) + (if (wW ω e).2.2.1 q = (wW ω e).2.2.1 p then 1 else 0) := rfl
    rw [hs] at IH
    refine jwp_sound t_Model_placeInLine _ (b_Model_placeInLine_5 ?_)
    simp only [RW, true_and, and_true, and_self, true_or, or_true, Nat.reduceLeDiff, Nat.reduceEqDiff, Nat.reduceAdd, Int.reduceLE, Int.reduceLT, Int.reduceEq, Int.reduceNeg, Int.reduceNe, Nat.reduceSub, reduceIte, implies_true, gt_189, gr_189_6, gt_195]
    rw [w32_of (x := 340 * e) (by omega) (by omega), w32_of (x := 340 * e + q) (by omega) (by omega), w32_of (x := 340 * e + p) (by omega) (by omega), h1, h2, w32_of (x := _ + 0) (by omega) (by omega), w32_of (x := cq _ _ _ + 1) (by omega) (by omega), w32_of (x := (q : Int) + 1) (by omega) (by omega)]
    refine ⟨fun q => absurd q (by omega), fun _ => ⟨by omega, by omega, by omega, by omega, fun q => ?_, fun q => ?_⟩⟩
    · rw [if_neg q] at IH
      exact IH
    · rw [if_pos q] at IH
      exact IH
theorem c_Model_placeInLine (R : RFR σ ω) {e p : Int} (he : 0 ≤ e ∧ e ≤ 1) (hp : 0 ≤ p ∧ p < (wW ω e).1) : Cw 10 m_Model_placeInLine [vR 189, vI e, vI p] σ (fun z τ => z = cq (wW ω e).2.2.1 p.toNat ((wW ω e).2.2.1 p) ∧ τ = σ) := by
  refine Cw_of o_Model_placeInLine rfl fun l d hd => jwp_sound t_Model_placeInLine _ (b_Model_placeInLine_0 ?_)
  exact l_Model_placeInLine hd R he hp p.toNat 0 (by omega)
end RQ
