/-! Ranks: what a line is worth; runs of the TAPE; lines put in order -/
def bgn (w L : Int → Int) (f i : Int) : Nat → Bool
  | 0 => false
  | m + 1 => bgn w L f i m || (decide (w m = f) && decide (L m = i))
theorem bgn_iff {w L : Int → Int} {f i : Int} : ∀ {m : Nat}, bgn w L f i m = true ↔ ∃ p : Int, 0 ≤ p ∧ p < m ∧ w p = f ∧ L p = i
  | 0 => by simp [bgn]; omega
  | m + 1 => by
    simp only [bgn, Bool.or_eq_true, Bool.and_eq_true, decide_eq_true_eq, bgn_iff]
    constructor
    · rintro (⟨p, h1, h2, h3⟩ | h)
      · exact ⟨p, h1, by omega, h3⟩
      · exact ⟨m, by omega, by omega, h⟩
    · rintro ⟨p, h1, h2, h3⟩
      by_cases hk : p = m
      · exact Or.inr (hk ▸ h3)
      · exact Or.inl ⟨p, h1, by omega, h3⟩
/-- in how many lines, and the last -/
def lwk (w L : Int → Int) (f : Int) : Nat → Int × Int
  | 0 => (0, -1)
  | m + 1 => if w m = f then ((lwk w L f m).1 + (if L m = (lwk w L f m).2 then 0 else 1), L m) else lwk w L f m
def MNL (L : Int → Int) (W : Nat) (N : Nat) : Prop := ∀ p : Int, 0 ≤ p → p < W → (0 ≤ L p ∧ L p < N) ∧ ∀ q, 0 ≤ q → q ≤ p → L q ≤ L p
theorem lwk_last {w L : Int → Int} {f : Int} {W N : Nat} (M : MNL L W N) : ∀ m : Nat, m ≤ W → ((lwk w L f m).2 = -1 ∧ ∀ p : Int, 0 ≤ p → p < m → w p ≠ f) ∨ ((∃ p : Int, 0 ≤ p ∧ p < m ∧ w p = f ∧ L p = (lwk w L f m).2) ∧ ∀ q : Int, 0 ≤ q → q < m → w q = f → L q ≤ (lwk w L f m).2)
  | 0, _ => Or.inl ⟨rfl, fun p a b => by omega⟩
  | m + 1, h => by
    have IH := lwk_last (w := w) (f := f) M m (by omega)
    by_cases g : w m = f
    · have e : lwk w L f (m + 1) = ((lwk w L f m).1 + (if L m = (lwk w L f m).2 then 0 else 1), L m) := if_pos g
      rw [e]
      exact Or.inr ⟨⟨m, by omega, by omega, g, rfl⟩, fun q a b _ => (M m (by omega) (by omega)).2 q a (by omega)⟩
    · have e : lwk w L f (m + 1) = lwk w L f m := if_neg g
      rw [e]
      rcases IH with ⟨h1, h2⟩ | ⟨⟨p, a, b, c, c2⟩, h2⟩
      · refine Or.inl ⟨h1, fun p a b => ?_⟩
        by_cases x : p = m
        · rw [x]; exact g
        · exact h2 p a (by omega)
      · refine Or.inr ⟨⟨p, a, by omega, c, c2⟩, fun q a b c => ?_⟩
        by_cases x : q = m
        · rw [x] at c
          exact absurd c g
        · exact h2 q a (by omega) c
/-- a line is new if it isn't the last -/
theorem lwk_new {w L : Int → Int} {f : Int} {W N : Nat} (M : MNL L W N) {m : Nat} (h : m < W) : L m = (lwk w L f m).2 ↔ bgn w L f (L m) m = true := by
  have l := (M m (by omega) (by omega))
  rcases lwk_last (w := w) (f := f) M m (by omega) with ⟨h1, h2⟩ | ⟨⟨p, a, b, c, c2⟩, h2⟩
  · rw [h1, bgn_iff]
    exact ⟨fun x => by have := l.1.1; omega, fun ⟨p, a, b, c, _⟩ => absurd c (h2 p a b)⟩
  · rw [bgn_iff]
    constructor
    · intro e
      exact ⟨p, a, b, c, c2.trans e.symm⟩
    · rintro ⟨q, a', b', c', e⟩
      have := h2 q a' b' c'
      have := l.2 p a (by omega)
      omega
theorem lwk_sum {w L : Int → Int} {f : Int} {W N : Nat} (M : MNL L W N) : ∀ m : Nat, m ≤ W → (lwk w L f m).1 = sq (fun i => if bgn w L f i m = true then 1 else 0) N
  | 0, _ => by
    show (0 : Int) = _
    rw [sq_eq (h := fun _ => 0) (fun k a b => by show (if bgn w L f k 0 = true then (1 : Int) else 0) = 0; rw [if_neg (by simp [bgn])])]
    clear M
    induction N with
    | zero => rfl
    | succ N ih => rw [sq_s, ← ih]; rfl
  | m + 1, h => by
    have IH := lwk_sum (w := w) (f := f) M m (by omega)
    have l := (M m (by omega) (by omega))
    have nw := lwk_new (w := w) (f := f) M (m := m) (by omega)
    by_cases g : w m = f
    · have e : lwk w L f (m + 1) = ((lwk w L f m).1 + (if L m = (lwk w L f m).2 then 0 else 1), L m) := if_pos g
      rw [e]
      show (lwk w L f m).1 + (if L m = (lwk w L f m).2 then 0 else 1) = _
      by_cases q : L m = (lwk w L f m).2
      · rw [if_pos q, IH, Int.add_zero]
        refine sq_eq (fun k a b => ?_)
        have : bgn w L f k (m + 1) = true ↔ bgn w L f k m = true := by
          simp only [bgn, Bool.or_eq_true, Bool.and_eq_true, decide_eq_true_eq]
          exact ⟨fun x => x.elim id (fun y => y.2 ▸ nw.mp q), Or.inl⟩
        simp only [this]
      · rw [if_neg q, IH]
        have hit := sq_hit l.1.1 N
        rw [if_pos (by omega)] at hit
        rw [← hit, ← sq_add]
        refine sq_eq (fun k a b => ?_)
        by_cases x : L m = k
        · have n1 : ¬ bgn w L f k m = true := fun y => q (nw.mpr (x ▸ y))
          have n2 : bgn w L f k (m + 1) = true := by
            simp only [bgn, Bool.or_eq_true, Bool.and_eq_true, decide_eq_true_eq]
            exact Or.inr ⟨g, x⟩
          rw [if_neg n1, if_pos x, if_pos n2]
          omega
        · have : bgn w L f k (m + 1) = true ↔ bgn w L f k m = true := by
            simp only [bgn, Bool.or_eq_true, Bool.and_eq_true, decide_eq_true_eq]
            exact ⟨fun z => z.elim id (fun y => absurd y.2 x), Or.inl⟩
          rw [if_neg x, Int.add_zero]
          simp only [this]
    · have e : lwk w L f (m + 1) = lwk w L f m := if_neg g
      rw [e, IH]
      refine sq_eq (fun k a b => ?_)
      have : bgn w L f k (m + 1) = true ↔ bgn w L f k m = true := by
        simp only [bgn, Bool.or_eq_true, Bool.and_eq_true, decide_eq_true_eq]
        exact ⟨fun z => z.elim id (fun y => absurd y.1 g), Or.inl⟩
      simp only [this]
noncomputable def bgW (ω : Int → Int) (e f i : Int) : Bool := bgn (dw ω e) (wW ω e).2.2.1 f i (wW ω e).1.toNat
noncomputable def lnn (ω : Int → Int) (e f : Int) : Int := sq (fun i => if bgW ω e f i = true then 1 else 0) (ω (3 + e)).toNat
noncomputable def ctb (ω : Int → Int) (e f i : Int) : Int := if bgW ω e f i = true then 1000 / lnn ω e f else 0
noncomputable def wth (ω : Int → Int) (e : Int) (A : Int → Bool) (i : Int) : Int := sq (fun f => if A f = true then ctb ω e f i else 0) (dn ω).toNat
theorem lnn_r (ω : Int → Int) (e f : Int) : 0 ≤ lnn ω e f ∧ lnn ω e f ≤ (ω (3 + e)).toNat := sq_le (fun k => by split <;> omega) _
theorem ctb_r (ω : Int → Int) (e f i : Int) : 0 ≤ ctb ω e f i ∧ ctb ω e f i ≤ 1000 := by
  unfold ctb
  have := (lnn_r ω e f).1
  split
  · refine ⟨Int.ediv_nonneg (by omega) this, ?_⟩
    exact Int.ediv_le_self _ (by omega)
  · omega
theorem wth_r (ω : Int → Int) (e : Int) (A : Int → Bool) (i : Int) : ∀ n : Nat, 0 ≤ sq (fun f => if A f = true then ctb ω e f i else 0) n ∧ sq (fun f => if A f = true then ctb ω e f i else 0) n ≤ 1000 * n
  | 0 => by simp [sq]
  | n + 1 => by
    have IH := wth_r ω e A i n
    have c := ctb_r ω e n i
    rw [sq_s]
    show 0 ≤ _ + (if A n = true then ctb ω e n i else 0) ∧ _ + (if A n = true then ctb ω e n i else 0) ≤ _
    split <;> omega
theorem sq_up {g : Int → Int} {x v : Int} (x0 : 0 ≤ x) (hg : g x = 0) : ∀ n : Nat, sq (fun k => if k = x then v else g k) n = sq g n + (if x < n then v else 0)
  | 0 => by
    rw [if_neg (by omega)]
    rfl
  | n + 1 => by
    rw [sq_s, sq_s, sq_up x0 hg n]
    by_cases q : (n : Int) = x
    · rw [if_pos q, if_neg (by omega), if_pos (by omega), q, hg, Int.add_zero]
    · rw [if_neg q]
      by_cases q2 : x < n
      · rw [if_pos q2, if_pos (by omega)]
        omega
      · rw [if_neg q2, if_neg (by omega)]
        omega
noncomputable def ask1 (ω : Int → Int) (A : Int → Bool) (K f : Int) : Bool := A f || (decide (0 ≤ f ∧ f < dn ω) && decide (dF ω f = km (fo ω) K))
theorem ask1_no {ω : Int → Int} {A : Int → Bool} {K : Int} (h : ∀ f, 0 ≤ f → f < dn ω → dF ω f ≠ km (fo ω) K) : ask1 ω A K = A := by
  funext f
  unfold ask1
  by_cases q : 0 ≤ f ∧ f < dn ω
  · rw [decide_eq_false (h f q.1 q.2), Bool.and_false, Bool.or_false]
  · rw [decide_eq_false q, Bool.false_and, Bool.or_false]
theorem ask1_yes {ω : Int → Int} {A : Int → Bool} {K x : Int} (D : ISD ω (dD ω)) (x0 : 0 ≤ x) (x1 : x < dn ω) (h : dF ω x = km (fo ω) K) : ask1 ω A K = fun f => if f = x then true else A f := by
  funext f
  unfold ask1
  by_cases q : f = x
  · rw [if_pos q, q, decide_eq_true ⟨x0, x1⟩, decide_eq_true h]
    cases A x <;> rfl
  · rw [if_neg q]
    by_cases g : 0 ≤ f ∧ f < dn ω
    · rw [decide_eq_false (p := dF ω f = km (fo ω) K) (fun y => q (inc_inj D.2.1 g.1 g.2 x0 x1 (y.trans h.symm))), Bool.and_false, Bool.or_false]
    · rw [decide_eq_false g, Bool.false_and, Bool.or_false]
theorem wth_add {ω : Int → Int} {e x i : Int} {A : Int → Bool} (x0 : 0 ≤ x) (x1 : x < dn ω) (h : A x = false) : wth ω e (fun f => if f = x then true else A f) i = wth ω e A i + ctb ω e x i := by
  unfold wth
  have := sq_up (g := fun f => if A f = true then ctb ω e f i else 0) (v := ctb ω e x i) x0 (by show (if A x = true then _ else (0 : Int)) = 0; rw [h, if_neg Bool.false_ne_true]) (dn ω).toNat
  rw [if_pos (by omega)] at this
  rw [← this]
  refine sq_eq (fun k a b => ?_)
  by_cases q : k = x
  · show (if (if k = x then true else A k) = true then ctb ω e k i else 0) = _
    rw [if_pos q, if_pos q, if_pos rfl, q]
  · show (if (if k = x then true else A k) = true then ctb ω e k i else 0) = _
    rw [if_neg q, if_neg q]
def nlB (t : Int → Int) (j : Int) : Bool := decide (¬ isL (t j))
theorem nlB_t {t : Int → Int} {j : Int} (h : ¬ isL (t j)) : nlB t j = true := decide_eq_true h
theorem nlB_f {t : Int → Int} {j : Int} (h : isL (t j)) : nlB t j = false := decide_eq_false (fun x => x h)
def rend (t : Int → Int) (n i : Int) : Int := fsi (nlB t) (n - i).toNat i
def runs (t : Int → Int) (n : Int) : Nat → Int → List Int
  | 0, _ => []
  | k + 1, i => if n ≤ i then [] else (if i < rend t n i then [(tky t i (rend t n i - i).toNat).1] else []) ++ runs t n k (rend t n i + 1)
noncomputable def askA (ω t : Int → Int) (n : Int) : Int → Bool := (runs t n n.toNat 0).foldl (ask1 ω) (fun _ => false)
def ipos (W : Int → Int) (v : Int) : Nat → Nat
  | 0 => 0
  | k + 1 => if W k < v then ipos W v k else k + 1
theorem ipos_r (W : Int → Int) (v : Int) : ∀ k : Nat, ipos W v k ≤ k
  | 0 => Nat.le_refl _
  | k + 1 => by
    have := ipos_r W v k
    simp only [ipos]
    split <;> omega
theorem ipos_eq {W V : Int → Int} {v : Int} : ∀ k : Nat, (∀ j : Int, 0 ≤ j → j < k → W j = V j) → ipos W v k = ipos V v k
  | 0, _ => rfl
  | k + 1, h => by
    simp only [ipos]
    rw [h k (by omega) (by omega), ipos_eq k (fun j a b => h j a (by omega))]
abbrev rkT : Type := Nat × (Int → Int) × (Int → Int)
def rks (g : Int → Int) : Nat → rkT
  | 0 => (0, fun _ => 0, fun _ => 0)
  | i + 1 => if g i ≤ 0 then rks g i else ((rks g i).1 + 1, ins (rks g i).2.1 (rks g i).1 (ipos (rks g i).2.2 (g i) (rks g i).1) i, ins (rks g i).2.2 (rks g i).1 (ipos (rks g i).2.2 (g i) (rks g i).1) (g i))
theorem rks_r (g : Int → Int) : ∀ i : Nat, (rks g i).1 ≤ i
  | 0 => Nat.le_refl _
  | i + 1 => by
    have := rks_r g i
    by_cases q : g i ≤ 0
    · have e : rks g (i + 1) = rks g i := if_pos q
      rw [e]
      omega
    · have e : (rks g (i + 1)).1 = (rks g i).1 + 1 := by
        show (if g i ≤ 0 then rks g i else _ : rkT).1 = _
        rw [if_neg q]
      omega
theorem W_mnl {ω : Int → Int} {e : Int} (L : LOK ω e) : MNL (wW ω e).2.2.1 (wW ω e).1.toNat (ω (3 + e)).toNat := fun p a b => by
  have := W_lines (ω := ω) (e := e) L.1 a (by omega)
  exact ⟨⟨this.1.1, by omega⟩, this.2⟩
theorem lnn_lwk {ω : Int → Int} {e f : Int} (L : LOK ω e) : (lwk (dw ω e) (wW ω e).2.2.1 f (wW ω e).1.toNat).1 = lnn ω e f := lwk_sum (W_mnl L) _ (Nat.le_refl _)
