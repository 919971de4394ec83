/-! The class: words get their forms' numbers, forms their lists -/
def sq (g : Int → Int) : Nat → Int
  | 0 => 0
  | n + 1 => sq g n + g n
theorem sq_eq {g h : Int → Int} : ∀ {n : Nat}, (∀ k : Int, 0 ≤ k → k < n → g k = h k) → sq g n = sq h n
  | 0, _ => rfl
  | n + 1, hh => by
    simp only [sq]
    rw [sq_eq (fun k a b => hh k a (by omega)), hh n (by omega) (by omega)]
theorem sq_mono {g : Int → Int} (h : ∀ k, 0 ≤ g k) (a : Nat) : ∀ n : Nat, sq g a ≤ sq g (a + n)
  | 0 => Int.le_refl _
  | n + 1 => Int.le_trans (sq_mono h a n) (by have := h ((a + n : Nat) : Int); show sq g (a + n) ≤ sq g (a + n) + g ((a + n : Nat) : Int); omega)
theorem sq_0 {g : Int → Int} (h : ∀ k, 0 ≤ g k) (n : Nat) : 0 ≤ sq g n := by
  have := sq_mono h 0 n
  rw [Nat.zero_add] at this
  exact this
theorem sq_hit {a : Int} (h0 : 0 ≤ a) : ∀ n : Nat, sq (fun f => if a = f then 1 else 0) n = if a < n then 1 else 0
  | 0 => by
    rw [if_neg (by omega)]
    rfl
  | n + 1 => by
    simp only [sq]
    rw [sq_hit h0 n]
    by_cases q : a = n
    · rw [if_neg (by omega), if_pos q, if_pos (by omega)]
      omega
    · rw [if_neg q]
      by_cases q2 : a < n
      · rw [if_pos q2, if_pos (by omega)]
        omega
      · rw [if_neg q2, if_neg (by omega)]
        omega
theorem sq_add {g h : Int → Int} : ∀ n : Nat, sq (fun k => g k + h k) n = sq g n + sq h n
  | 0 => rfl
  | n + 1 => by
    simp only [sq]
    rw [sq_add n]
    omega
/-- all words are of some form -/
theorem sq_cq {w : Int → Int} {N : Nat} : ∀ n : Nat, (∀ p : Int, 0 ≤ p → p < n → 0 ≤ w p ∧ w p < N) → sq (cq w n) N = n
  | 0, _ => by
    have : ∀ m : Nat, sq (cq w 0) m = 0 := by
      intro m
      induction m with
      | zero => rfl
      | succ m ih =>
        show sq (cq w 0) m + cq w 0 m = 0
        rw [ih]
        rfl
    rw [this]
    rfl
  | n + 1, h => by
    have e : cq w (n + 1) = fun f => cq w n f + (fun f => if w n = f then 1 else 0) f := rfl
    have h1 := h n (by omega) (by omega)
    rw [e, sq_add, sq_cq n (fun p a b => h p a (by omega)), sq_hit h1.1, if_pos h1.2]
    omega
theorem cq_s {w : Int → Int} {p : Int} (h : 0 ≤ p) (v : Int) : cq w (p + 1).toNat v = cq w p.toNat v + (if w p = v then 1 else 0) := by
  rw [show (p + 1).toNat = p.toNat + 1 by omega]
  simp only [cq]
  rw [show ((p.toNat : Nat) : Int) = p by omega]
theorem cq_le {w : Int → Int} {v : Int} (a : Nat) : ∀ n : Nat, cq w a v ≤ cq w (a + n) v
  | 0 => Int.le_refl _
  | n + 1 => Int.le_trans (cq_le a n) (by show cq w (a + n) v ≤ cq w (a + n) v + _; split <;> omega)
/-- where word p stands in the lists -/
def lpl (w : Int → Int) (W : Nat) (p : Int) : Int := sq (cq w W) (w p).toNat + cq w p.toNat (w p)
theorem cq_lt {w : Int → Int} {W : Nat} {p : Int} (h0 : 0 ≤ p) (h1 : p < W) : cq w p.toNat (w p) + 1 ≤ cq w W (w p) := by
  have a := cq_s (w := w) h0 (w p)
  rw [if_pos rfl] at a
  have b := cq_le (w := w) (v := w p) (p + 1).toNat (W - (p + 1).toNat)
  rw [show (p + 1).toNat + (W - (p + 1).toNat) = W by omega] at b
  omega
theorem cq_lt2 {w : Int → Int} {p q : Int} (h0 : 0 ≤ p) (h1 : p < q) (he : w p = w q) : cq w p.toNat (w p) < cq w q.toNat (w q) := by
  have a := cq_s (w := w) h0 (w p)
  rw [if_pos rfl] at a
  have b := cq_le (w := w) (v := w p) (p + 1).toNat (q.toNat - (p + 1).toNat)
  rw [show (p + 1).toNat + (q.toNat - (p + 1).toNat) = q.toNat by omega] at b
  rw [← he]
  omega
theorem lpl_lt {w : Int → Int} {W N : Nat} {p : Int} (hw : ∀ p : Int, 0 ≤ p → p < W → 0 ≤ w p ∧ w p < N) (h0 : 0 ≤ p) (h1 : p < W) : 0 ≤ lpl w W p ∧ lpl w W p < W := by
  have a := cq_lt h0 h1 (w := w)
  have b := hw p h0 h1
  have c : ∀ k, 0 ≤ cq w W k := fun k => (cq_r w k W).1
  have m := sq_mono c ((w p).toNat + 1) (N - ((w p).toNat + 1))
  rw [show (w p).toNat + 1 + (N - ((w p).toNat + 1)) = N by omega, sq_cq W hw] at m
  have m2 : sq (cq w W) ((w p).toNat + 1) = sq (cq w W) (w p).toNat + cq w W (w p) := by
    simp only [sq]
    rw [show (((w p).toNat : Nat) : Int) = w p by omega]
  have z := sq_0 c (w p).toNat
  have z2 := (cq_r w (w p) p.toNat).1
  unfold lpl
  omega
theorem lpl_inj {w : Int → Int} {W N : Nat} {p q : Int} (hw : ∀ p : Int, 0 ≤ p → p < W → 0 ≤ w p ∧ w p < N) (h0 : 0 ≤ p) (h1 : p < W) (h2 : 0 ≤ q) (h3 : q < W) (hne : p ≠ q) : lpl w W p ≠ lpl w W q := by
  have c : ∀ k, 0 ≤ cq w W k := fun k => (cq_r w k W).1
  have key : ∀ p q : Int, 0 ≤ p → p < W → 0 ≤ q → q < W → w p < w q → lpl w W p < lpl w W q := by
    intro p q h0 h1 h2 h3 hl
    have a := cq_lt h0 h1 (w := w)
    have b := hw p h0 h1
    have b2 := hw q h2 h3
    have m := sq_mono c ((w p).toNat + 1) ((w q).toNat - ((w p).toNat + 1))
    rw [show (w p).toNat + 1 + ((w q).toNat - ((w p).toNat + 1)) = (w q).toNat by omega] at m
    have m2 : sq (cq w W) ((w p).toNat + 1) = sq (cq w W) (w p).toNat + cq w W (w p) := by
      simp only [sq]
      rw [show (((w p).toNat : Nat) : Int) = w p by omega]
    have z := (cq_r w (w q) q.toNat).1
    unfold lpl
    omega
  intro he
  by_cases q1 : w p < w q
  · have := key p q h0 h1 h2 h3 q1
    omega
  · by_cases q2 : w q < w p
    · have := key q p h2 h3 h0 h1 q2
      omega
    · have e : w p = w q := by omega
      unfold lpl at he
      by_cases q3 : p < q
      · have := cq_lt2 h0 q3 e
        rw [e] at he this
        omega
      · have := cq_lt2 h2 (by omega : q < p) e.symm
        rw [e] at he this
        omega
