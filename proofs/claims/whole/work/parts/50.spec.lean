/-! The book by the reference's row: lines, bytes, words -/
abbrev isL (b : Int) : Prop := 97 ≤ b ∧ b ≤ 122
abbrev isLB (b : Int) : Prop := isL b ∨ b = 32 ∨ b = 45
def lA (e i : Int) : Int := 2597 + 61 * (40 * e + i)
def bt (ω : Int → Int) (e i k : Int) : Int := if k < ω (lA e i) then ω (lA e i + 1 + k) else -1
def fo (ω : Int → Int) (l : Int) : Int := if ω (5 + l) = -1 then l else ω (5 + l)
def anyL (f : Int → Int) : Nat → Bool
  | 0 => false
  | n + 1 => anyL f n || decide (isL (f n))
theorem anyL_iff {f : Int → Int} : ∀ {n : Nat}, anyL f n = true ↔ ∃ k : Int, 0 ≤ k ∧ k < n ∧ isL (f k)
  | 0 => by simp [anyL]; omega
  | n + 1 => by
    simp only [anyL, Bool.or_eq_true, decide_eq_true_eq, anyL_iff]
    constructor
    · rintro (⟨k, h1, h2, h3⟩ | h)
      · exact ⟨k, h1, by omega, h3⟩
      · exact ⟨n, by omega, by omega, h⟩
    · rintro ⟨k, h1, h2, h3⟩
      by_cases hk : k = n
      · exact Or.inr (hk ▸ h3)
      · exact Or.inl ⟨k, h1, by omega, h3⟩
def hasR (ω : Int → Int) (e i : Int) : Bool := anyL (bt ω e i) (ω (lA e i)).toNat
theorem hasR_iff {ω : Int → Int} {e i : Int} : hasR ω e i = true ↔ ∃ k : Int, 0 ≤ k ∧ k < ω (lA e i) ∧ isL (bt ω e i k) := by
  unfold hasR
  rw [anyL_iff]
  constructor
  · rintro ⟨k, h1, h2, h3⟩
    exact ⟨k, h1, by omega, h3⟩
  · rintro ⟨k, h1, h2, h3⟩
    exact ⟨k, h1, by omega, h3⟩
/-- a run that ends at a byte is cut -/
def cutA (ω : Int → Int) (e i k : Int) : Bool := decide (bt ω e i k = 45) && decide (k = ω (lA e i) - 1) && decide (i + 1 < ω (3 + e)) && hasR ω e (i + 1)
def up {α : Type} (f : Int → α) (i : Int) (v : α) : Int → α := fun j => if j = i then v else f j
/-- how many words, whether the last goes on, lines, cuts, keys and their lengths -/
abbrev wS : Type := Int × Bool × (Int → Int) × (Int → Int) × (Int → Int) × (Int → Nat)
def wnew (i : Int) (s : wS) : wS := (s.1 + 1, s.2.1, up s.2.2.1 s.1 i, up s.2.2.2.1 s.1 0, up s.2.2.2.2.1 s.1 0, up s.2.2.2.2.2 s.1 0)
def wadd (x : Int) (s : wS) : wS := (s.1, s.2.1, s.2.2.1, s.2.2.2.1, up s.2.2.2.2.1 (s.1 - 1) (kad (s.2.2.2.2.1 (s.1 - 1)) (s.2.2.2.2.2 (s.1 - 1)) x), up s.2.2.2.2.2 (s.1 - 1) (min (s.2.2.2.2.2 (s.1 - 1) + 1) 20))
def wend (c : Bool) (s : wS) : wS := (s.1, c, s.2.2.1, if c = true then up s.2.2.2.1 (s.1 - 1) 1 else s.2.2.2.1, s.2.2.2.2)
def inR (ω : Int → Int) (e i k : Int) : Prop := 0 < k ∧ isL (bt ω e i (k - 1))
def wst (ω : Int → Int) (e i k : Int) (s : wS) : wS :=
  if isL (bt ω e i k) then
    (if 0 < k ∧ isL (bt ω e i (k - 1)) then wadd (bt ω e i k - 97) s
    else if s.2.1 = true then wadd (bt ω e i k - 97) s
    else wadd (bt ω e i k - 97) (wnew i s))
  else if 0 < k ∧ isL (bt ω e i (k - 1)) then wend (cutA ω e i k) s
  else s
def wln (ω : Int → Int) (e i : Int) : Nat → wS → wS
  | 0, s => s
  | k + 1, s => wst ω e i k (wln ω e i k s)
def wal (ω : Int → Int) (e : Int) : Nat → wS
  | 0 => (0, false, fun _ => 0, fun _ => 0, fun _ => 0, fun _ => 0)
  | i + 1 => wln ω e i 61 (wal ω e i)
/-- the words of an edition -/
def wW (ω : Int → Int) (e : Int) : wS := wal ω e (ω (3 + e)).toNat
theorem up_self {α : Type} (f : Int → α) (i : Int) (v : α) : up f i v i = v := by
  unfold up
  rw [if_pos rfl]
theorem up_ne {α : Type} {f : Int → α} {i j : Int} {v : α} (h : j ≠ i) : up f i v j = f j := by
  unfold up
  rw [if_neg h]
theorem bt_end {ω : Int → Int} {e i k : Int} (h : ω (lA e i) ≤ k) : bt ω e i k = -1 := by
  unfold bt
  rw [if_neg (by omega)]
theorem bt_nl {ω : Int → Int} {e i k : Int} (h : isL (bt ω e i k)) : k < ω (lA e i) := by
  by_cases hk : k < ω (lA e i)
  · exact hk
  · rw [bt_end (by omega)] at h
    omega
/-- nothing happens where no letter stands behind no letter -/
theorem wst_no {ω : Int → Int} {e i k : Int} {s : wS} (h : ¬ isL (bt ω e i k)) (h2 : k = 0 ∨ ¬ isL (bt ω e i (k - 1))) (hk : 0 ≤ k) : wst ω e i k s = s := by
  unfold wst
  rw [if_neg h, if_neg (fun q => by rcases h2 with h2 | h2; · omega
                                    · exact h2 q.2)]
theorem wln_no {ω : Int → Int} {e i : Int} {s : wS} {a : Nat} (h0 : a = 0 ∨ ¬ isL (bt ω e i ((a : Int) - 1))) : ∀ (n : Nat), (∀ k : Int, a ≤ k → k < a + n → ¬ isL (bt ω e i k)) → wln ω e i (a + n) s = wln ω e i a s
  | 0, _ => rfl
  | n + 1, h => by
    show wst ω e i ((a + n : Nat) : Int) (wln ω e i (a + n) s) = _
    rw [wln_no h0 n (fun k h1 h2 => h k h1 (by omega)), wst_no (h _ (by omega) (by omega)) ?_ (by omega)]
    by_cases hn : n = 0
    · subst hn
      rcases h0 with h0 | h0
      · exact Or.inl (by omega)
      · exact Or.inr (by simpa using h0)
    · exact Or.inr (h _ (by omega) (by omega))
/-- behind a line's end -/
theorem wln_61 {ω : Int → Int} {e i : Int} {s : wS} {a : Nat} (h0 : a = 0 ∨ ¬ isL (bt ω e i ((a : Int) - 1))) (h : ∀ k : Int, a ≤ k → k < ω (lA e i) → ¬ isL (bt ω e i k)) (ha : a ≤ 61) : wln ω e i 61 s = wln ω e i a s := by
  have := wln_no (s := s) h0 (61 - a) (fun k h1 h2 => by
    by_cases hk : k < ω (lA e i)
    · exact h k h1 hk
    · rw [bt_end (by omega)]
      omega)
  rwa [show a + (61 - a) = 61 by omega] at this
