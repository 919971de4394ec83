/-! A line is laid into the row -/
def lay (ω : Int → Int) (e i n : Int) (tx : Int → Int) : Int → Int := fun j => if j = 3 + e then (if i = ω (3 + e) then i + 1 else ω (3 + e)) else if j = lA e i then n else if lA e i < j ∧ j ≤ lA e i + n then tx (j - lA e i - 1) else ω j
/-- where a line may be laid -/
def LYE (ω : Int → Int) (e i n : Int) : Prop := (0 ≤ e ∧ e ≤ 1) ∧ LOK ω e ∧ (0 ≤ i ∧ i ≤ ω (3 + e) ∧ i < 40) ∧ 0 ≤ n ∧ n ≤ 60
section LY
variable {ω : Int → Int} {e i n : Int} {tx : Int → Int}
theorem lay_c (Y : LYE ω e i n) : lay ω e i n tx (3 + e) = if i = ω (3 + e) then i + 1 else ω (3 + e) := by
  unfold lay
  rw [if_pos rfl]
theorem lay_o (Y : LYE ω e i n) {j : Int} (h : j ≠ 3 + e) (h2 : j < lA e i ∨ lA e i + 60 < j) : lay ω e i n tx j = ω j := by
  obtain ⟨Y1, Y2, Y3, Y4⟩ := Y
  unfold lay
  rw [if_neg h, if_neg (by omega), if_neg (by omega)]
theorem lay_n (Y : LYE ω e i n) : lay ω e i n tx (lA e i) = n := by
  obtain ⟨Y1, Y2, Y3, Y4⟩ := Y
  have : lA e i ≠ 3 + e := by unfold lA; omega
  unfold lay
  rw [if_neg this, if_pos rfl]
theorem lay_t (Y : LYE ω e i n) {k : Int} (h0 : 0 ≤ k) (h1 : k < n) : lay ω e i n tx (lA e i + 1 + k) = tx k := by
  obtain ⟨Y1, Y2, Y3, Y4⟩ := Y
  have : lA e i + 1 + k ≠ 3 + e := by unfold lA; omega
  unfold lay
  rw [if_neg this, if_neg (by omega), if_pos (by omega), show lA e i + 1 + k - lA e i - 1 = k by omega]
theorem lay_l (Y : LYE ω e i n) {e' i' k : Int} (he : 0 ≤ e' ∧ e' ≤ 1) (hi : 0 ≤ i' ∧ i' < 40) (h : e' ≠ e ∨ i' ≠ i) (h0 : 0 ≤ k) (h1 : k < 61) : lay ω e i n tx (lA e' i' + k) = ω (lA e' i' + k) := by
  have Y' := Y
  obtain ⟨Y1, Y2, Y3, Y4⟩ := Y'
  apply lay_o Y
  · unfold lA
    omega
  · unfold lA
    omega
theorem bt_l (Y : LYE ω e i n) {e' i' k : Int} (he : 0 ≤ e' ∧ e' ≤ 1) (hi : 0 ≤ i' ∧ i' < 40) (h : e' ≠ e ∨ i' ≠ i) (h0 : 0 ≤ k) (hl : ω (lA e' i') ≤ 60) : bt (lay ω e i n tx) e' i' k = bt ω e' i' k := by
  have a := lay_l (tx := tx) Y he hi h (k := 0) (by omega) (by omega)
  rw [show lA e' i' + 0 = lA e' i' by omega] at a
  unfold bt
  rw [a]
  by_cases q : k < ω (lA e' i')
  · rw [if_pos q, if_pos q, show lA e' i' + 1 + k = lA e' i' + (1 + k) by omega, lay_l Y he hi h (by omega) (by omega)]
  · rw [if_neg q, if_neg q]
theorem bt_n (Y : LYE ω e i n) {k : Int} (h0 : 0 ≤ k) : bt (lay ω e i n tx) e i k = if k < n then tx k else -1 := by
  unfold bt
  rw [lay_n Y]
  by_cases q : k < n
  · rw [if_pos q, if_pos q, lay_t Y h0 q]
  · rw [if_neg q, if_neg q]
end LY
theorem anyL_eq {f g : Int → Int} : ∀ {n : Nat}, (∀ k : Int, 0 ≤ k → k < n → f k = g k) → anyL f n = anyL g n
  | 0, _ => rfl
  | n + 1, h => by
    simp only [anyL]
    rw [anyL_eq (fun k a b => h k a (by omega)), h n (by omega) (by omega)]
/-- a line that is the same in both rows -/
def SLN (ω ω' : Int → Int) (e i : Int) : Prop := ω' (lA e i) = ω (lA e i) ∧ ∀ k, 0 ≤ k → bt ω' e i k = bt ω e i k
section SN
variable {ω ω' : Int → Int} {e i : Int}
theorem SLN.any (h : SLN ω ω' e i) : hasR ω' e i = hasR ω e i := by
  unfold hasR
  rw [h.1]
  exact anyL_eq (fun k a _ => h.2 k a)
theorem SLN.run (h : SLN ω ω' e i) : nrun ω' e i = nrun ω e i := by
  unfold nrun
  rw [h.1]
  exact rnc_eq (fun k a _ => h.2 k a)
theorem SLN.dash (h : SLN ω ω' e i) : dsh ω' e i = dsh ω e i := by
  unfold dsh dshT
  rw [h.1]
  by_cases q : 2 ≤ ω (lA e i)
  · rw [h.2 _ (by omega), h.2 _ (by omega)]
  · have : decide (2 ≤ ω (lA e i)) = false := by simpa using q
    rw [this]
    rfl
theorem wln_eq2 (h : SLN ω ω' e i) (hc : ω' (3 + e) = ω (3 + e)) (hr : i + 1 < ω (3 + e) → hasR ω' e (i + 1) = hasR ω e (i + 1)) (s : wS) : ∀ k : Nat, wln ω' e i k s = wln ω e i k s
  | 0 => rfl
  | k + 1 => by
    have cA : cutA ω' e i k = cutA ω e i k := by
      unfold cutA
      rw [h.2 _ (by omega), h.1, hc]
      by_cases q : i + 1 < ω (3 + e)
      · rw [hr q]
      · have : decide (i + 1 < ω (3 + e)) = false := by simpa using q
        rw [this]
        simp
    simp only [wln]
    rw [wln_eq2 h hc hr s k]
    unfold wst
    rw [cA, h.2 _ (by omega)]
    by_cases q : 0 < (k : Int)
    · rw [h.2 _ (by omega)]
    · have z : ∀ p : Prop, ¬ (0 < (k : Int) ∧ p) := fun p x => q x.1
      simp only [z, if_false]
theorem wal_eq2 (hc : ω' (3 + e) = ω (3 + e)) (h : ∀ i, 0 ≤ i → i < ω (3 + e) → SLN ω ω' e i) : ∀ m : Nat, (m : Int) ≤ ω (3 + e) → wal ω' e m = wal ω e m
  | 0, _ => rfl
  | m + 1, hm => by
    simp only [wal]
    rw [wal_eq2 hc h m (by omega)]
    exact wln_eq2 (h m (by omega) (by omega)) hc (fun q => (h (m + 1) (by omega) q).any) _ 61
theorem wW_eq2 (h0 : 0 ≤ ω (3 + e)) (hc : ω' (3 + e) = ω (3 + e)) (h : ∀ i, 0 ≤ i → i < ω (3 + e) → SLN ω ω' e i) : wW ω' e = wW ω e := by
  unfold wW
  rw [hc]
  exact wal_eq2 hc h _ (by omega)
end SN
theorem SLN_l {ω : Int → Int} {e i n : Int} {tx : Int → Int} (Y : LYE ω e i n) {e' i' : Int} (he : 0 ≤ e' ∧ e' ≤ 1) (hi : 0 ≤ i' ∧ i' < 40) (h : e' ≠ e ∨ i' ≠ i) (hl : ω (lA e' i') ≤ 60) : SLN ω (lay ω e i n tx) e' i' := by
  have a := lay_l (tx := tx) Y he hi h (k := 0) (by omega) (by omega)
  rw [show lA e' i' + 0 = lA e' i' by omega] at a
  exact ⟨a, fun k h0 => bt_l Y he hi h h0 hl⟩
theorem rnc_half (f : Int → Int) : ∀ n : Nat, 2 * rnc f n ≤ n + 1 ∧ (¬ (0 < n ∧ isL (f ((n : Int) - 1))) → 2 * rnc f n ≤ n)
  | 0 => by simp [rnc]
  | n + 1 => by
    obtain ⟨a, b⟩ := rnc_half f n
    have e1 : ((n + 1 : Nat) : Int) - 1 = n := by omega
    rw [e1]
    simp only [rnc]
    by_cases q : isL (f n) ∧ ¬ (0 < n ∧ isL (f ((n : Int) - 1)))
    · rw [if_pos q]
      have := b q.2
      exact ⟨by omega, fun x => absurd ⟨by omega, q.1⟩ x⟩
    · rw [if_neg q]
      exact ⟨by omega, fun x => by omega⟩
section LB
variable {ω : Int → Int} {e i n : Int} {tx : Int → Int}
theorem lay_LOK (Y : LYE ω e i n) : LOK (lay ω e i n tx) e := by
  have Y' := Y
  obtain ⟨Y1, ⟨L1, L2, L3⟩, Y3, Y4⟩ := Y'
  unfold LOK
  rw [lay_c Y]
  refine ⟨by split <;> omega, by split <;> omega, fun j a b => ?_⟩
  by_cases q : j = i
  · rw [q, lay_n Y]
    exact Y4
  · have c : j < ω (3 + e) := by split at b <;> omega
    rw [(SLN_l (tx := tx) Y Y1 ⟨a, by omega⟩ (Or.inr q) (L3 j a c).2).1]
    exact L3 j a c
theorem lay_sum (Y : LYE ω e i n) : ∀ j : Nat, (j : Int) ≤ ω (3 + e) → wsum (lay ω e i n tx) e j ≤ wsum ω e j + (if i < j then 32 else if i = j then 1 else 0)
  | 0, _ => by
    simp only [wsum]
    split
    · omega
    · split <;> omega
  | j + 1, h => by
    have IH := lay_sum Y j (by omega)
    have Y' := Y
    obtain ⟨Y1, ⟨L1, L2, L3⟩, Y3, Y4⟩ := Y'
    simp only [wsum]
    have b1 := b2i_r (icut ω e j)
    have b2 := b2i_r (icut (lay ω e i n tx) e j)
    have hc := lay_c (tx := tx) Y
    by_cases q : (j : Int) = i
    · have r1 : 2 * nrun (lay ω e i n tx) e j ≤ 61 := by
        have := (rnc_half (bt (lay ω e i n tx) e j) ((lay ω e i n tx) (lA e j)).toNat).1
        rw [q, lay_n Y] at this
        unfold nrun
        rw [q, lay_n Y]
        omega
      have r2 := (nrun_r (ω := ω) (e := e) (i := j) (L3 j (by omega) (by omega)).2).1
      rw [if_neg (by omega), if_pos q.symm] at IH
      rw [if_pos (by omega)]
      omega
    · have S := SLN_l (tx := tx) Y Y1 ⟨by omega, by omega⟩ (Or.inr q) (L3 j (by omega) (by omega)).2
      rw [S.run]
      by_cases q2 : (j : Int) + 1 = i
      · rw [if_neg (by omega), if_neg (by omega)] at IH
        rw [if_neg (by omega), if_pos (by omega)]
        omega
      · have hc2 : icut (lay ω e i n tx) e j = icut ω e j := by
          unfold icut
          rw [S.dash, hc]
          by_cases q3 : (j : Int) + 1 < ω (3 + e)
          · rw [(SLN_l (tx := tx) Y Y1 ⟨by omega, by omega⟩ (Or.inr q2) (L3 (j + 1) (by omega) (by omega)).2).any]
            have : decide ((j : Int) + 1 < if i = ω (3 + e) then i + 1 else ω (3 + e)) = true := by
              simp only [decide_eq_true_eq]
              split <;> omega
            rw [this]
            have : decide ((j : Int) + 1 < ω (3 + e)) = true := by simpa using q3
            rw [this]
          · have : decide ((j : Int) + 1 < if i = ω (3 + e) then i + 1 else ω (3 + e)) = false := by
              simp only [decide_eq_false_iff_not]
              split <;> omega
            rw [this]
            have : decide ((j : Int) + 1 < ω (3 + e)) = false := by simpa using q3
            rw [this]
            simp
        rw [hc2]
        by_cases q3 : i < j
        · rw [if_pos q3] at IH
          rw [if_pos (by omega)]
          omega
        · rw [if_neg q3, if_neg (by omega)] at IH
          rw [if_neg (by omega), if_neg (by omega)]
          omega
theorem lay_cap (Y : LYE ω e i n) (h : (wW ω e).1 ≤ 300) : (wW (lay ω e i n tx) e).1 ≤ 340 := by
  have L' := lay_LOK (tx := tx) Y
  have Y' := Y
  obtain ⟨Y1, L, Y3, Y4⟩ := Y'
  rw [wW_sum L] at h
  rw [wW_sum L', lay_c Y]
  by_cases q : i = ω (3 + e)
  · rw [if_pos q]
    have s := lay_sum (tx := tx) Y i.toNat (by omega)
    rw [if_neg (by omega), if_pos (by omega), show (i + 1).toNat = i.toNat + 1 by omega] at *
    rw [← q] at h
    simp only [wsum]
    have b2 := b2i_r (icut (lay ω e i n tx) e i.toNat)
    have r1 : 2 * nrun (lay ω e i n tx) e i.toNat ≤ 61 := by
      rw [show ((i.toNat : Nat) : Int) = i by omega]
      have := (rnc_half (bt (lay ω e i n tx) e i) ((lay ω e i n tx) (lA e i)).toNat).1
      rw [lay_n Y] at this
      unfold nrun
      rw [lay_n Y]
      omega
    omega
  · rw [if_neg q]
    have s := lay_sum (tx := tx) Y (ω (3 + e)).toNat (by have := L.1; omega)
    split at s
    · omega
    · split at s <;> omega
/-- the other edition -/
theorem lay_oth (Y : LYE ω e i n) {e' : Int} (he : 0 ≤ e' ∧ e' ≤ 1) (h : e' ≠ e) (L : LOK ω e') : LOK (lay ω e i n tx) e' ∧ wW (lay ω e i n tx) e' = wW ω e' := by
  have Y' := Y
  obtain ⟨Y1, Y2, Y3, Y4⟩ := Y'
  have hc : lay ω e i n tx (3 + e') = ω (3 + e') := lay_o Y (by omega) (by unfold lA; omega)
  have S : ∀ j, 0 ≤ j → j < ω (3 + e') → SLN ω (lay ω e i n tx) e' j := fun j a b => SLN_l Y he ⟨a, by have := L.2.1; omega⟩ (Or.inl h) (L.2.2 j a b).2
  refine ⟨⟨by rw [hc]; exact L.1, by rw [hc]; exact L.2.1, fun j a b => ?_⟩, wW_eq2 L.1 hc S⟩
  rw [hc] at b
  rw [(S j a b).1]
  exact L.2.2 j a b
theorem lay_low (Y : LYE ω e i n) {j : Int} (h : j < 2597) (h2 : j < 3 ∨ 5 ≤ j) : lay ω e i n tx j = ω j := by
  have Y' := Y
  obtain ⟨Y1, Y2, Y3, Y4⟩ := Y'
  exact lay_o Y (by omega) (by unfold lA; omega)
theorem lay_fo (Y : LYE ω e i n) {x : Int} (h : 0 ≤ x) (h2 : x < 26) : fo (lay ω e i n tx) x = fo ω x := by
  unfold fo
  rw [lay_low Y (by omega) (by omega)]
end LB
