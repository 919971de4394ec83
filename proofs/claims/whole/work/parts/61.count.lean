/-! How many words a line has; where a word goes on -/
def rnc (f : Int → Int) : Nat → Int
  | 0 => 0
  | n + 1 => rnc f n + (if isL (f n) ∧ ¬ (0 < n ∧ isL (f ((n : Int) - 1))) then 1 else 0)
def dshT (f : Int → Int) (n : Int) : Bool := decide (2 ≤ n) && decide (f (n - 1) = 45) && decide (isL (f (n - 2)))
def nrun (ω : Int → Int) (e i : Int) : Int := rnc (bt ω e i) (ω (lA e i)).toNat
def dsh (ω : Int → Int) (e i : Int) : Bool := dshT (bt ω e i) (ω (lA e i))
def icut (ω : Int → Int) (e i : Int) : Bool := dsh ω e i && decide (i + 1 < ω (3 + e)) && hasR ω e (i + 1)
theorem rnc_eq {f g : Int → Int} : ∀ {n : Nat}, (∀ k : Int, 0 ≤ k → k < n → f k = g k) → rnc f n = rnc g n
  | 0, _ => rfl
  | n + 1, h => by
    simp only [rnc]
    rw [rnc_eq (fun k a b => h k a (by omega)), h n (by omega) (by omega)]
    by_cases q : 0 < n
    · rw [h ((n : Int) - 1) (by omega) (by omega)]
    · have e : ∀ p : Prop, ¬ (0 < n ∧ p) := fun p x => q x.1
      simp [e]
theorem rnc_0 (f : Int → Int) : ∀ n : Nat, 0 ≤ rnc f n ∧ rnc f n ≤ n
  | 0 => by simp [rnc]
  | n + 1 => by
    have := rnc_0 f n
    simp only [rnc]
    split <;> omega
theorem rnc_no {f : Int → Int} : ∀ {n : Nat}, anyL f n = false → rnc f n = 0
  | 0, _ => rfl
  | n + 1, h => by
    simp only [anyL, Bool.or_eq_false_iff, decide_eq_false_iff_not] at h
    simp only [rnc]
    rw [rnc_no h.1, if_neg (fun q => h.2 q.1)]
    omega
theorem rnc_pos {f : Int → Int} : ∀ {n : Nat}, anyL f n = true → 0 < rnc f n
  | 0, h => by cases h
  | n + 1, h => by
    simp only [anyL, Bool.or_eq_true, decide_eq_true_eq] at h
    simp only [rnc]
    by_cases q : anyL f n = true
    · have := rnc_pos q
      split <;> omega
    · have hn : anyL f n = false := by simpa using q
      have hl : isL (f n) := by
        rcases h with h | h
        · exact absurd h q
        · exact h
      rw [rnc_no hn, if_pos]
      · omega
      · refine ⟨hl, fun x => q ?_⟩
        rw [anyL_iff]
        exact ⟨(n : Int) - 1, by omega, by omega, x.2⟩
theorem nrun_pos {ω : Int → Int} {e i : Int} : 0 < nrun ω e i ↔ hasR ω e i = true := by
  unfold nrun hasR
  constructor
  · intro h
    by_cases q : anyL (bt ω e i) (ω (lA e i)).toNat = true
    · exact q
    · rw [rnc_no (by simpa using q)] at h
      omega
  · exact rnc_pos
theorem rnc_end {ω : Int → Int} {e i : Int} : ∀ (k : Nat), rnc (bt ω e i) ((ω (lA e i)).toNat + k) = nrun ω e i
  | 0 => rfl
  | k + 1 => by
    show rnc (bt ω e i) ((ω (lA e i)).toNat + k) + _ = _
    rw [rnc_end k, if_neg]
    · omega
    · intro q
      have := bt_nl q.1
      have e9 : (ω (lA e i)).toNat.add k = (ω (lA e i)).toNat + k := rfl
      omega
theorem dsh_iff {ω : Int → Int} {e i : Int} : dsh ω e i = true ↔ 2 ≤ ω (lA e i) ∧ bt ω e i (ω (lA e i) - 1) = 45 ∧ isL (bt ω e i (ω (lA e i) - 2)) := by
  unfold dsh dshT
  simp only [Bool.and_eq_true, decide_eq_true_eq]
  omega
theorem icut_iff {ω : Int → Int} {e i : Int} : icut ω e i = true ↔ dsh ω e i = true ∧ i + 1 < ω (3 + e) ∧ hasR ω e (i + 1) = true := by
  unfold icut
  simp only [Bool.and_eq_true, decide_eq_true_eq]
  constructor
  · rintro ⟨⟨a, b⟩, c⟩
    exact ⟨a, b, c⟩
  · rintro ⟨a, b, c⟩
    exact ⟨⟨a, b⟩, c⟩
theorem cutA_iff {ω : Int → Int} {e i k : Int} (h : isL (bt ω e i (k - 1))) (hk : 0 < k) : cutA ω e i k = true ↔ k = ω (lA e i) - 1 ∧ icut ω e i = true := by
  rw [icut_iff, dsh_iff]
  unfold cutA
  simp only [Bool.and_eq_true, decide_eq_true_eq]
  constructor
  · rintro ⟨⟨⟨a, b⟩, c⟩, d⟩
    refine ⟨b, ⟨by omega, by rw [← b]; exact a, ?_⟩, c, d⟩
    rw [show ω (lA e i) - 2 = k - 1 by omega]
    exact h
  · rintro ⟨b, ⟨a1, a2, a3⟩, c, d⟩
    exact ⟨⟨⟨by rw [b]; exact a2, b⟩, c⟩, d⟩
theorem anyL_s {f : Int → Int} {n : Nat} : anyL f (n + 1) = (anyL f n || decide (isL (f n))) := rfl
theorem wst_2 {ω : Int → Int} {e i k : Int} {s : wS} (h : ¬ isL (bt ω e i k)) (h2 : ¬ (0 < k ∧ isL (bt ω e i (k - 1)))) : wst ω e i k s = s := by
  unfold wst
  rw [if_neg h, if_neg h2]
theorem wln_q {ω : Int → Int} {e i : Int} {s : wS} : ∀ k : Nat, anyL (bt ω e i) k = true → (¬ isL (bt ω e i ((k : Int) - 1)) → ((wln ω e i k s).2.1 = true ↔ (ω (lA e i) ≤ k ∧ icut ω e i = true))) ∧ (wln ω e i k s).1 = s.1 + rnc (bt ω e i) k - b2i s.2.1
  | 0, h => by cases h
  | k + 1, h => by
    have e1 : ((k + 1 : Nat) : Int) - 1 = k := by omega
    have hs : wln ω e i (k + 1) s = wst ω e i k (wln ω e i k s) := rfl
    rw [e1, hs]
    by_cases q : anyL (bt ω e i) k = true
    · obtain ⟨I1, I2⟩ := wln_q k q
      have hk : 0 < k := by
        obtain ⟨x, a, b, c⟩ := anyL_iff.mp q
        omega
      by_cases hl : isL (bt ω e i k)
      · refine ⟨fun x => absurd hl x, ?_⟩
        have hkl := bt_nl hl
        unfold wst
        rw [if_pos hl]
        by_cases hr : 0 < (k : Int) ∧ isL (bt ω e i ((k : Int) - 1))
        · rw [if_pos hr]
          show (wln ω e i k s).1 = s.1 + (rnc (bt ω e i) k + _) - b2i s.2.1
          rw [if_neg (fun x => x.2 ⟨hk, hr.2⟩), I2]
          omega
        · rw [if_neg hr]
          have hop : (wln ω e i k s).2.1 = false := by
            cases ho : (wln ω e i k s).2.1
            · rfl
            · have := ((I1 (fun x => hr ⟨by omega, x⟩)).mp ho).1
              omega
          rw [if_neg (by rw [hop]; simp)]
          show (wln ω e i k s).1 + 1 = s.1 + (rnc (bt ω e i) k + _) - b2i s.2.1
          rw [if_pos ⟨hl, fun x => hr ⟨by omega, x.2⟩⟩, I2]
          omega
      · have hc : rnc (bt ω e i) (k + 1) = rnc (bt ω e i) k := by
          simp only [rnc]
          rw [if_neg (fun x => hl x.1)]
          omega
        rw [hc]
        by_cases hr : 0 < (k : Int) ∧ isL (bt ω e i ((k : Int) - 1))
        · have hkl := bt_nl hr.2
          unfold wst
          rw [if_neg hl, if_pos hr]
          refine ⟨fun _ => ?_, I2⟩
          show cutA ω e i k = true ↔ _
          rw [cutA_iff hr.2 hr.1]
          constructor
          · rintro ⟨a, b⟩
            exact ⟨by omega, b⟩
          · rintro ⟨a, b⟩
            refine ⟨?_, b⟩
            have d := dsh_iff.mp (icut_iff.mp b).1
            by_cases hq : (k : Int) = ω (lA e i) - 1
            · exact hq
            · have hq2 : (k : Int) = ω (lA e i) := by omega
              have d2 := d.2.1
              rw [← hq2] at d2
              have := hr.2
              omega
        · rw [wst_2 hl hr]
          have hnr : ¬ isL (bt ω e i ((k : Int) - 1)) := fun x => hr ⟨by omega, x⟩
          refine ⟨fun _ => (I1 hnr).trans ?_, I2⟩
          constructor
          · rintro ⟨a, b⟩
            exact ⟨by omega, b⟩
          · rintro ⟨a, b⟩
            refine ⟨?_, b⟩
            have d := dsh_iff.mp (icut_iff.mp b).1
            by_cases hq : ω (lA e i) ≤ k
            · exact hq
            · have hq2 : (k : Int) - 1 = ω (lA e i) - 2 := by omega
              exact absurd (hq2 ▸ d.2.2) hnr
    · have q0 : anyL (bt ω e i) k = false := by simpa using q
      have hl : isL (bt ω e i k) := by
        rw [anyL_s, q0] at h
        simpa using h
      have hno : ∀ x : Int, 0 ≤ x → x < k → ¬ isL (bt ω e i x) := fun x a b c => q (anyL_iff.mpr ⟨x, a, b, c⟩)
      have hw := wln_no (ω := ω) (e := e) (i := i) (s := s) (a := 0) (Or.inl rfl) k (fun x a b => hno x (by omega) (by omega))
      rw [Nat.zero_add] at hw
      have hw2 : wln ω e i k s = s := hw
      have hr : ¬ (0 < (k : Int) ∧ isL (bt ω e i ((k : Int) - 1))) := fun x => hno ((k : Int) - 1) (by omega) (by omega) x.2
      refine ⟨fun x => absurd hl x, ?_⟩
      have hc : rnc (bt ω e i) (k + 1) = 1 := by
        simp only [rnc]
        rw [rnc_no q0, if_pos ⟨hl, fun x => hr ⟨by omega, x.2⟩⟩]
        omega
      rw [hw2, hc]
      unfold wst
      rw [if_pos hl, if_neg hr]
      cases ho : s.2.1
      · rw [if_neg (by simp)]
        show s.1 + 1 = s.1 + 1 - 0
        omega
      · rw [if_pos rfl]
        show s.1 = s.1 + 1 - 1
        omega
/-- behind i lines: whether the last word goes on -/
theorem wal_open {ω : Int → Int} {e : Int} (L : LOK ω e) : ∀ i : Nat, (i : Int) ≤ ω (3 + e) → (wal ω e i).2.1 = (decide (0 < i) && icut ω e ((i : Int) - 1))
  | 0, _ => rfl
  | i + 1, h => by
    have IH := wal_open L i (by omega)
    obtain ⟨L1, L2, L3⟩ := L
    obtain ⟨L4, L5⟩ := L3 i (by omega) (by omega)
    have e1 : ((i + 1 : Nat) : Int) - 1 = i := by omega
    rw [e1]
    have e2 : decide (0 < i + 1) = true := by simp
    rw [e2, Bool.true_and]
    show (wln ω e i 61 (wal ω e i)).2.1 = _
    by_cases q : hasR ω e i = true
    · have ha : anyL (bt ω e i) 61 = true := by
        obtain ⟨k, a, b, c⟩ := hasR_iff.mp q
        exact anyL_iff.mpr ⟨k, a, by omega, c⟩
      have := (wln_q (s := wal ω e i) 61 ha).1 (by rw [bt_end (by omega)]; omega)
      cases h1 : (wln ω e i 61 (wal ω e i)).2.1 <;> cases h2 : icut ω e i <;> rw [h1, h2] at this
      · have := this.mpr ⟨by omega, rfl⟩
        cases this
      · have := (this.mp rfl).2
        cases this
    · have hno : ∀ k : Int, 0 ≤ k → k < ω (lA e i) → ¬ isL (bt ω e i k) := fun k a b c => q (hasR_iff.mpr ⟨k, a, b, c⟩)
      have e61 := wln_61 (ω := ω) (e := e) (i := i) (s := wal ω e i) (a := 0) (Or.inl rfl) (fun k a b => hno k (by omega) b) (by omega)
      rw [e61]
      show (wal ω e i).2.1 = _
      rw [IH]
      have z1 : icut ω e i = false := by
        cases hz : icut ω e i
        · rfl
        · have d := dsh_iff.mp (icut_iff.mp hz).1
          exact absurd d.2.2 (hno _ (by omega) (by omega))
      rw [z1]
      by_cases hi : 0 < i
      · have z2 : icut ω e ((i : Int) - 1) = false := by
          cases hz : icut ω e ((i : Int) - 1)
          · rfl
          · have d := (icut_iff.mp hz).2.2
            rw [show (i : Int) - 1 + 1 = i by omega] at d
            exact absurd d q
        rw [z2]
        simp
      · simp [hi]
/-- behind i lines: how many words -/
theorem wal_count {ω : Int → Int} {e : Int} (L : LOK ω e) (i : Nat) (h : (i : Int) < ω (3 + e)) : (wal ω e (i + 1)).1 = (wal ω e i).1 + nrun ω e i - b2i (decide (0 < i) && icut ω e ((i : Int) - 1)) := by
  have ho := wal_open L i (by omega)
  obtain ⟨L1, L2, L3⟩ := L
  obtain ⟨L4, L5⟩ := L3 i (by omega) h
  rw [← ho]
  show (wln ω e i 61 (wal ω e i)).1 = _
  have hn : rnc (bt ω e i) 61 = nrun ω e i := by
    have := rnc_end (ω := ω) (e := e) (i := i) (61 - (ω (lA e i)).toNat)
    rwa [show (ω (lA e i)).toNat + (61 - (ω (lA e i)).toNat) = 61 by omega] at this
  by_cases q : hasR ω e i = true
  · have ha : anyL (bt ω e i) 61 = true := by
      obtain ⟨k, a, b, c⟩ := hasR_iff.mp q
      exact anyL_iff.mpr ⟨k, a, by omega, c⟩
    rw [(wln_q (s := wal ω e i) 61 ha).2, hn]
  · have hno : ∀ k : Int, 0 ≤ k → k < ω (lA e i) → ¬ isL (bt ω e i k) := fun k a b c => q (hasR_iff.mpr ⟨k, a, b, c⟩)
    have e61 := wln_61 (ω := ω) (e := e) (i := i) (s := wal ω e i) (a := 0) (Or.inl rfl) (fun k a b => hno k (by omega) b) (by omega)
    rw [e61]
    show (wal ω e i).1 = _
    have n0 : nrun ω e i = 0 := by
      unfold nrun
      apply rnc_no
      unfold hasR at q
      simpa using q
    have z : (wal ω e i).2.1 = false := by
      rw [ho]
      by_cases hi : 0 < i
      · have z2 : icut ω e ((i : Int) - 1) = false := by
          cases hz : icut ω e ((i : Int) - 1)
          · rfl
          · have d := (icut_iff.mp hz).2.2
            rw [show (i : Int) - 1 + 1 = i by omega] at d
            exact absurd d q
        rw [z2]
        simp
      · simp [hi]
    rw [n0, z]
    show (wal ω e i).1 = (wal ω e i).1 + 0 - 0
    omega
/-- a count of words over whole lines, as the class sums it -/
def wsum (ω : Int → Int) (e : Int) : Nat → Int
  | 0 => 0
  | i + 1 => wsum ω e i + (nrun ω e i - b2i (icut ω e i))
theorem wal_sum {ω : Int → Int} {e : Int} (L : LOK ω e) : ∀ i : Nat, (i : Int) ≤ ω (3 + e) → (wal ω e i).1 = wsum ω e i + b2i (decide (0 < i) && icut ω e ((i : Int) - 1))
  | 0, _ => rfl
  | i + 1, h => by
    rw [wal_count L i (by omega), wal_sum L i (by omega)]
    have e1 : ((i + 1 : Nat) : Int) - 1 = i := by omega
    have e2 : decide (0 < i + 1) = true := by simp
    rw [e1, e2, Bool.true_and]
    show _ = wsum ω e i + (nrun ω e i - b2i (icut ω e i)) + b2i (icut ω e i)
    omega
theorem wW_sum {ω : Int → Int} {e : Int} (L : LOK ω e) : (wW ω e).1 = wsum ω e (ω (3 + e)).toNat := by
  have L0 := L.1
  unfold wW
  rw [wal_sum L _ (by omega)]
  have z : icut ω e ((((ω (3 + e)).toNat : Nat) : Int) - 1) = false := by
    cases hz : icut ω e ((((ω (3 + e)).toNat : Nat) : Int) - 1)
    · rfl
    · have := (icut_iff.mp hz).2.1
      omega
  rw [z]
  simp [b2i]
