/-! Words: what holds of them all along -/
theorem hm_0 (ρ : Int → Int) : ∀ n : Nat, hm ρ n 0 = 0
  | 0 => rfl
  | n + 1 => by
    show hm ρ n (0 / 32) * 32 + mp ρ (0 % 32) = 0
    rw [show (0 : Int) / 32 = 0 by omega, show (0 : Int) % 32 = 0 by omega, hm_0 ρ n, mp_0]
    omega
theorem km_0 (ρ : Int → Int) : km ρ 0 = 0 := hm_0 ρ 20
theorem kad_ok {K x : Int} {n : Nat} (hn : n ≤ 20) (h0 : 0 ≤ K) (h1 : K < 1267650600228229401496703205376) (hm : dv32 K (20 - n)) (hx : 0 ≤ x) (hx2 : x < 26) :
    min (n + 1) 20 ≤ 20 ∧ 0 ≤ kad K n x ∧ kad K n x < 1267650600228229401496703205376 ∧ dv32 (kad K n x) (20 - min (n + 1) 20) := by
  unfold kad
  by_cases q : n < 20
  · rw [if_pos q, show min (n + 1) 20 = n + 1 by omega]
    by_cases q2 : n < 10
    · obtain ⟨e1, e2, e3, e4, e5, e6⟩ := kad_hi q2 h0 h1 hm hx hx2
      exact ⟨by omega, e6, e4, e5⟩
    · obtain ⟨e1, e2, e3, e4, e5, e6⟩ := kad_lo q (by omega) h0 h1 hm hx hx2
      exact ⟨by omega, e6, e4, e5⟩
  · have e : n = 20 := by omega
    rw [if_neg q, show min (n + 1) 20 = n by omega]
    exact ⟨hn, h0, h1, hm⟩
theorem km_kad {ρ : Int → Int} {K x : Int} {n : Nat} (hn : n < 20) (hv : dv32 K (20 - n)) (hx : 0 ≤ x) (hx2 : x < 26) : km ρ (kad K n x) = km ρ K + (ρ x + 1) * 32 ^ (19 - n) := by
  obtain ⟨b, hb⟩ : ∃ b, 19 - n = b := ⟨_, rfl⟩
  have hb2 : 20 - n = b + 1 := by omega
  have hn20 : 20 = n + 1 + b := by omega
  unfold kad
  rw [if_pos hn, hb]
  rw [hb2] at hv
  have hd := Int.mul_ediv_add_emod K (32 ^ (b + 1))
  unfold dv32 at hv
  rw [hv] at hd
  generalize K / 32 ^ (b + 1) = q at hd
  have eK : K = q * 32 * 32 ^ b + 0 := by
    rw [← hd, p32s, Int.mul_comm, Int.mul_comm (32 ^ b) 32, Int.mul_assoc]
  have eK2 : K + (x + 1) * 32 ^ b = (q * 32 + (x + 1)) * 32 ^ b + 0 := by
    rw [eK, Int.add_mul (q * 32) (x + 1)]
    omega
  unfold km
  rw [eK2, eK, hn20, hm_dm (n + 1) b _ 0 (by omega) (p32 b), hm_dm (n + 1) b _ 0 (by omega) (p32 b), hm_0]
  show (hm ρ n ((q * 32 + (x + 1)) / 32) * 32 + mp ρ ((q * 32 + (x + 1)) % 32)) * 32 ^ b + 0 = (hm ρ n (q * 32 / 32) * 32 + mp ρ (q * 32 % 32)) * 32 ^ b + 0 + (ρ x + 1) * 32 ^ b
  rw [show (q * 32 + (x + 1)) / 32 = q by omega, show (q * 32 + (x + 1)) % 32 = x + 1 by omega, show q * 32 / 32 = q by omega, show q * 32 % 32 = 0 by omega, mp_0]
  have e : mp ρ (x + 1) = ρ x + 1 := by
    unfold mp
    rw [if_pos (by omega), show x + 1 - 1 = x by omega]
  rw [e, Int.add_zero (hm ρ n q * 32), Int.add_mul (hm ρ n q * 32) (ρ x + 1)]
  omega
def wok (s : wS) : Prop := 0 ≤ s.1 ∧ (s.2.1 = true → 1 ≤ s.1) ∧ ∀ p, 0 ≤ p → p < s.1 → s.2.2.2.2.2 p ≤ 20 ∧ 0 ≤ s.2.2.2.2.1 p ∧ s.2.2.2.2.1 p < 1267650600228229401496703205376 ∧ dv32 (s.2.2.2.2.1 p) (20 - s.2.2.2.2.2 p)
theorem wnew_ok {i : Int} {s : wS} (h : wok s) : wok (wnew i s) := by
  obtain ⟨h1, h2, h3⟩ := h
  refine ⟨by show 0 ≤ s.1 + 1; omega, fun _ => by show 1 ≤ s.1 + 1; omega, fun p p0 p1 => ?_⟩
  show up s.2.2.2.2.2 s.1 0 p ≤ 20 ∧ 0 ≤ up s.2.2.2.2.1 s.1 0 p ∧ up s.2.2.2.2.1 s.1 0 p < 1267650600228229401496703205376 ∧ dv32 (up s.2.2.2.2.1 s.1 0 p) (20 - up s.2.2.2.2.2 s.1 0 p)
  have p2 : p < s.1 + 1 := p1
  by_cases hp : p = s.1
  · subst hp
    rw [up_self, up_self]
    exact ⟨by omega, by omega, by omega, by unfold dv32; exact Int.zero_emod _⟩
  · rw [up_ne hp, up_ne hp]
    exact h3 p p0 (by omega)
theorem wadd_ok {x : Int} {s : wS} (h : wok s) (hs : 1 ≤ s.1) (hx : 0 ≤ x) (hx2 : x < 26) : wok (wadd x s) := by
  obtain ⟨h1, h2, h3⟩ := h
  refine ⟨h1, h2, fun p p0 p1 => ?_⟩
  have p2 : p < s.1 := p1
  show up s.2.2.2.2.2 (s.1 - 1) (min (s.2.2.2.2.2 (s.1 - 1) + 1) 20) p ≤ 20 ∧ 0 ≤ up s.2.2.2.2.1 (s.1 - 1) (kad (s.2.2.2.2.1 (s.1 - 1)) (s.2.2.2.2.2 (s.1 - 1)) x) p ∧ up s.2.2.2.2.1 (s.1 - 1) (kad (s.2.2.2.2.1 (s.1 - 1)) (s.2.2.2.2.2 (s.1 - 1)) x) p < 1267650600228229401496703205376 ∧ dv32 (up s.2.2.2.2.1 (s.1 - 1) (kad (s.2.2.2.2.1 (s.1 - 1)) (s.2.2.2.2.2 (s.1 - 1)) x) p) (20 - up s.2.2.2.2.2 (s.1 - 1) (min (s.2.2.2.2.2 (s.1 - 1) + 1) 20) p)
  by_cases hp : p = s.1 - 1
  · subst hp
    rw [up_self, up_self]
    obtain ⟨a1, a2, a3, a4⟩ := h3 (s.1 - 1) p0 p2
    exact kad_ok a1 a2 a3 a4 hx hx2
  · rw [up_ne hp, up_ne hp]
    exact h3 p p0 p2
theorem wend_ok {c : Bool} {s : wS} (h : wok s) (hs : 1 ≤ s.1) : wok (wend c s) := ⟨h.1, fun _ => hs, h.2.2⟩
theorem wst_ok {ω : Int → Int} {e i k : Int} {s : wS} (h : wok s) (hr : 0 < k ∧ isL (bt ω e i (k - 1)) → 1 ≤ s.1) : wok (wst ω e i k s) ∧ (isL (bt ω e i k) → 1 ≤ (wst ω e i k s).1) ∧ s.1 ≤ (wst ω e i k s).1 := by
  unfold wst
  by_cases q : isL (bt ω e i k)
  · rw [if_pos q]
    by_cases q2 : 0 < k ∧ isL (bt ω e i (k - 1))
    · rw [if_pos q2]
      exact ⟨wadd_ok h (hr q2) (by omega) (by omega), fun _ => hr q2, Int.le_refl _⟩
    · rw [if_neg q2]
      by_cases q3 : s.2.1 = true
      · rw [if_pos q3]
        exact ⟨wadd_ok h (h.2.1 q3) (by omega) (by omega), fun _ => h.2.1 q3, Int.le_refl _⟩
      · rw [if_neg q3]
        have h0 := h.1
        have h1 : 1 ≤ (wnew i s).1 := by show 1 ≤ s.1 + 1; omega
        exact ⟨wadd_ok (wnew_ok h) h1 (by omega) (by omega), fun _ => h1, by show s.1 ≤ s.1 + 1; omega⟩
  · rw [if_neg q]
    by_cases q2 : 0 < k ∧ isL (bt ω e i (k - 1))
    · rw [if_pos q2]
      exact ⟨wend_ok h (hr q2), fun q3 => absurd q3 q, Int.le_refl _⟩
    · rw [if_neg q2]
      exact ⟨h, fun q3 => absurd q3 q, Int.le_refl _⟩
theorem wln_ok {ω : Int → Int} {e i : Int} {s : wS} (h : wok s) : ∀ k : Nat, wok (wln ω e i k s) ∧ (0 < (k : Int) ∧ isL (bt ω e i ((k : Int) - 1)) → 1 ≤ (wln ω e i k s).1) ∧ s.1 ≤ (wln ω e i k s).1
  | 0 => ⟨h, fun q => absurd q.1 (by omega), Int.le_refl _⟩
  | k + 1 => by
    obtain ⟨h1, h2, h3⟩ := wln_ok (ω := ω) (e := e) (i := i) h k
    obtain ⟨a1, a2, a3⟩ := wst_ok h1 h2
    refine ⟨a1, fun q => a2 ?_, Int.le_trans h3 a3⟩
    have e : ((k + 1 : Nat) : Int) - 1 = k := by omega
    rw [← e]
    exact q.2
theorem wln_mono {ω : Int → Int} {e i : Int} {s : wS} (h : wok s) (k : Nat) : ∀ n : Nat, (wln ω e i k s).1 ≤ (wln ω e i (k + n) s).1
  | 0 => Int.le_refl _
  | n + 1 => by
    obtain ⟨h1, h2, h3⟩ := wln_ok (ω := ω) (e := e) (i := i) h (k + n)
    exact Int.le_trans (wln_mono h k n) (wst_ok h1 h2).2.2
theorem wal_ok {ω : Int → Int} {e : Int} : ∀ i : Nat, wok (wal ω e i)
  | 0 => ⟨Int.le_refl _, fun q => (by cases q), fun p p0 p1 => absurd p1 (by show ¬ p < 0; omega)⟩
  | i + 1 => (wln_ok (wal_ok i) 61).1
theorem wal_mono {ω : Int → Int} {e : Int} (i : Nat) : ∀ n : Nat, (wal ω e i).1 ≤ (wal ω e (i + n)).1
  | 0 => Int.le_refl _
  | n + 1 => Int.le_trans (wal_mono i n) (wln_ok (wal_ok (i + n)) 61).2.2
theorem wcap {ω : Int → Int} {e : Int} {i k : Nat} (hi : i < (ω (3 + e)).toNat) (hk : k ≤ 61) : (wln ω e i k (wal ω e i)).1 ≤ (wW ω e).1 := by
  have h1 := wln_mono (ω := ω) (e := e) (i := i) (wal_ok (ω := ω) (e := e) i) k (61 - k)
  rw [show k + (61 - k) = 61 by omega] at h1
  have h2 := wal_mono (ω := ω) (e := e) (i + 1) ((ω (3 + e)).toNat - (i + 1))
  rw [show i + 1 + ((ω (3 + e)).toNat - (i + 1)) = (ω (3 + e)).toNat by omega] at h2
  exact Int.le_trans h1 h2
