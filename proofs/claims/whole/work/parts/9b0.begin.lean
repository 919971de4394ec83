/-! Words begun: keys with a beginning -/
theorem nat_mask {x s : Nat} (h : x < 2 ^ 50) (hs : s ≤ 50) : x &&& ((2 ^ (50 - s) - 1) * 2 ^ s) = x / 2 ^ s * 2 ^ s := by
  apply Nat.eq_of_testBit_eq
  intro j
  rw [Nat.testBit_and, Nat.testBit_mul_two_pow, Nat.testBit_mul_two_pow, Nat.testBit_two_pow_sub_one]
  by_cases q : s ≤ j
  · rw [decide_eq_true q, Bool.true_and, Bool.true_and, Nat.testBit_div_two_pow, show j - s + s = j by omega]
    by_cases g : j - s < 50 - s
    · rw [decide_eq_true g, Bool.and_true]
    · rw [decide_eq_false g, Bool.and_false, Nat.testBit_lt_two_pow (Nat.lt_of_lt_of_le h (Nat.pow_le_pow_right (by omega) (by omega)))]
  · rw [decide_eq_false q, Bool.false_and, Bool.false_and, Bool.and_false]
/-- the mask of so many first letters of a half -/
def fbM (a : Nat) : Int := 1125899906842624 - 32 ^ (10 - a)
theorem jand_fb {x : Int} {a : Nat} (h0 : 0 ≤ x) (h1 : x < 1125899906842624) (ha : a ≤ 10) : jand64 x (fbM a) = x / 32 ^ (10 - a) * 32 ^ (10 - a) := by
  have key : ∀ s : Nat, s ≤ 50 → ∀ m : Int, m = 1125899906842624 - 2 ^ s → jand64 x m = x / 2 ^ s * 2 ^ s := fun s hs m hm => by
    have p : ((2 ^ s : Nat) : Int) = 2 ^ s := by rw [Int.natCast_pow]; rfl
    have le : 2 ^ s ≤ 2 ^ 50 := Nat.pow_le_pow_right (by omega) hs
    have pos : 0 < 2 ^ s := Nat.two_pow_pos s
    have e0 : (2 ^ (50 - s) - 1) * 2 ^ s = 2 ^ 50 - 2 ^ s := by
      rw [Nat.sub_mul, ← Nat.pow_add, show 50 - s + s = 50 by omega, Nat.one_mul]
    have em : m.toNat = 2 ^ 50 - 2 ^ s := by omega
    rw [jand64_of h0 (by omega) (by omega) (by omega), em, ← e0, nat_mask (by omega) hs]
    rw [Int.natCast_mul, Int.natCast_ediv, p, show ((x.toNat : Nat) : Int) = x by omega]
  have e : (32 : Int) ^ (10 - a) = 2 ^ (5 * (10 - a)) := by
    rw [Int.pow_mul]
    rfl
  rw [e]
  refine key (5 * (10 - a)) (by omega) _ ?_
  unfold fbM
  rw [e]
theorem fb_of : ∀ a : Nat, a ≤ 10 → jand64 1125899906842623 (jxor64 (w64 ((jshl64 1 (w32 (50 - w32 (5 * (a : Int)))) - 1))) (-1)) = fbM a := by
  intro a h
  have : a = 0 ∨ a = 1 ∨ a = 2 ∨ a = 3 ∨ a = 4 ∨ a = 5 ∨ a = 6 ∨ a = 7 ∨ a = 8 ∨ a = 9 ∨ a = 10 := by omega
  rcases this with rfl | rfl | rfl | rfl | rfl | rfl | rfl | rfl | rfl | rfl | rfl <;> decide +kernel
def pfa (n : Nat) : Nat := if n ≤ 10 then n else 10
def pfb (n : Nat) : Nat := n - 10
theorem pfx_iff {F K : Int} {n : Nat} (hn : n ≤ 20) (f0 : 0 ≤ F) (f1 : F < 1267650600228229401496703205376) (k0 : 0 ≤ K) (k1 : K < 1267650600228229401496703205376) (hd : dv32 K (20 - n)) : (F / 1125899906842624 / 32 ^ (10 - pfa n) * 32 ^ (10 - pfa n) = K / 1125899906842624 ∧ F % 1125899906842624 / 32 ^ (10 - pfb n) * 32 ^ (10 - pfb n) = K % 1125899906842624) ↔ (K ≤ F ∧ F < K + 32 ^ (20 - n)) := by
  unfold dv32 at hd
  unfold pfa pfb
  have : n = 0 ∨ n = 1 ∨ n = 2 ∨ n = 3 ∨ n = 4 ∨ n = 5 ∨ n = 6 ∨ n = 7 ∨ n = 8 ∨ n = 9 ∨ n = 10 ∨ n = 11 ∨ n = 12 ∨ n = 13 ∨ n = 14 ∨ n = 15 ∨ n = 16 ∨ n = 17 ∨ n = 18 ∨ n = 19 ∨ n = 20 := by omega
  rcases this with rfl | rfl | rfl | rfl | rfl | rfl | rfl | rfl | rfl | rfl | rfl | rfl | rfl | rfl | rfl | rfl | rfl | rfl | rfl | rfl | rfl <;> (simp only [Nat.reduceSub, Nat.reduceLeDiff, reduceIte, Int.reducePow] at hd ⊢; omega)
/-- letters among the first bytes -/
theorem tky_cnt (t : Int → Int) : ∀ k : Nat, ((tky t 0 k).2 : Int) = min (lcnt t k) 20
  | 0 => rfl
  | k + 1 => by
    have IH := tky_cnt t k
    have r := lcnt_r t k
    by_cases g : isL (t k)
    · have e : (tky t 0 (k + 1)).2 = min ((tky t 0 k).2 + 1) 20 := by
        show (if isL (t (0 + k)) then _ else _ : Int × Nat).2 = _
        rw [Int.zero_add, if_pos g]
      have e2 : lcnt t (k + 1) = lcnt t k + 1 := by
        show lcnt t k + (if isL (t k) then 1 else 0) = _
        rw [if_pos g]
      rw [e, e2]
      omega
    · have e : (tky t 0 (k + 1)).2 = (tky t 0 k).2 := by
        show (if isL (t (0 + k)) then _ else _ : Int × Nat).2 = _
        rw [Int.zero_add, if_neg g]
      have e2 : lcnt t (k + 1) = lcnt t k + 0 := by
        show lcnt t k + (if isL (t k) then 1 else 0) = _
        rw [if_neg g]
      rw [e, e2, IH]
      omega
/-- folded: still so many letters -/
theorem km_dv {ρ : Int → Int} {K : Int} {n : Nat} (hn : n ≤ 20) (hv : dv32 K (20 - n)) : dv32 (km ρ K) (20 - n) := by
  have hn20 : 20 = n + (20 - n) := by omega
  generalize 20 - n = b at *
  unfold dv32 at *
  have hd := Int.mul_ediv_add_emod K (32 ^ b)
  rw [hv] at hd
  have e : K = K / 32 ^ b * 32 ^ b + 0 := by
    rw [Int.mul_comm]
    exact hd.symm
  generalize K / 32 ^ b = q at e
  unfold km
  rw [e, hn20, hm_dm n b _ 0 (by omega) (p32 b), hm_0, Int.add_zero]
  exact Int.mul_emod_left _ _
noncomputable def bgA (ω : Int → Int) (K : Int) : Int := fsi (fun f => decide (K ≤ dF ω f)) (dn ω).toNat 0
/-- the forms from a up to b are those in the range -/
def BGR0 (ω : Int → Int) (K M a b : Int) : Prop := (0 ≤ a ∧ a ≤ b ∧ b ≤ dn ω) ∧ (∀ f, 0 ≤ f → f < a → dF ω f < K) ∧ (∀ f, a ≤ f → f < b → K ≤ dF ω f ∧ dF ω f < K + M) ∧ ∀ f, b ≤ f → f < dn ω → K + M ≤ dF ω f
theorem bg_uniq {ω : Int → Int} {K M a b a' b' : Int} (hM : 0 < M) (H : BGR0 ω K M a b) (H' : BGR0 ω K M a' b') : a = a' ∧ b = b' := by
  obtain ⟨⟨h1, h2, h3⟩, h4, h5, h6⟩ := H
  obtain ⟨⟨g1, g2, g3⟩, g4, g5, g6⟩ := H'
  have p1 : ¬ a < a' := fun x => by
    have u := g4 a h1 x
    by_cases y : a < b
    · have := h5 a (Int.le_refl _) y
      omega
    · have := h6 a (by omega) (by omega)
      omega
  have p2 : ¬ a' < a := fun x => by
    have u := h4 a' g1 x
    by_cases y : a' < b'
    · have := g5 a' (Int.le_refl _) y
      omega
    · have := g6 a' (by omega) (by omega)
      omega
  have p3 : ¬ b < b' := fun x => by
    have u := g5 b (by omega) x
    have := h6 b (Int.le_refl _) (by omega)
    omega
  have p4 : ¬ b' < b := fun x => by
    have u := h5 b' (by omega) x
    have := g6 b' (Int.le_refl _) (by omega)
    omega
  omega
theorem fsi_at {P : Int → Bool} : ∀ (k : Nat) (i : Int), fsi P k i < i + k → P (fsi P k i) = true
  | 0, i, h => absurd h (by show ¬ i < i + ((0 : Nat) : Int); omega)
  | k + 1, i, h => by
    simp only [fsi] at h ⊢
    cases q : P i with
    | true =>
      rw [if_pos rfl]
      exact q
    | false =>
      rw [q, if_neg Bool.false_ne_true] at h
      rw [if_neg Bool.false_ne_true]
      exact fsi_at k (i + 1) (by omega)
theorem bg_is {ω : Int → Int} {K M : Int} (D : ISD ω (dD ω)) (hM : 0 < M) : BGR0 ω K M (bgA ω K) (bgA ω (K + M)) := by
  have d0 : 0 ≤ dn ω := D.1
  have lo : ∀ K f, 0 ≤ f → f < bgA ω K → dF ω f < K := fun K f a b => by
    have := fsi_all (P := fun f => decide (K ≤ dF ω f)) (dn ω).toNat 0 f a b
    have := of_decide_eq_false this
    omega
  have hi : ∀ K f, bgA ω K ≤ f → f < dn ω → K ≤ dF ω f := fun K f a b => by
    have r := fsi_r (P := fun f => decide (K ≤ dF ω f)) (dn ω).toNat 0
    have h := fsi_at (P := fun f => decide (K ≤ dF ω f)) (dn ω).toNat 0 (by unfold bgA at a; omega)
    have h2 : K ≤ dF ω (bgA ω K) := of_decide_eq_true h
    have := inc_le D.2.1 (a := bgA ω K) (b := f) (by unfold bgA; omega) a b
    have h3 : dF ω (bgA ω K) ≤ dF ω f := this
    omega
  have r1 := fsi_r (P := fun f => decide (K ≤ dF ω f)) (dn ω).toNat 0
  have r2 := fsi_r (P := fun f => decide (K + M ≤ dF ω f)) (dn ω).toNat 0
  have ab : bgA ω K ≤ bgA ω (K + M) := by
    by_cases q : bgA ω K ≤ bgA ω (K + M)
    · exact q
    · have u := lo K (bgA ω (K + M)) (by unfold bgA; omega) (by omega)
      have v := hi (K + M) (bgA ω (K + M)) (Int.le_refl _) (by unfold bgA at q ⊢; omega)
      omega
  refine ⟨⟨by unfold bgA; omega, ab, by unfold bgA; omega⟩, lo K, fun f a b => ⟨hi K f a (by unfold bgA at b; omega), lo (K + M) f (by unfold bgA at a; omega) b⟩, hi (K + M)⟩
noncomputable def bgK (ω t : Int → Int) (n : Int) : Int := km (fo ω) (tky t 0 n.toNat).1
noncomputable def bgM (t : Int → Int) (n : Int) : Int := 32 ^ (20 - (tky t 0 n.toNat).2)
noncomputable def bgF (ω t : Int → Int) (n : Int) : Int := if lcnt t n.toNat ≤ 20 then bgA ω (bgK ω t n) else 0
noncomputable def bgN (ω t : Int → Int) (n : Int) : Int := if lcnt t n.toNat ≤ 20 then bgA ω (bgK ω t n + bgM t n) - bgA ω (bgK ω t n) else 0
