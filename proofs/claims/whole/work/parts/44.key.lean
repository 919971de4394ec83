/-! Keys and rows of keys; filling rows -/
theorem c_Long_compare (x y : Int) (σ : jH) : Cw 10 m_Long_compare [vL x, vL y] σ (fun z τ => z = jcmp x y ∧ τ = σ) := by
  refine Cw_of o_Long_compare rfl fun l d hd => jwp_sound t_Long_compare _ (b_Long_compare_0 ?_)
  simp only [RW, true_and]
  unfold jcmp
  grind
def jfill (σ : jH) (a lo hi v : Int) : jH := fun c j => if c = a ∧ lo ≤ j ∧ j < hi then v else σ c j
theorem jfill_0 (σ : jH) (a lo v : Int) : jfill σ a lo lo v = σ := by
  funext c j
  unfold jfill
  grind
theorem jfill_s (σ : jH) (a lo i v : Int) (h : lo ≤ i) : ju (jfill σ a lo i v) a i v = jfill σ a lo (i + 1) v := by
  funext c j
  unfold ju jfill
  grind
theorem l_Arrays_fill {l : Launch} {d : Nat} {a n v : Int} {σ : jH} (ht : gW.2.1 a = (1, n)) (hn : n < 1000000) : ∀ (k : Nat) (i : Int), 0 ≤ i → i + k = n →
    Ev (l, (fun _ => 0), 0) d 0 0 m_Arrays_fill (RW fun _ τ => τ = jfill σ a 0 n v) 5 [some (vR a), some (vI v), some (vI i), some (vI n)] [] gW (jfill σ a 0 i v) 0 0
  | 0, i, h0, h1 => by
    refine jwp_sound t_Arrays_fill _ (b_Arrays_fill_5 ?_)
    have e : i = n := by omega
    subst e
    simp only [RW, true_and]
    exact ⟨fun _ => trivial, fun h => absurd h (by omega)⟩
  | k + 1, i, h0, h1 => by
    refine jwp_sound t_Arrays_fill _ (b_Arrays_fill_5 ?_)
    simp only [ht, true_and]
    refine ⟨fun h => absurd h (by omega), fun h => ⟨h0, h, ?_⟩⟩
    rw [w32_of (by omega) (by omega), jfill_s _ _ _ _ _ h0]
    exact l_Arrays_fill ht hn k (i + 1) (by omega) (by omega)
theorem c_Arrays_fill {a n : Int} (v : Int) (σ : jH) (ht : gW.2.1 a = (1, n)) (h0 : 0 ≤ n) (hn : n < 1000000) : Cw 10 m_Arrays_fill [vR a, vI v] σ (fun _ τ => τ = jfill σ a 0 n v) := by
  refine Cw_of o_Arrays_fill rfl fun l d hd => jwp_sound t_Arrays_fill _ (b_Arrays_fill_0 ?_)
  simp only [ht]
  refine ⟨by omega, ?_⟩
  have := l_Arrays_fill (l := l) (d := d) (v := v) (σ := σ) ht hn n.toNat 0 (by omega) (by omega)
  rwa [jfill_0] at this
theorem l_Arrays_fill2 {l : Launch} {d : Nat} {a n v : Int} {σ : jH} (ht : gW.2.1 a = (2, n)) (hn : n < 1000000) (hv : w8 v = v) : ∀ (k : Nat) (i : Int), 0 ≤ i → i + k = n →
    Ev (l, (fun _ => 0), 0) d 0 0 m_Arrays_fill2 (RW fun _ τ => τ = jfill σ a 0 n v) 5 [some (vR a), some (vI v), some (vI i), some (vI n)] [] gW (jfill σ a 0 i v) 0 0
  | 0, i, h0, h1 => by
    refine jwp_sound t_Arrays_fill2 _ (b_Arrays_fill2_5 ?_)
    have e : i = n := by omega
    subst e
    simp only [RW, true_and]
    exact ⟨fun _ => trivial, fun h => absurd h (by omega)⟩
  | k + 1, i, h0, h1 => by
    refine jwp_sound t_Arrays_fill2 _ (b_Arrays_fill2_5 ?_)
    simp only [ht, true_and]
    refine ⟨fun h => absurd h (by omega), fun h => ⟨h0, h, ?_⟩⟩
    rw [w32_of (by omega) (by omega), hv, jfill_s _ _ _ _ _ h0]
    exact l_Arrays_fill2 ht hn hv k (i + 1) (by omega) (by omega)
theorem c_Arrays_fill2 {a n : Int} (v : Int) (σ : jH) (ht : gW.2.1 a = (2, n)) (h0 : 0 ≤ n) (hn : n < 1000000) (hv : w8 v = v) : Cw 10 m_Arrays_fill2 [vR a, vI v] σ (fun _ τ => τ = jfill σ a 0 n v) := by
  refine Cw_of o_Arrays_fill2 rfl fun l d hd => jwp_sound t_Arrays_fill2 _ (b_Arrays_fill2_0 ?_)
  simp only [ht]
  refine ⟨by omega, ?_⟩
  have := l_Arrays_fill2 (l := l) (d := d) (v := v) (σ := σ) ht hn hv n.toNat 0 (by omega) (by omega)
  rwa [jfill_0] at this
-- Key
def KY (o : Int) : Prop := gW.2.1 o = (11, 3)
theorem c_Key_clear {o : Int} (K : KY o) (σ : jH) : Cw 10 m_Key_clear [vR o] σ (fun _ τ => τ = ju (ju (ju σ o 0 0) o 1 0) o 2 0) := by
  have k1 : gW.2.1 o = (11, 3) := K
  refine Cw_of o_Key_clear rfl fun l d hd => jwp_sound t_Key_clear _ (b_Key_clear_0 ?_)
  simp only [RW, true_and, k1]
theorem dig_r (h : Int) (m : Nat) : 0 ≤ h / 32 ^ m % 32 ∧ h / 32 ^ m % 32 < 32 := by omega
theorem dig_step (h : Int) (m : Nat) (h0 : 0 ≤ h) : h / 32 ^ m / 32 = h / 32 ^ (m + 1) := by
  rw [p32s, Int.ediv_ediv_of_nonneg (by have := p32 m; omega)]
theorem l_Key_mapped {l : Launch} {d : Nat} {a h : Int} {σ : jH} (ht : gW.2.1 a = (2, 26)) (hρ : okρ (σ a)) (h0 : 0 ≤ h) (h1 : h < 1125899906842624) : ∀ (j : Nat), j ≤ 10 →
    Ev (l, (fun _ => 0), 0) d 0 0 m_Key_mapped (RW fun z τ => z = hm (σ a) 10 h ∧ τ = σ) 6 [some (vL h), none, some (vR a), some (vL (hm (σ a) (10 - j) (h / 32 ^ j) * 32 ^ j)), none, some (vI (5 * (j : Int) - 5)), none] [] gW σ 0 0
  | 0, hj => by
    refine jwp_sound t_Key_mapped _ (b_Key_mapped_6 ?_)
    simp only [RW, true_and]
    refine ⟨fun _ => ?_, fun q => absurd q (by omega)⟩
    simp
  | j + 1, hj => by
    refine jwp_sound t_Key_mapped _ (b_Key_mapped_6 ?_)
    simp only [ht]
    have e1 : (5 * ((j + 1 : Nat) : Int) - 5) = ((5 * j : Nat) : Int) := by omega
    have hd := kdg (h := h) (m := j) (by omega) h0 h1
    have hr := dig_r h j
    have e3 : w32 (5 * ((j + 1 : Nat) : Int) - 5 + -5) = 5 * (j : Int) - 5 := by
      rw [w32_of (by omega) (by omega)]
      omega
    have e4 : hm (σ a) (10 - j) (h / 32 ^ j) = hm (σ a) (10 - (j + 1)) (h / 32 ^ (j + 1)) * 32 + mp (σ a) (h / 32 ^ j % 32) := by
      rw [show 10 - j = (10 - (j + 1)) + 1 by omega]
      show hm (σ a) (10 - (j + 1)) (h / 32 ^ j / 32) * 32 + mp (σ a) (h / 32 ^ j % 32) = _
      rw [dig_step h j h0]
    have IH := l_Key_mapped (l := l) (d := d) ht hρ h0 h1 j (by omega)
    rw [e3, e1, hd]
    generalize h / 32 ^ j % 32 = dg at *
    have hpj := p32 j
    have hnz : hm (σ a) (10 - (j + 1)) (h / 32 ^ (j + 1)) * 32 ^ (j + 1) = hm (σ a) (10 - (j + 1)) (h / 32 ^ (j + 1)) * 32 * 32 ^ j := by
      rw [p32s, Int.mul_comm (32 ^ j) 32, Int.mul_assoc]
    rw [w32_of (x := dg) (by omega) (by omega), w32_of (x := dg - 1) (by omega) (by omega)]
    have hno : ¬ (1 ≤ dg ∧ dg ≤ 26) → hm (σ a) (10 - (j + 1)) (h / 32 ^ (j + 1)) * 32 ^ (j + 1) = hm (σ a) (10 - j) (h / 32 ^ j) * 32 ^ j := by
      intro q
      rw [hnz, e4]
      unfold mp
      rw [if_neg q, Int.add_zero]
    refine ⟨fun q => absurd q (by omega), fun _ => ⟨fun q => ?_, fun q => ⟨by omega, fun q2 => ?_, fun q2 => ⟨trivial, q, q2, ?_⟩⟩⟩⟩
    · rw [hno (by omega)]
      exact IH
    · rw [hno (by omega)]
      exact IH
    · have hl := hρ (dg - 1) (by omega) (by omega)
      have hmr := hm_r hρ (10 - (j + 1)) (h / 32 ^ (j + 1))
      have hb : hm (σ a) (10 - (j + 1)) (h / 32 ^ (j + 1)) * 32 ^ (j + 1) < 1125899906842624 := by
        have h5 : hm (σ a) (10 - (j + 1)) (h / 32 ^ (j + 1)) * 32 ^ (j + 1) < 32 ^ (10 - (j + 1)) * 32 ^ (j + 1) := Int.mul_lt_mul_of_pos_right hmr.2 (p32 _)
        rw [← Int.pow_add, show 10 - (j + 1) + (j + 1) = 10 by omega] at h5
        exact h5
      rw [w64_of (by omega) (by omega), kor (by omega) (Int.mul_nonneg hmr.1 (by have := p32 (j + 1); omega)) hb (by rw [Int.mul_emod_left]) (by omega) (by omega)]
      have e5 : hm (σ a) (10 - (j + 1)) (h / 32 ^ (j + 1)) * 32 ^ (j + 1) + (σ a (dg - 1) + 1) * 32 ^ j = hm (σ a) (10 - j) (h / 32 ^ j) * 32 ^ j := by
        rw [hnz, e4]
        unfold mp
        rw [if_pos (by omega), ← Int.add_mul]
      rw [e5]
      exact IH
theorem c_Key_mapped {a h : Int} (σ : jH) (ht : gW.2.1 a = (2, 26)) (hρ : okρ (σ a)) (h0 : 0 ≤ h) (h1 : h < 1125899906842624) : Cw 10 m_Key_mapped [vL h, vR a] σ (fun z τ => z = hm (σ a) 10 h ∧ τ = σ) := by
  refine Cw_of o_Key_mapped rfl fun l d hd => jwp_sound t_Key_mapped _ (b_Key_mapped_0 ?_)
  have := l_Key_mapped (l := l) (d := d) ht hρ h0 h1 10 (by omega)
  have e : h / 32 ^ 10 = 0 := Int.ediv_eq_zero_of_lt h0 h1
  simpa [e, hm] using this
