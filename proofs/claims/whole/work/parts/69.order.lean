/-! The class: forms by the order -/
section OR
variable {l : Launch} {d : Nat} {R : Int} {ω : Int → Int} {σ : jH} {n : Int}
def FRO (σ τ : jH) : Prop := ∀ c, c ≠ 101 → c ≠ 103 → c ≠ 104 → τ c = σ c
theorem FRO.tr {τ υ : jH} (h : FRO σ τ) (h' : FRO τ υ) : FRO σ υ := fun c a b d => (h' c a b d).trans (h c a b d)
def okC (ω : Int → Int) (σ : jH) (f : Int) : Int := km (rnk ω) (kk σ 98 f)
/-- the first n forms by the order -/
def ORC (ω : Int → Int) (σ τ : jH) (n : Int) : Prop := (∀ i, 0 ≤ i → i < n → 0 ≤ τ 101 i ∧ τ 101 i < n) ∧ (∀ i j, 0 ≤ i → i < j → j < n → okC ω σ (τ 101 i) < okC ω σ (τ 101 j)) ∧ ∀ g, 0 ≤ g → g < n → ∃ i, 0 ≤ i ∧ i < n ∧ τ 101 i = g
theorem or_in {υ : jH} {τ : jH} {f a : Int} (O : ORC ω σ τ f) (a0 : 0 ≤ a) (a1 : a ≤ f) (new : ∀ i, 0 ≤ i → i ≤ f → υ 101 i = if i < a then τ 101 i else if i = a then f else τ 101 (i - 1)) (hl : ∀ i, 0 ≤ i → i < a → okC ω σ (τ 101 i) < okC ω σ f) (hg : ∀ i, a ≤ i → i < f → okC ω σ f < okC ω σ (τ 101 i)) : ORC ω σ υ (f + 1) := by
  obtain ⟨O1, O2, O3⟩ := O
  refine ⟨fun i i0 i1 => ?_, fun i j i0 i1 i2 => ?_, fun g g0 g1 => ?_⟩
  · rw [new i i0 (by omega)]
    split
    · have := O1 i i0 (by omega)
      omega
    · split
      · omega
      · have := O1 (i - 1) (by omega) (by omega)
        omega
  · rw [new i i0 (by omega), new j (by omega) (by omega)]
    split
    · split
      · exact O2 i j i0 i1 (by omega)
      · split
        · exact hl i i0 (by omega)
        · by_cases h : i = j - 1
          · omega
          · exact O2 i (j - 1) i0 (by omega) (by omega)
    · rw [if_neg (by omega : ¬ j < a), if_neg (by omega : ¬ j = a)]
      split
      · exact hg (j - 1) (by omega) (by omega)
      · exact O2 (i - 1) (j - 1) (by omega) (by omega) (by omega)
  · by_cases hg : g = f
    · exact ⟨a, a0, by omega, by rw [new a a0 a1, if_neg (by omega), if_pos rfl, hg]⟩
    · obtain ⟨i, i0, i1, i2⟩ := O3 g g0 (by omega)
      by_cases h : i < a
      · exact ⟨i, i0, by omega, by rw [new i i0 (by omega), if_pos h, i2]⟩
      · exact ⟨i + 1, by omega, by omega, by rw [new (i + 1) (by omega) (by omega), if_neg (by omega), if_neg (by omega), show i + 1 - 1 = i by omega, i2]⟩
theorem l_order (hd : 12 ≤ d) (tR : gW.2.1 R = (2, 26)) (hR : ∀ l, 0 ≤ l → l < 26 → σ R l = rnk ω l) (hRc : R < 97) (hK : RKO ω) (F : FC σ n) (hV : ∀ f, 0 ≤ f → f < n → VD 20 (kk σ 98 f)) : ∀ (k : Nat) (f : Int) (τ : jH), f + k = n → 0 ≤ f → FRO σ τ → ORC ω σ τ f → (∀ i, 0 ≤ i → i < f → KKV τ 102 i (okC ω σ (τ 101 i))) →
    Ev (l, (fun _ => 0), 0) d 0 0 m_Book_bringToOrder (RW fun _ τ => FRO σ τ ∧ ORC ω σ τ n) 2 [some (vR 97), some (vR R), some (vI f), none, none, none, none, none, none] [] gW τ 0 0
  | 0, f, τ, hk, f0, X, O, Y => by
    have e : f = n := by omega
    rw [e] at O ⊢
    refine jwp_sound t_Book_bringToOrder _ (b_Book_bringToOrder_2 ?_)
    simp only [RW, true_and, and_true, and_self, true_or, or_true, Nat.reduceLeDiff, Nat.reduceEqDiff, Nat.reduceAdd, Int.reduceLE, Int.reduceLT, Int.reduceEq, Int.reduceNeg, Int.reduceNe, Nat.reduceSub, reduceIte, implies_true, gt_97, gr_97_2, gt_98, gr_97_3, gt_101, gr_97_4, gt_102, gr_98_0, gt_99, gr_98_1, gt_100]
    rw [X 97 (by omega) (by omega) (by omega), F.2.2.1]
    exact ⟨fun _ => ⟨X, O⟩, fun q => absurd q (by omega)⟩
  | k + 1, f, τ, hk, f0, X, O, Y => by
    have F' := F
    obtain ⟨F1, F2, F3, F4, F5⟩ := F'
    have kv := (F4 f f0 (by omega)).1
    have kvr := (F4 f f0 (by omega)).2
    unfold KKV at kv
    rw [show (98 : Int) + 1 = 99 by omega, show (98 : Int) + 2 = 100 by omega] at kv
    have hρ : okρ (σ R) := fun l a b => by rw [hR l a b]; exact hK.1 l a b
    have hρ2 : ∀ υ : jH, υ R = σ R → okρ (υ R) := fun υ h => by rw [h]; exact hρ
    have xR : τ R = σ R := X R (by omega) (by omega) (by omega)
    refine jwp_sound t_Book_bringToOrder _ (b_Book_bringToOrder_2 ?_)
    simp only [RW, true_and, and_true, and_self, true_or, or_true, Nat.reduceLeDiff, Nat.reduceEqDiff, Nat.reduceAdd, Int.reduceLE, Int.reduceLT, Int.reduceEq, Int.reduceNeg, Int.reduceNe, Nat.reduceSub, reduceIte, implies_true, gt_97, gr_97_2, gt_98, gr_97_3, gt_101, gr_97_4, gt_102, gr_98_0, gt_99, gr_98_1, gt_100]
    rw [X 97 (by omega) (by omega) (by omega), F3, X 99 (by omega) (by omega) (by omega), kv.1]
    refine ⟨fun q => absurd q (by omega), fun _ => ⟨fun q => absurd q (by omega), fun _ => ⟨by omega, by omega, ?_⟩⟩⟩
    refine cN_p (c_Key_mapped τ tR (hρ2 τ xR) (by omega) (by omega)) (by omega) ?_
    rw [X 100 (by omega) (by omega) (by omega), kv.2]
    refine ⟨by omega, by omega, ?_⟩
    refine cN_p (c_Key_mapped τ tR (hρ2 τ xR) (by omega) (by omega)) (by omega) ?_
    have hkm := km_div hK.1 (kk σ 98 f)
    have hkr := km_r hK.1 (kk σ 98 f)
    have r26 : ∀ l, 0 ≤ l → l < 26 → τ R l = rnk ω l := fun l a b => by rw [xR]; exact hR l a b
    have e1 : hm (τ R) 10 (kk σ 98 f / 1125899906842624) = okC ω σ f / 1125899906842624 := by unfold okC; rw [hkm.1]; exact hm_eq r26 10 _
    have e2 : hm (τ R) 10 (kk σ 98 f % 1125899906842624) = okC ω σ f % 1125899906842624 := by unfold okC; rw [hkm.2]; exact hm_eq r26 10 _
    rw [e1, e2]
    have ko : 0 ≤ okC ω σ f ∧ okC ω σ f < 1267650600228229401496703205376 := hkr
    refine cN_w (c_KeyRow_find kr_102 (by omega) (by omega) f _ _ τ f0 (by omega) (fun i i0 i1 => KKV_b (Y i i0 (by omega))) (fun i j i0 i1 i2 => by rw [KKV_kk (Y i i0 (by omega)), KKV_kk (Y j (by omega) (by omega))]; exact O.2.1 i j i0 i1 (by omega))) (by omega) (fun z υ hz => ?_)
    obtain ⟨hz, rfl⟩ := hz
    rw [show okC ω σ f / 1125899906842624 * 1125899906842624 + okC ω σ f % 1125899906842624 = okC ω σ f by omega, show min f 600 = f by omega] at hz
    rcases hz with ⟨z0, z1, z2⟩ | ⟨z0, z1, z2, z3⟩
    · exfalso
      rw [KKV_kk (Y z z0 z1)] at z2
      obtain ⟨o1, o2⟩ := O.1 z z0 z1
      have := VD_inj hK.1 hK.2 20 _ _ (hV _ o1 (by omega)) (hV f f0 (by omega)) z2
      have := F5 (υ 101 z) f o1 o2 (by omega)
      omega
    · refine ⟨fun q => absurd q (by omega), fun _ => ?_⟩
      rw [w32_of (x := -1 - z) (by omega) (by omega)]
      have a0 : 0 ≤ -1 - z := by omega
      generalize -1 - z = a at *
      refine jwp_sound t_Book_bringToOrder _ (b_Book_bringToOrder_73 ?_)
      simp only [RW, true_and, and_true, and_self, true_or, or_true, Nat.reduceLeDiff, Nat.reduceEqDiff, Nat.reduceAdd, Int.reduceLE, Int.reduceLT, Int.reduceEq, Int.reduceNeg, Int.reduceNe, Nat.reduceSub, reduceIte, implies_true, gt_97, gr_97_2, gt_98, gr_97_3, gt_101, gr_97_4, gt_102, gr_98_0, gt_99, gr_98_1, gt_100]
      refine ⟨fun q => absurd q (by omega), fun _ => ⟨fun q => absurd q (by omega), fun _ => ?_⟩⟩
      refine cN_v (c_KeyRow_insert kr_102 (by omega) f a _ _ υ a0 z1 (by omega)) (by omega) (fun _ => ?_)
      rw [w32_of (x := a + 1) (by omega) (by omega), w32_of (x := f - a) (by omega) (by omega), w32_of (x := f + 1) (by omega) (by omega), show (102 : Int) + 1 = 103 by omega, show (102 : Int) + 2 = 104 by omega]
      repeat (refine And.intro (by omega) ?_)
      have e101 : ∀ i, 0 ≤ i → i ≤ f → ju (jcpy (jr (jr υ 103 (ins (υ 103) f a (okC ω σ f / 1125899906842624))) 104 (ins (υ 104) f a (okC ω σ f % 1125899906842624))) 101 a 101 (a + 1) (f - a)) 101 a f 101 i = if i < a then υ 101 i else if i = a then f else υ 101 (i - 1) := by
        intro i i0 i1
        have o101 : jr (jr υ 103 (ins (υ 103) f a (okC ω σ f / 1125899906842624))) 104 (ins (υ 104) f a (okC ω σ f % 1125899906842624)) 101 = υ 101 := by rw [jr_ne (by omega), jr_ne (by omega)]
        by_cases q1 : i < a
        · rw [if_pos q1, ju_ne2 (by omega), jcpy_out (by omega), o101]
        · rw [if_neg q1]
          by_cases q2 : i = a
          · rw [if_pos q2, q2, ju_self]
          · rw [if_neg q2, ju_ne2 q2]
            have := jcpy_in (σ := jr (jr υ 103 (ins (υ 103) f a (okC ω σ f / 1125899906842624))) 104 (ins (υ 104) f a (okC ω σ f % 1125899906842624))) (F := 101) (a := a) (T := 101) (b := a + 1) (n := f - a) (i := i - (a + 1)) (by omega) (by omega)
            rw [show a + 1 + (i - (a + 1)) = i by omega] at this
            rw [this, o101]
            congr 1
            omega
      have eo : ∀ c, c ≠ 101 → c ≠ 103 → c ≠ 104 → ju (jcpy (jr (jr υ 103 (ins (υ 103) f a (okC ω σ f / 1125899906842624))) 104 (ins (υ 104) f a (okC ω σ f % 1125899906842624))) 101 a 101 (a + 1) (f - a)) 101 a f c = υ c := fun c a1 a2 a3 => by rw [ju_row a1, jcpy_row a1, jr_ne a3, jr_ne a2]
      have e103 : ju (jcpy (jr (jr υ 103 (ins (υ 103) f a (okC ω σ f / 1125899906842624))) 104 (ins (υ 104) f a (okC ω σ f % 1125899906842624))) 101 a 101 (a + 1) (f - a)) 101 a f 103 = ins (υ 103) f a (okC ω σ f / 1125899906842624) := by rw [ju_row (by omega), jcpy_row (by omega), jr_ne (by omega), jr_self]
      have e104 : ju (jcpy (jr (jr υ 103 (ins (υ 103) f a (okC ω σ f / 1125899906842624))) 104 (ins (υ 104) f a (okC ω σ f % 1125899906842624))) 101 a 101 (a + 1) (f - a)) 101 a f 104 = ins (υ 104) f a (okC ω σ f % 1125899906842624) := by rw [ju_row (by omega), jcpy_row (by omega), jr_self]
      generalize ju (jcpy (jr (jr υ 103 (ins (υ 103) f a (okC ω σ f / 1125899906842624))) 104 (ins (υ 104) f a (okC ω σ f % 1125899906842624))) 101 a 101 (a + 1) (f - a)) 101 a f = ψ at e101 eo e103 e104 ⊢
      refine l_order hd tR hR hRc hK F hV k (f + 1) ψ (by omega) (by omega) (X.tr eo) (or_in O a0 z1 e101 (fun i i0 i1 => ?_) (fun i i0 i1 => ?_)) (fun i i0 i1 => ?_)
      · have := z2 i i0 i1
        rwa [KKV_kk (Y i i0 (by omega))] at this
      · have := z3 i i0 i1
        rwa [KKV_kk (Y i (by omega) i1)] at this
      · rw [e101 i i0 (by omega)]
        unfold KKV
        rw [show (102 : Int) + 1 = 103 by omega, show (102 : Int) + 2 = 104 by omega, e103, e104]
        have yy : ∀ j, 0 ≤ j → j < f → υ 103 j = okC ω σ (υ 101 j) / 1125899906842624 ∧ υ 104 j = okC ω σ (υ 101 j) % 1125899906842624 := fun j j0 j1 => Y j j0 j1
        unfold ins
        by_cases q1 : i < a
        · rw [if_pos q1, if_pos q1, if_pos q1]
          exact yy i i0 (by omega)
        · rw [if_neg q1, if_neg q1, if_neg q1]
          by_cases q2 : i = a
          · rw [if_pos q2, if_pos q2, if_pos q2]
            exact ⟨rfl, rfl⟩
          · rw [if_neg q2, if_neg q2, if_neg q2, if_pos (by omega), if_pos (by omega)]
            exact yy (i - 1) (by omega) (by omega)
theorem c_order (tR : gW.2.1 R = (2, 26)) (hR : ∀ l, 0 ≤ l → l < 26 → σ R l = rnk ω l) (hRc : R < 97) (hK : RKO ω) (F : FC σ n) (hV : ∀ f, 0 ≤ f → f < n → VD 20 (kk σ 98 f)) :
    Cw 12 m_Book_bringToOrder [vR 97, vR R] σ (fun _ τ => FRO σ τ ∧ ORC ω σ τ n) := by
  have F1 := F.1
  refine Cw_of o_Book_bringToOrder rfl fun l d hd => jwp_sound t_Book_bringToOrder _ (b_Book_bringToOrder_0 ?_)
  exact l_order hd tR hR hRc hK F hV n.toNat 0 σ (by omega) (by omega) (fun _ _ _ _ => rfl) ⟨fun i a b => absurd b (by omega), fun i j a b c => absurd c (by omega), fun g a b => absurd b (by omega)⟩ (fun i a b => absurd b (by omega))
end OR
