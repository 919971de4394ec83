/-! ASKS: the class marks places -/
section AM
variable {l : Launch} {d : Nat} {ω t : Int → Int} {σ : jH} {e n p c : Int}
def isSet (c : Int) : Prop := 160 ≤ c ∧ c ≤ 173
theorem gt_set (h : isSet c) : gW.2.1 c = (2, 300) := by
  unfold isSet at h
  have : c = 160 ∨ c = 161 ∨ c = 162 ∨ c = 163 ∨ c = 164 ∨ c = 165 ∨ c = 166 ∨ c = 167 ∨ c = 168 ∨ c = 169 ∨ c = 170 ∨ c = 171 ∨ c = 172 ∨ c = 173 := by omega
  rcases this with rfl | rfl | rfl | rfl | rfl | rfl | rfl | rfl | rfl | rfl | rfl | rfl | rfl | rfl
  · exact gt_160
  · exact gt_161
  · exact gt_162
  · exact gt_163
  · exact gt_164
  · exact gt_165
  · exact gt_166
  · exact gt_167
  · exact gt_168
  · exact gt_169
  · exact gt_170
  · exact gt_171
  · exact gt_172
  · exact gt_173
theorem wb_t (he : 0 ≤ e ∧ e ≤ 1) : gW.2.1 (wb e) = (18, 15) ∨ True := Or.inr trivial
theorem l_am_25 {f : Int} (hd : 12 ≤ d) (H : CDR σ ω) (W : OKW ω) (he : 0 ≤ e ∧ e ≤ 1) (h4 : σ 157 4 = wb e) (hc : isSet c) : ∀ (k : Nat) (i : Int) (τ : jH), cq (dw ω e) (wW ω e).1.toNat f - i ≤ k → 0 ≤ i → (∀ c', c' ≠ c → τ c' = σ c') → (∀ q, 0 ≤ q → q < (wW ω e).1 → τ c q = if dw ω e q = f ∧ cq (dw ω e) q.toNat f < i then 1 else σ c q) →
    Ev (l, (fun _ => 0), 0) d 0 0 m_Asker_mark (RW fun _ τ => (∀ c', c' ≠ c → τ c' = σ c') ∧ ∀ q, 0 ≤ q → q < (wW ω e).1 → τ c q = if dw ω e q = f then 1 else σ c q) 25 [some (vR 157), some (vR c), none, none, none, none, some (vI f), some (vI i), none] [] gW τ 0 0 := by
  have hcc := hc
  unfold isSet at hcc
  have hW := wb_i he
  have w := W.n he
  have r := cq_r (dw ω e) f (wW ω e).1.toNat
  have gs := gt_set hc
  have fin : ∀ (i : Int) (τ : jH), cq (dw ω e) (wW ω e).1.toNat f ≤ i → (∀ c', c' ≠ c → τ c' = σ c') → (∀ q, 0 ≤ q → q < (wW ω e).1 → τ c q = if dw ω e q = f ∧ cq (dw ω e) q.toNat f < i then 1 else σ c q) → (∀ c', c' ≠ c → τ c' = σ c') ∧ ∀ q, 0 ≤ q → q < (wW ω e).1 → τ c q = if dw ω e q = f then 1 else σ c q := fun i τ hi F V => by
    refine ⟨F, fun q a b => ?_⟩
    rw [V q a b]
    by_cases g : dw ω e q = f
    · have := cq_lt (w := dw ω e) (W := (wW ω e).1.toNat) a (by omega)
      rw [g] at this
      rw [if_pos g, if_pos ⟨g, by omega⟩]
    · rw [if_neg g, if_neg (fun x => g x.1)]
  intro k
  induction k with
  | zero =>
    intro i τ hk i0 F V
    have Hτ : CDR τ ω := CDR_eq (fun c' a b => F c' (by omega)) H
    refine jwp_sound t_Asker_mark _ (b_Asker_mark_25 ?_)
    simp only [RW, true_and, and_true, and_self, true_or, or_true, Nat.reduceLeDiff, Nat.reduceEqDiff, Nat.reduceAdd, Int.reduceLE, Int.reduceLT, Int.reduceEq, Int.reduceNeg, Int.reduceNe, Nat.reduceSub, reduceIte, implies_true, gt_157, gr_157_2, gt_97, gr_97_2, gt_98]
    rw [F 157 (by omega), h4]
    refine ⟨by rw [wd_t hW], ?_⟩
    refine cN_p (c_oftenOf Hτ W he f) (by omega) ?_
    exact ⟨fun _ => fin i τ (by omega) F V, fun q => absurd q (by omega)⟩
  | succ k ih =>
    intro i τ hk i0 F V
    have Hτ : CDR τ ω := CDR_eq (fun c' a b => F c' (by omega)) H
    refine jwp_sound t_Asker_mark _ (b_Asker_mark_25 ?_)
    simp only [RW, true_and, and_true, and_self, true_or, or_true, Nat.reduceLeDiff, Nat.reduceEqDiff, Nat.reduceAdd, Int.reduceLE, Int.reduceLT, Int.reduceEq, Int.reduceNeg, Int.reduceNe, Nat.reduceSub, reduceIte, implies_true, gt_157, gr_157_2, gt_97, gr_97_2, gt_98]
    rw [F 157 (by omega), h4]
    refine ⟨by rw [wd_t hW], ?_⟩
    refine cN_p (c_oftenOf Hτ W he f) (by omega) ?_
    refine ⟨fun q => fin i τ q F V, fun q => ?_⟩
    rw [F 157 (by omega), h4]
    refine ⟨by rw [wd_t hW], ?_⟩
    refine cN_p (c_placeOf Hτ W he f i) (by omega) ?_
    have y := fnd_yes (w := dw ω e) (f := f) (n := (wW ω e).1.toNat) i0 q
    rcases fnd_r (w := dw ω e) (f := f) (i := i) (wW ω e).1.toNat with r0 | ⟨r1, r2, r3, r4⟩
    · omega
    · have un : ∀ q, 0 ≤ q → q < (wW ω e).1 → dw ω e q = f → cq (dw ω e) q.toNat f = i → fnd (dw ω e) f i (wW ω e).1.toNat = q := fun q a b c' c2 => fnd_eq a (by omega) c' c2
      generalize fnd (dw ω e) f i (wW ω e).1.toNat = x at *
      rw [gs, w32_of (x := i + 1) (by omega) (by omega), show w8 1 = 1 by decide]
      refine ⟨fun a => absurd a (by omega), fun _ => ⟨by omega, fun a => absurd a (by show ¬ (300 : Int) ≤ x; omega), fun _ => ?_⟩⟩
      repeat (refine And.intro (by omega) ?_)
      refine ih (i + 1) (ju τ c x 1) (by omega) (by omega) (fun c' hc' => by rw [ju_row hc', F c' hc']) (fun q' a b => ?_)
      by_cases g : q' = x
      · rw [g, ju_self, if_pos ⟨r3, by omega⟩]
      · rw [ju_ne2 g, V q' a b]
        by_cases g2 : dw ω e q' = f ∧ cq (dw ω e) q'.toNat f < i
        · rw [if_pos g2, if_pos ⟨g2.1, by omega⟩]
        · rw [if_neg g2, if_neg (fun y => ?_)]
          by_cases g3 : cq (dw ω e) q'.toNat f = i
          · exact g (un q' a b y.1 g3).symm
          · exact g2 ⟨y.1, by omega⟩
theorem c_amark {K : Int} (H : CDR σ ω) (W : OKW ω) (he : 0 ≤ e ∧ e ≤ 1) (h4 : σ 157 4 = wb e) (hc : isSet c) (hK : 0 ≤ K ∧ K < 1267650600228229401496703205376) : Cw 12 m_Asker_mark [vR 157, vR c, vL (K / 1125899906842624), vL (K % 1125899906842624)] σ (fun _ τ => (∀ c', c' ≠ c → τ c' = σ c') ∧ ∀ q, 0 ≤ q → q < (wW ω e).1 → τ c q = if KEY ω e q = K then 1 else σ c q) := by
  have N := H.n
  refine Cw_of o_Asker_mark rfl fun l d hd => jwp_sound t_Asker_mark _ (b_Asker_mark_0 ?_)
  simp only [RW, true_and, and_true, and_self, true_or, or_true, Nat.reduceLeDiff, Nat.reduceEqDiff, Nat.reduceAdd, Int.reduceLE, Int.reduceLT, Int.reduceEq, Int.reduceNeg, Int.reduceNe, Nat.reduceSub, reduceIte, implies_true, gt_157, gr_157_2, gt_97, gr_97_2, gt_98]
  rw [N.2.2]
  refine cN_find H hK (by omega) (fun f hf => ?_)
  have w := W.n he
  have r := cq_r (dw ω e) f (wW ω e).1.toNat
  have go := l_am_25 (l := l) (σ := σ) (f := f) (c := c) hd H W he h4 hc 1000 0 σ (by omega) (by omega) (fun _ _ => rfl) (fun q a b => by
    have := cq_r (dw ω e) f q.toNat
    rw [if_neg (by omega)])
  refine Ev_post go (fun _ τ h => ⟨h.1, fun q a b => ?_⟩)
  rw [h.2 q a b]
  obtain ⟨d1, d2, d3⟩ := H.1.2.2.2.1 e q he.1 he.2 a b
  have d1' : 0 ≤ dw ω e q := d1
  have d2' : dw ω e q < dn ω := d2
  have d3' : dF ω (dw ω e q) = KEY ω e q := d3
  have iff : dw ω e q = f ↔ KEY ω e q = K := by
    rcases hf with ⟨f1, f2, f3⟩ | ⟨f1, f2, f3, f4⟩
    · constructor
      · intro x
        rw [← d3', x, f3]
      · intro x
        have inj : ∀ a b, 0 ≤ a → a < b → b < dn ω → dF ω a < dF ω b := fun a b x y z => H.1.2.1 a b x y z
        rcases Int.lt_trichotomy (dw ω e q) f with y | y | y
        · have := inj _ _ d1' y f2
          omega
        · exact y
        · have := inj _ _ f1 y d2'
          omega
    · constructor
      · intro x
        omega
      · intro x
        rw [← d3'] at x
        by_cases y : dw ω e q < -1 - f
        · have := f3 _ d1' y
          omega
        · have := f4 _ (by omega) d2'
          omega
  by_cases g : KEY ω e q = K
  · rw [if_pos g, if_pos (iff.mpr g)]
  · rw [if_neg g, if_neg (fun x => g (iff.mp x))]
end AM
