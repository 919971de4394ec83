/-! The class: a line out of a slot -/
section LS
variable {l : Launch} {d : Nat} {e n : Int} {ω : Int → Int} {σ : jH} {m w x : Int → Int}
theorem w8_cut {v : Int} (h : -128 ≤ v ∧ v < 128) : w8 (w8 (w32 v)) = v := by
  rw [w32_of (by omega) (by omega), w8_of (x := v) (by omega) (by omega), w8_of (x := v) (by omega) (by omega)]
theorem l_takeBytes {s : Int} (hd : 12 ≤ d) (S : SLO m w x) (hs : 0 ≤ s ∧ s < 4) (hm : 0 ≤ m s) (hw : w s = 0) : ∀ (k i : Nat) (τ : jH), (i : Int) + k = m s → SLC τ m w x → (∀ j : Int, 0 ≤ j → j < i → τ 188 j = x (60 * s + j)) → (∀ c, c ≠ 188 → τ c = σ c) →
    Ev (l, (fun _ => 0), 0) d 0 0 m_Slots_takeBytes (RW fun z υ => z = m s ∧ (∀ j, 0 ≤ j → j < m s → υ 188 j = x (60 * s + j)) ∧ ∀ c, c ≠ 188 → υ c = σ c) 26 [some (vR 184), some (vI s), some (vI (m s)), some (vI i)] [] gW τ 0 0
  | 0, i, τ, h, C, I, F => by
    obtain ⟨a, b, c⟩ := C s hs.1 hs.2
    have im : (i : Int) = m s := by omega
    rw [im] at I
    refine jwp_sound t_Slots_takeBytes _ (b_Slots_takeBytes_26 ?_)
    simp only [RW, true_and, and_true, and_self, true_or, or_true, Nat.reduceLeDiff, Nat.reduceEqDiff, Nat.reduceAdd, Int.reduceLE, Int.reduceLT, Int.reduceEq, Int.reduceNeg, Int.reduceNe, Nat.reduceSub, reduceIte, implies_true, gt_184, gr_184_0, gt_185, gr_184_2, gt_187, gr_184_3, gt_188]
    refine ⟨fun _ => ?_, fun q => absurd q (by omega)⟩
    first | exact ⟨rfl, I, F⟩ | exact ⟨I, F⟩
  | k + 1, i, τ, h, C, I, F => by
    obtain ⟨a, b, c⟩ := C s hs.1 hs.2
    obtain ⟨o1, o2, o3⟩ := S s hs.1 hs.2
    have v := (o3 i (by omega) (by omega)).2 hw
    have IH := l_takeBytes hd S hs hm hw k (i + 1) (ju τ 188 i (x (60 * s + i))) (by omega) (fun s' a' b' => by
      rw [ju_row (by omega), ju_row (by omega), ju_row (by omega)]
      exact C s' a' b') (fun j j0 j1 => by
      by_cases q : j = i
      · rw [q, ju_self]
      · rw [ju_ne2 q]
        exact I j j0 (by omega)) (fun c hc => by rw [ju_row hc]; exact F c hc)
    rw [show ((i + 1 : Nat) : Int) = (i : Int) + 1 by omega] at IH
    refine jwp_sound t_Slots_takeBytes _ (b_Slots_takeBytes_26 ?_)
    simp only [RW, true_and, and_true, and_self, true_or, or_true, Nat.reduceLeDiff, Nat.reduceEqDiff, Nat.reduceAdd, Int.reduceLE, Int.reduceLT, Int.reduceEq, Int.reduceNeg, Int.reduceNe, Nat.reduceSub, reduceIte, implies_true, gt_184, gr_184_0, gt_185, gr_184_2, gt_187, gr_184_3, gt_188]
    rw [w32_of (x := s * 60) (by omega) (by omega), w32_of (x := s * 60 + i) (by omega) (by omega), w32_of (x := (i : Int) + 1) (by omega) (by omega), show s * 60 + (i : Int) = 60 * s + i by omega, c i (by omega) (by omega), w8_cut v]
    refine ⟨fun q => absurd q (by omega), fun _ => ?_⟩
    repeat (refine And.intro (by omega) ?_)
    exact IH
theorem c_takeBytes {s : Int} (S : SLO m w x) (C : SLC σ m w x) (hs : 0 ≤ s ∧ s < 4) (hm : m s ≠ -1) (hw : w s = 0) : Cw 12 m_Slots_takeBytes [vR 184, vI s] σ (fun z υ => z = m s ∧ (∀ j, 0 ≤ j → j < m s → υ 188 j = x (60 * s + j)) ∧ ∀ c, c ≠ 188 → υ c = σ c) := by
  have o1 := (S s hs.1 hs.2).1
  refine Cw_of o_Slots_takeBytes rfl fun l d hd => jwp_sound t_Slots_takeBytes _ (b_Slots_takeBytes_0 ?_)
  simp only [RW, true_and, and_true, and_self, true_or, or_true, Nat.reduceLeDiff, Nat.reduceEqDiff, Nat.reduceAdd, Int.reduceLE, Int.reduceLT, Int.reduceEq, Int.reduceNeg, Int.reduceNe, Nat.reduceSub, reduceIte, implies_true, gt_184, gr_184_0, gt_185, gr_184_2, gt_187, gr_184_3, gt_188]
  refine cN_p (c_isEmpty C s) (by omega) ?_
  rw [if_pos ⟨hs, hm⟩, (C s hs.1 hs.2).1]
  refine ⟨fun _ => ⟨by omega, by omega, by omega, ?_⟩, fun q => absurd rfl q⟩
  rw [show min (m s) 60 = m s by omega]
  exact l_takeBytes (σ := σ) hd S hs (by omega) hw (m s).toNat 0 σ (by omega) C (fun j a b => by omega) (fun c _ => rfl)
/-- a line out of a slot -/
def LOP (σ τ : jH) (ω : Int → Int) (e s : Int) (m w x : Int → Int) (z : Int) : Prop :=
  (¬ ((0 ≤ e ∧ e ≤ 1) ∧ 0 ≤ s ∧ s < 4) ∧ z = -2 ∧ τ = σ) ∨ (((0 ≤ e ∧ e ≤ 1) ∧ 0 ≤ s ∧ s < 4) ∧ ((m s = -1 ∧ z = -6 ∧ τ = σ) ∨ (m s ≠ -1 ∧ w s ≠ 0 ∧ z = -8 ∧ τ = σ) ∨ (m s ≠ -1 ∧ w s = 0 ∧ ∃ ρ, (∀ c, c ≠ 188 → ρ c = σ c) ∧ ADL ρ τ ω e (ω (3 + e)) (m s) (fun j => x (60 * s + j)) (ω (3 + e)) z)))
theorem c_lineOf {s : Int} (C : CFR σ ω) (S : SLO m w x) (SC : SLC σ m w x) : Cw 15 m_WordPlaces_lineOf [vR 1, vI e, vI s] σ (fun z τ => LOP σ τ ω e s m w x z) := by
  have t188 : gW.2.1 188 = (2, 60) := gt_188
  refine Cw_of o_WordPlaces_lineOf rfl fun l d hd => jwp_sound t_WordPlaces_lineOf _ (b_WordPlaces_lineOf_0 ?_)
  simp only [RW, true_and, and_true, and_self, true_or, or_true, Nat.reduceLeDiff, Nat.reduceEqDiff, Nat.reduceAdd, Int.reduceLE, Int.reduceLT, Int.reduceEq, Int.reduceNeg, Int.reduceNe, Nat.reduceSub, reduceIte, implies_true, gt_1, gr_1_19, gt_184, gr_184_3, gt_188]
  refine cN_p (c_isEdition _ _) (by omega) ?_
  by_cases he : 0 ≤ e ∧ e ≤ 1
  · rw [if_pos he]
    refine ⟨fun q => by omega, fun _ => ?_⟩
    refine cN_p (c_isSlot _ _) (by omega) ?_
    by_cases hs : 0 ≤ s ∧ s < 4
    · obtain ⟨o1, o2, o3⟩ := S s hs.1 hs.2
      rw [if_pos hs]
      refine ⟨fun _ => ?_, fun q => by omega⟩
      refine cN_p (c_isEmpty SC s) (by omega) ?_
      by_cases hm : m s = -1
      · rw [if_neg (fun q => q.2 hm)]
        exact ⟨fun q => by omega, fun _ => Or.inr ⟨⟨he, hs⟩, Or.inl ⟨hm, rfl, rfl⟩⟩⟩
      · rw [if_pos ⟨hs, hm⟩]
        refine ⟨fun _ => ?_, fun q => absurd rfl q⟩
        refine cN_p (c_widthOf SC hs) (by omega) ?_
        refine ⟨fun hw => ?_, fun hw => Or.inr ⟨⟨he, hs⟩, Or.inr (Or.inl ⟨hm, hw, rfl, rfl⟩)⟩⟩
        refine cN_w (c_takeBytes S SC hs hm hw) (by omega) (fun z ρ h => ?_)
        obtain ⟨rfl, h1, h2⟩ := h
        have C' : CFR ρ ω := C.of1 (fun c a b => h2 c (by omega))
        refine cN_w (c_addLine C' t188 (by omega) (by omega) (by omega) he (by omega)) (by omega) (fun z τ h => ?_)
        exact Or.inr ⟨⟨he, hs⟩, Or.inr (Or.inr ⟨hm, hw, ρ, h2, ADL_t h1 rfl h⟩)⟩
    · rw [if_neg hs]
      exact ⟨fun q => absurd rfl q, fun _ => Or.inl ⟨fun q => hs q.2, rfl, rfl⟩⟩
  · rw [if_neg he]
    exact ⟨fun _ => Or.inl ⟨fun q => he q.1, rfl, rfl⟩, fun q => absurd rfl q⟩
end LS
