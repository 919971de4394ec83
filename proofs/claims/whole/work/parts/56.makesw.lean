/-! The reference: makesWords -/
def RWD (τ : jH) (e : Int) (s : wS) : Prop := τ 193 e = s.1 ∧ ∀ p, 0 ≤ p → p < s.1 → τ 195 (340 * e + p) = s.2.2.1 p ∧ τ 196 (340 * e + p) = s.2.2.2.1 p ∧ RV (τ 197) (21 * (340 * e + p)) ∧ τ 197 (21 * (340 * e + p)) = s.2.2.2.2.2 p ∧ rk (τ 197) (21 * (340 * e + p)) = km (fo (τ 190)) (s.2.2.2.2.1 p)
def FMW (σ τ : jH) (e : Int) : Prop := (∀ c, c ≠ 193 → c ≠ 195 → c ≠ 196 → c ≠ 197 → τ c = σ c) ∧ (∀ j, j ≠ e → τ 193 j = σ 193 j) ∧ (∀ j, (j < 340 * e ∨ 340 * e + 340 ≤ j) → τ 195 j = σ 195 j ∧ τ 196 j = σ 196 j) ∧ ∀ j, (j < 7140 * e ∨ 7140 * e + 7140 ≤ j) → τ 197 j = σ 197 j
theorem FMW.rf {σ : jH} {e : Int} : FMW σ σ e := ⟨fun _ _ _ _ _ => rfl, fun _ _ => rfl, fun _ _ => ⟨rfl, rfl⟩, fun _ _ => rfl⟩
theorem FMW.tr {σ τ υ : jH} {e : Int} (h : FMW σ τ e) (h' : FMW τ υ e) : FMW σ υ e :=
  ⟨fun c a1 a2 a3 a4 => (h'.1 c a1 a2 a3 a4).trans (h.1 c a1 a2 a3 a4), fun j hj => (h'.2.1 j hj).trans (h.2.1 j hj), fun j hj => ⟨(h'.2.2.1 j hj).1.trans (h.2.2.1 j hj).1, (h'.2.2.1 j hj).2.trans (h.2.2.1 j hj).2⟩, fun j hj => (h'.2.2.2 j hj).trans (h.2.2.2 j hj)⟩
def b2i (b : Bool) : Int := if b = true then 1 else 0
/-- lines that can be read -/
def LOK (ω : Int → Int) (e : Int) : Prop := 0 ≤ ω (3 + e) ∧ ω (3 + e) ≤ 40 ∧ ∀ i, 0 ≤ i → i < ω (3 + e) → 0 ≤ ω (lA e i) ∧ ω (lA e i) ≤ 60
theorem rw_new {τ : jH} {e i w : Int} {s : wS} (he : 0 ≤ e ∧ e ≤ 1) (R : RWD τ e s) (h0 : 0 ≤ s.1) (hw : w = 340 * e + s.1) (hc : s.1 < 340) :
    RWD (ju (ju (ju (ju τ 193 e (s.1 + 1)) 197 (21 * w) 0) 195 w i) 196 w 0) e (wnew i s) ∧ FMW τ (ju (ju (ju (ju τ 193 e (s.1 + 1)) 197 (21 * w) 0) 195 w i) 196 w 0) e := by
  obtain ⟨R1, R2⟩ := R
  have e190 : ju (ju (ju (ju τ 193 e (s.1 + 1)) 197 (21 * w) 0) 195 w i) 196 w 0 190 = τ 190 := by
    rw [ju_row (by omega), ju_row (by omega), ju_row (by omega), ju_row (by omega)]
  have e193 : ju (ju (ju (ju τ 193 e (s.1 + 1)) 197 (21 * w) 0) 195 w i) 196 w 0 193 = ju τ 193 e (s.1 + 1) 193 := by
    rw [ju_row (by omega), ju_row (by omega), ju_row (by omega)]
  have e195 : ju (ju (ju (ju τ 193 e (s.1 + 1)) 197 (21 * w) 0) 195 w i) 196 w 0 195 = ju τ 195 w i 195 := by
    rw [ju_row (by omega)]
    funext j
    unfold ju
    simp
  have e196 : ju (ju (ju (ju τ 193 e (s.1 + 1)) 197 (21 * w) 0) 195 w i) 196 w 0 196 = ju τ 196 w 0 196 := by
    funext j
    unfold ju
    simp
  have e197 : ju (ju (ju (ju τ 193 e (s.1 + 1)) 197 (21 * w) 0) 195 w i) 196 w 0 197 = ju τ 197 (21 * w) 0 197 := by
    rw [ju_row (by omega), ju_row (by omega)]
    funext j
    unfold ju
    simp
  refine ⟨⟨?_, fun p p0 p1 => ?_⟩, ⟨fun c c1 c2 c3 c4 => ?_, fun j hj => ?_, fun j hj => ⟨?_, ?_⟩, fun j hj => ?_⟩⟩
  · rw [e193, ju_self]
    rfl
  · have p2 : p < s.1 + 1 := p1
    rw [e195, e196, e197, e190]
    show _ = up s.2.2.1 s.1 i p ∧ _ = up s.2.2.2.1 s.1 0 p ∧ _ ∧ _ = ((up s.2.2.2.2.2 s.1 0 p : Nat) : Int) ∧ _ = km (fo (τ 190)) (up s.2.2.2.2.1 s.1 0 p)
    by_cases hp : p = s.1
    · subst hp
      rw [← hw, ju_self, ju_self, up_self, up_self, up_self, up_self, ju_self, km_0]
      refine ⟨rfl, rfl, ⟨by rw [ju_self]; omega, by rw [ju_self]; omega, fun j j0 j1 => ?_⟩, rfl, rk_0 ju_self⟩
      rw [ju_self] at j1
      omega
    · obtain ⟨a1, a2, a3, a4, a5⟩ := R2 p p0 (by omega)
      rw [up_ne hp, up_ne hp, up_ne hp, up_ne hp, ju_ne2 (by omega), ju_ne2 (by omega)]
      have h0' : τ 197 (21 * (340 * e + p)) = ju τ 197 (21 * w) 0 197 (21 * (340 * e + p)) := (ju_ne2 (by omega)).symm
      have h1' : ∀ j, 0 ≤ j → j < τ 197 (21 * (340 * e + p)) → τ 197 (21 * (340 * e + p) + 1 + j) = ju τ 197 (21 * w) 0 197 (21 * (340 * e + p) + 1 + j) := fun j j0 j1 => (ju_ne2 (by have := a3.2.1; omega)).symm
      exact ⟨a1, a2, RV_eq a3 h0' h1', h0'.symm.trans a4, (rk_eq h0' h1').symm.trans a5⟩
  · rw [ju_row c3, ju_row c2, ju_row c4, ju_row c1]
  · rw [e193, ju_ne2 hj]
  · rw [e195, ju_ne2 (by omega)]
  · rw [e196, ju_ne2 (by omega)]
  · rw [e197, ju_ne2 (by omega)]
theorem rw_add {τ : jH} {e b w : Int} {s : wS} (he : 0 ≤ e ∧ e ≤ 1) (R : RWD τ e s) (K : wok s) (hρ : okρ (fo (τ 190))) (h0 : 1 ≤ s.1) (hw : w = 340 * e + (s.1 - 1)) (hc : s.1 ≤ 340) (hb : isL b) :
    RWD (if τ 197 (21 * w) = 20 then τ else ju (ju τ 197 (21 * w) (τ 197 (21 * w) + 1)) 197 (21 * w + (τ 197 (21 * w) + 1)) (fo (τ 190) (b - 97))) e (wadd (b - 97) s) ∧ FMW τ (if τ 197 (21 * w) = 20 then τ else ju (ju τ 197 (21 * w) (τ 197 (21 * w) + 1)) 197 (21 * w + (τ 197 (21 * w) + 1)) (fo (τ 190) (b - 97))) e := by
  obtain ⟨R1, R2⟩ := R
  obtain ⟨a1, a2, a3, a4, a5⟩ := R2 (s.1 - 1) (by omega) (by omega)
  obtain ⟨k1, k2, k3, k4⟩ := K.2.2 (s.1 - 1) (by omega) (by omega)
  rw [← hw] at a1 a2 a3 a4 a5
  by_cases q : τ 197 (21 * w) = 20
  · rw [if_pos q]
    have n20 : s.2.2.2.2.2 (s.1 - 1) = 20 := by omega
    refine ⟨⟨R1, fun p p0 p1 => ?_⟩, FMW.rf⟩
    obtain ⟨b1, b2, b3, b4, b5⟩ := R2 p p0 p1
    show _ ∧ _ ∧ _ ∧ _ = ((up s.2.2.2.2.2 (s.1 - 1) (min (s.2.2.2.2.2 (s.1 - 1) + 1) 20) p : Nat) : Int) ∧ _ = km (fo (τ 190)) (up s.2.2.2.2.1 (s.1 - 1) (kad (s.2.2.2.2.1 (s.1 - 1)) (s.2.2.2.2.2 (s.1 - 1)) (b - 97)) p)
    by_cases hp : p = s.1 - 1
    · subst hp
      rw [up_self, up_self, n20]
      unfold kad
      rw [if_neg (by omega)]
      exact ⟨b1, b2, b3, by rw [b4, n20]; omega, b5⟩
    · rw [up_ne hp, up_ne hp]
      exact ⟨b1, b2, b3, b4, b5⟩
  · rw [if_neg q]
    have nl : s.2.2.2.2.2 (s.1 - 1) < 20 := by omega
    have eo : ∀ c, c ≠ 197 → ju (ju τ 197 (21 * w) (τ 197 (21 * w) + 1)) 197 (21 * w + (τ 197 (21 * w) + 1)) (fo (τ 190) (b - 97)) c = τ c := fun c hc => by rw [ju_row hc, ju_row hc]
    have ej : ∀ j, j ≠ 21 * w → j ≠ 21 * w + (τ 197 (21 * w) + 1) → ju (ju τ 197 (21 * w) (τ 197 (21 * w) + 1)) 197 (21 * w + (τ 197 (21 * w) + 1)) (fo (τ 190) (b - 97)) 197 j = τ 197 j := fun j j1 j2 => by rw [ju_ne2 j2, ju_ne2 j1]
    have e0 : ju (ju τ 197 (21 * w) (τ 197 (21 * w) + 1)) 197 (21 * w + (τ 197 (21 * w) + 1)) (fo (τ 190) (b - 97)) 197 (21 * w) = τ 197 (21 * w) + 1 := by
      rw [ju_ne2 (by have := a3.1; omega), ju_self]
    have en : ju (ju τ 197 (21 * w) (τ 197 (21 * w) + 1)) 197 (21 * w + (τ 197 (21 * w) + 1)) (fo (τ 190) (b - 97)) 197 (21 * w + (τ 197 (21 * w) + 1)) = fo (τ 190) (b - 97) := ju_self
    have hφ := hρ (b - 97) (by omega) (by omega)
    generalize ju (ju τ 197 (21 * w) (τ 197 (21 * w) + 1)) 197 (21 * w + (τ 197 (21 * w) + 1)) (fo (τ 190) (b - 97)) = υ at eo ej e0 en ⊢
    refine ⟨⟨?_, fun p p0 p1 => ?_⟩, ⟨fun c c1 c2 c3 c4 => eo c c4, fun j hj => by rw [eo 193 (by omega)], fun j hj => ⟨by rw [eo 195 (by omega)], by rw [eo 196 (by omega)]⟩, fun j hj => ej j (by omega) (by have := a3.1; omega)⟩⟩
    · rw [eo 193 (by omega)]
      exact R1
    · obtain ⟨b1, b2, b3, b4, b5⟩ := R2 p p0 p1
      rw [eo 195 (by omega), eo 196 (by omega), eo 190 (by omega)]
      show _ ∧ _ ∧ _ ∧ _ = ((up s.2.2.2.2.2 (s.1 - 1) (min (s.2.2.2.2.2 (s.1 - 1) + 1) 20) p : Nat) : Int) ∧ _ = km (fo (τ 190)) (up s.2.2.2.2.1 (s.1 - 1) (kad (s.2.2.2.2.1 (s.1 - 1)) (s.2.2.2.2.2 (s.1 - 1)) (b - 97)) p)
      by_cases hp : p = s.1 - 1
      · subst hp
        rw [up_self, up_self, ← hw, km_kad nl k4 (by omega) (by omega), ← a5]
        refine ⟨by rw [hw]; exact b1, by rw [hw]; exact b2, ⟨by rw [e0]; have := a3.1; omega, by rw [e0]; omega, fun j j0 j1 => ?_⟩, by rw [e0, a4]; omega, ?_⟩
        · rw [e0] at j1
          by_cases hj : j = τ 197 (21 * w)
          · subst hj
            rw [show 21 * w + 1 + τ 197 (21 * w) = 21 * w + (τ 197 (21 * w) + 1) by omega, en]
            exact hφ
          · rw [ej _ (by omega) (by omega)]
            exact a3.2.2 j j0 (by omega)
        · refine rk_add nl a4 (by rw [e0, a4]) (fun j j0 j1 => ej _ (by omega) (by omega)) ?_
          rw [← a4, show 21 * w + 1 + τ 197 (21 * w) = 21 * w + (τ 197 (21 * w) + 1) by omega, en]
      · rw [up_ne hp, up_ne hp]
        have l1 := a3.1
        have h0' : τ 197 (21 * (340 * e + p)) = υ 197 (21 * (340 * e + p)) := (ej _ (by omega) (by omega)).symm
        have h1' : ∀ j, 0 ≤ j → j < τ 197 (21 * (340 * e + p)) → τ 197 (21 * (340 * e + p) + 1 + j) = υ 197 (21 * (340 * e + p) + 1 + j) := fun j j0 j1 => (ej _ (by have := b3.2.1; omega) (by have := b3.2.1; omega)).symm
        exact ⟨b1, b2, RV_eq b3 h0' h1', h0'.symm.trans b4, (rk_eq h0' h1').symm.trans b5⟩
theorem rw_end {τ : jH} {e w v : Int} {c : Bool} {s : wS} (he : 0 ≤ e ∧ e ≤ 1) (R : RWD τ e s) (h0 : 1 ≤ s.1) (hw : w = 340 * e + (s.1 - 1)) (hc : s.1 ≤ 340) (hv : v = if c = true then 1 else τ 196 w) : RWD (ju τ 196 w v) e (wend c s) ∧ FMW τ (ju τ 196 w v) e := by
  obtain ⟨R1, R2⟩ := R
  refine ⟨⟨by rw [ju_row (by omega)]; exact R1, fun p p0 p1 => ?_⟩, ⟨fun d c1 c2 c3 c4 => ju_row c3, fun j hj => by rw [ju_row (by omega)], fun j hj => ⟨by rw [ju_row (by omega)], ju_ne2 (by omega)⟩, fun j hj => by rw [ju_row (by omega)]⟩⟩
  obtain ⟨b1, b2, b3, b4, b5⟩ := R2 p p0 p1
  rw [ju_row (by omega : (195 : Int) ≠ 196), ju_row (by omega : (197 : Int) ≠ 196), ju_row (by omega : (190 : Int) ≠ 196)]
  refine ⟨b1, ?_, b3, b4, b5⟩
  show _ = (if c = true then up s.2.2.2.1 (s.1 - 1) 1 else s.2.2.2.1) p
  by_cases hp : p = s.1 - 1
  · subst hp
    rw [← hw, ju_self, hv]
    split
    · rw [up_self]
    · rw [hw]
      exact b2
  · rw [ju_ne2 (by omega), b2]
    split
    · rw [up_ne hp]
    · rfl
