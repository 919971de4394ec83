/-! Rows with the same lines, with the same RULES besides -/
def LSM (ω ω' : Int → Int) : Prop := ∀ j, (j = 3 ∨ j = 4 ∨ (2597 ≤ j ∧ j < 7477)) → ω' j = ω j
theorem LSM.sln {ω ω' : Int → Int} (H : LSM ω ω') {e i : Int} (he : 0 ≤ e ∧ e ≤ 1) (hi : 0 ≤ i ∧ i < 40) (hl : ω (lA e i) ≤ 60) : SLN ω ω' e i := by
  have hh : ∀ j, 0 ≤ j → j ≤ 60 → ω' (lA e i + j) = ω (lA e i + j) := fun j a b => H _ (by
    unfold lA
    omega)
  have h0 : ω' (lA e i) = ω (lA e i) := by
    have := hh 0 (by omega) (by omega)
    rwa [Int.add_zero] at this
  refine ⟨h0, fun k k0 => ?_⟩
  unfold bt
  rw [h0]
  by_cases q : k < ω (lA e i)
  · rw [if_pos q, if_pos q]
    have := hh (1 + k) (by omega) (by omega)
    rwa [← Int.add_assoc] at this
  · rw [if_neg q, if_neg q]
theorem LSM.lin {ω ω' : Int → Int} (H : LSM ω ω') {σ : jH} {o e : Int} (he : 0 ≤ e ∧ e ≤ 1) (L : LOK ω e) (I : LIN σ o ω e) : LIN σ o ω' e := by
  have hc : ω' (3 + e) = ω (3 + e) := H _ (by omega)
  obtain ⟨L1, L2, L3⟩ := L
  obtain ⟨I1, I2⟩ := I
  refine ⟨I1.trans hc.symm, fun i a b => ?_⟩
  rw [hc] at b
  have S := H.sln he ⟨a, by omega⟩ (L3 i a b).2
  obtain ⟨i1, i2, i3, i4⟩ := I2 i a b
  refine ⟨i1.trans S.1.symm, fun k k0 k1 => ?_, by rw [S.run]; exact i3, by rw [S.dash]; exact i4⟩
  rw [S.1] at k1
  have := S.2 k k0
  unfold bt at this
  rw [S.1, if_pos k1, if_pos k1] at this
  rw [this]
  exact i2 k k0 k1
theorem LSM.lw {ω ω' : Int → Int} (H : LSM ω ω') {e : Int} (he : 0 ≤ e ∧ e ≤ 1) (L : LOK ω e) : LOK ω' e ∧ wW ω' e = wW ω e ∧ ω' (3 + e) = ω (3 + e) := by
  obtain ⟨L1, L2, L3⟩ := L
  have hc : ω' (3 + e) = ω (3 + e) := H _ (by omega)
  have hl : ∀ i j, 0 ≤ i → i < 40 → 0 ≤ j → j ≤ 60 → ω' (lA e i + j) = ω (lA e i + j) := fun i j a b c d => H _ (by
    unfold lA
    omega)
  have hl0 : ∀ i, 0 ≤ i → i < 40 → ω' (lA e i) = ω (lA e i) := fun i a b => by
    have := hl i 0 a b (by omega) (by omega)
    rwa [Int.add_zero] at this
  refine ⟨⟨by omega, by omega, fun i a b => ?_⟩, wW_eq2 L1 hc (fun i a b => ⟨hl0 i a (by omega), fun k k0 => ?_⟩), hc⟩
  · rw [hl0 i a (by omega)]
    exact L3 i a (by omega)
  · have l3 := L3 i a b
    unfold bt
    rw [hl0 i a (by omega)]
    by_cases q : k < ω (lA e i)
    · rw [if_pos q, if_pos q]
      have := hl i (1 + k) a (by omega) (by omega) (by omega)
      rwa [← Int.add_assoc] at this
    · rw [if_neg q, if_neg q]
/-- the same in all that the book is made of -/
def SAM (ω ω' : Int → Int) : Prop := (∀ e, 0 ≤ e → e ≤ 1 → wW ω' e = wW ω e ∧ LOK ω' e) ∧ (∀ x, 0 ≤ x → x < 26 → fo ω' x = fo ω x) ∧ ∀ x, 0 ≤ x → x < 26 → rnk ω' x = rnk ω x
section SA
variable {ω ω' : Int → Int} {σ : jH}
theorem SAM.of (W : OKW ω) (h : ∀ j, j < 7477 → ω' j = ω j) : SAM ω ω' := by
  have H : LSM ω ω' := fun j hj => h j (by omega)
  refine ⟨fun e a b => ⟨(H.lw ⟨a, b⟩ (W.L ⟨a, b⟩).1).2.1, (H.lw ⟨a, b⟩ (W.L ⟨a, b⟩).1).1⟩, fun x a b => ?_, fun x a b => h _ (by omega)⟩
  unfold fo
  rw [h _ (by omega)]
theorem SAM.okw (S : SAM ω ω') (W : OKW ω) : OKW ω' := by
  obtain ⟨S1, S2, S3⟩ := S
  obtain ⟨W0, W1, W2, W3, W4, W5⟩ := W
  refine ⟨(S1 0 (by omega) (by omega)).2, (S1 1 (by omega) (by omega)).2, fun x a b => by rw [S2 x a b]; exact W2 x a b, ⟨fun x a b => by rw [S3 x a b]; exact W3.1 x a b, fun x y a b a' b' q => W3.2 x y a b a' b' (by rw [S3 x a b, S3 y a' b'] at q; exact q)⟩, by rw [(S1 0 (by omega) (by omega)).1]; exact W4, by rw [(S1 1 (by omega) (by omega)).1]; exact W5⟩
theorem SAM.kmf (S : SAM ω ω') (K : Int) : km (fo ω') K = km (fo ω) K := hm_eq S.2.1 20 K
theorem SAM.kmr (S : SAM ω ω') (K : Int) : km (rnk ω') K = km (rnk ω) K := hm_eq S.2.2 20 K
theorem SAM.key (S : SAM ω ω') {e p : Int} (he : 0 ≤ e ∧ e ≤ 1) : KEY ω' e p = KEY ω e p := by
  unfold KEY
  rw [(S.1 e he.1 he.2).1, S.kmf]
theorem SAM.co (S : SAM ω ω') (v : Int) : CO ω' 2 0 v ↔ CO ω 2 0 v := by
  unfold CO
  constructor
  · rintro ⟨e, p, h1, h2, h3, h4, h5⟩
    have he : 0 ≤ e ∧ e ≤ 1 := by omega
    rw [(S.1 e he.1 he.2).1] at h3
    rw [S.key he] at h5
    exact ⟨e, p, h1, h2, h3, h4, h5⟩
  · rintro ⟨e, p, h1, h2, h3, h4, h5⟩
    have he : 0 ≤ e ∧ e ≤ 1 := by omega
    rw [← (S.1 e he.1 he.2).1] at h3
    rw [← S.key he] at h5
    exact ⟨e, p, h1, h2, h3, h4, h5⟩
theorem SAM.isd (S : SAM ω ω') : ISD ω' = ISD ω := by
  funext D
  unfold ISD
  have e1 : (∀ v, (∃ f, 0 ≤ f ∧ f < D.1 ∧ D.2.1 f = v) ↔ CO ω' 2 0 v) = (∀ v, (∃ f, 0 ≤ f ∧ f < D.1 ∧ D.2.1 f = v) ↔ CO ω 2 0 v) := propext ⟨fun h v => (h v).trans (S.co v), fun h v => (h v).trans (S.co v).symm⟩
  have e2 : (∀ e p, 0 ≤ e → e ≤ 1 → 0 ≤ p → p < (wW ω' e).1 → 0 ≤ D.2.2.1 e p ∧ D.2.2.1 e p < D.1 ∧ D.2.1 (D.2.2.1 e p) = KEY ω' e p) = (∀ e p, 0 ≤ e → e ≤ 1 → 0 ≤ p → p < (wW ω e).1 → 0 ≤ D.2.2.1 e p ∧ D.2.2.1 e p < D.1 ∧ D.2.1 (D.2.2.1 e p) = KEY ω e p) := propext ⟨fun h e p a b c d => by
    have := h e p a b c (by rw [(S.1 e a b).1]; exact d)
    rwa [S.key ⟨a, b⟩] at this, fun h e p a b c d => by
    have := h e p a b c (by rw [← (S.1 e a b).1]; exact d)
    rwa [S.key ⟨a, b⟩]⟩
  have e3 : (∀ i j, 0 ≤ i → i < j → j < D.1 → km (rnk ω') (D.2.1 (D.2.2.2 i)) < km (rnk ω') (D.2.1 (D.2.2.2 j))) = (∀ i j, 0 ≤ i → i < j → j < D.1 → km (rnk ω) (D.2.1 (D.2.2.2 i)) < km (rnk ω) (D.2.1 (D.2.2.2 j))) := propext ⟨fun h i j a b c => by
    have := h i j a b c
    rwa [S.kmr, S.kmr] at this, fun h i j a b c => by
    have := h i j a b c
    rwa [S.kmr, S.kmr]⟩
  rw [e1, e2, e3]
theorem SAM.dd (S : SAM ω ω') : dD ω' = dD ω := by
  unfold dD
  rw [S.isd]
theorem SAM.dall (S : SAM ω ω') : dn ω' = dn ω ∧ dF ω' = dF ω ∧ dw ω' = dw ω ∧ dO ω' = dO ω := by
  unfold dn
  refine ⟨by rw [S.dd], ?_, ?_, ?_⟩
  · funext f
    unfold dF
    rw [S.dd]
  · funext e p
    unfold dw
    rw [S.dd]
  · funext i
    unfold dO
    rw [S.dd]
theorem SAM.cdr (S : SAM ω ω') (H : CDR σ ω) : CDR σ ω' := by
  obtain ⟨d1, d2, d3, d4⟩ := S.dall
  unfold CDR at H ⊢
  rw [S.isd, S.dd, d1, d2, d3, d4]
  obtain ⟨h1, h2, h3, h4, h5, h6⟩ := H
  refine ⟨h1, h2, h3, h4, fun e a b => ?_, h6⟩
  obtain ⟨⟨c1, c2, c3, c4, c5⟩, k⟩ := h5 e a b
  rw [(S.1 e a b).1]
  exact ⟨⟨c1, c2, fun p x y => by rw [S.kmf]; exact c3 p x y, c4, c5⟩, k⟩
theorem SAM.rdr {τ : jH} (S : SAM ω ω') (H : RDR σ ω) (h190 : τ 190 = ω') (hf : ∀ c, 191 ≤ c → c ≤ 199 → τ c = σ c) (h10 : τ 189 10 = σ 189 10) : RDR τ ω' := by
  obtain ⟨d1, d2, d3, d4⟩ := S.dall
  unfold RDR at H ⊢
  rw [S.isd, S.dd, d1, d2, d3, d4]
  obtain ⟨h1, h2, h3, h4, h5, h6, h7, h8⟩ := H
  refine ⟨h1, h2, h190, by rw [h10]; exact h4, fun e a b => ?_, fun e p a b c d => ?_, fun f a b => by rw [hf 198 (by omega) (by omega)]; exact h7 f a b, fun i a b => by rw [hf 199 (by omega) (by omega)]; exact h8 i a b⟩
  · obtain ⟨r1, r2⟩ := h5 e a b
    rw [(S.1 e a b).1]
    refine ⟨by rw [hf 193 (by omega) (by omega)]; exact r1, fun p x y => ?_⟩
    rw [hf 195 (by omega) (by omega), hf 196 (by omega) (by omega), hf 197 (by omega) (by omega), h190, S.kmf]
    have := r2 p x y
    rwa [h3] at this
  · rw [hf 194 (by omega) (by omega)]
    rw [(S.1 e a b).1] at d
    exact h6 e p a b c d
end SA
