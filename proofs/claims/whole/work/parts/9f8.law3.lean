/-! The law: the tape, slots, images -/
theorem CFR.of3 {σ τ : jH} {ω : Int → Int} (C : CFR σ ω) (h : ∀ c, (3 ≤ c ∧ c ≤ 25) ∨ (97 ≤ c ∧ c ≤ 134) → τ c = σ c) : CFR τ ω := by
  refine ⟨C.1, IML_eq (fun c a b => h c (by omega)) C.2.1, fun q => ?_⟩
  rw [h 97 (by omega)] at q
  exact CDR_eq (fun c a b => h c (by omega)) (C.2.2 q)
theorem RFR.of3 {σ τ : jH} {ω : Int → Int} (R : RFR σ ω) (h : ∀ c, 190 ≤ c → c ≤ 199 → c ≠ 191 → c ≠ 192 → τ c = σ c) (h10 : τ 189 10 = σ 189 10) : RFR τ ω := by
  refine ⟨R.1, R.2.1, R.2.2.1, ?_⟩
  obtain ⟨r1, r2, r3, r4, r5, r6⟩ := R.2.2.2
  refine ⟨by rw [h 190 (by omega) (by omega) (by omega) (by omega)]; exact r1, by rw [h10]; exact r2, fun e a b => RWD_eq (r3 e a b) (h 190 (by omega) (by omega) (by omega) (by omega)) (h 193 (by omega) (by omega) (by omega) (by omega)) (h 195 (by omega) (by omega) (by omega) (by omega)) (h 196 (by omega) (by omega) (by omega) (by omega)) (h 197 (by omega) (by omega) (by omega) (by omega)), fun e p a b c d => by rw [h 194 (by omega) (by omega) (by omega) (by omega)]; exact r4 e p a b c d, fun f a b => by rw [h 198 (by omega) (by omega) (by omega) (by omega)]; exact r5 f a b, fun i a b => by rw [h 199 (by omega) (by omega) (by omega) (by omega)]; exact r6 i a b⟩
section L4
variable {l : Launch} {d : Nat} {σ τ υ : jH}
theorem byt_fed {t : Int → Int} {n : Int} (B : BYT t) (a b c e f : Int) : BYT (fedT n t (fdb a b c e f)) := fun j => by
  unfold fedT
  by_cases h : n ≤ j
  · rw [if_pos h]
    unfold fdb
    exact w8_q _
  · rw [if_neg h]
    exact B j
/-- where the tape alone changed -/
theorem tape_end {ω t m w x t' : Int → Int} {n n' : Int} {η : Int → Bool} {ψ : Int → Int → Int} (K : CORE ω t m w x η ψ) (C : CL σ ω n t m w x η ψ) (R : RL σ ω n t m w x η ψ) (A : AUX σ) (B : BYT t') (T1 : TPC τ n' t') (F1 : FRT σ τ) (T2 : TPR υ n' t') (F2 : FTR τ υ) : INV υ := by
  have fr : ∀ c, c ≠ 1 → c ≠ 2 → c ≠ 189 → c ≠ 202 → c ≠ 203 → υ c = σ c := fun c a b e f g => (F2.1 c e f g).trans (F1.1 c a b)
  have f1 : ∀ j, j ≠ 1 → υ 1 j = σ 1 j := fun j h => by rw [F2.1 1 (by omega) (by omega) (by omega)]; exact F1.2 j h
  have f9 : ∀ j, j ≠ 15 → υ 189 j = σ 189 j := fun j h => by rw [F2.2 j h, F1.1 189 (by omega) (by omega)]
  have T1' : TPC υ n' t' := tpc_fr T1 (by rw [F2.1 1 (by omega) (by omega) (by omega)]) (F2.1 2 (by omega) (by omega) (by omega))
  refine ⟨ω, n', t', m, w, x, η, ψ, ⟨K.1, K.2.1, B, K.2.2.2⟩, C.of (C.1.of1 (fun c a b => fr c (by omega) (by omega) (by omega) (by omega) (by omega))) T1' (fun c h => fr c (by omega) (by omega) (by omega) (by omega) (by omega)), R.of T2 (fun c h => fr c (by omega) (by omega) (by omega) (by omega) (by omega)) (f9 10 (by omega)), A.of ⟨⟨?_, ?_⟩, ⟨?_, ?_, ?_⟩, ⟨?_, ?_⟩, ?_, ⟨?_, ?_, ?_, ?_⟩, ?_, ?_⟩ ⟨⟨?_, ?_⟩, ⟨?_, ?_, ?_⟩, ⟨?_, ?_⟩, ⟨?_, ?_⟩, ⟨?_, ?_⟩, ?_, ?_⟩⟩
  all_goals first | (rw [f1 _ (by omega)]; done) | (rw [f9 _ (by omega)]; done) | rw [fr _ (by omega) (by omega) (by omega) (by omega) (by omega)]
theorem k_feed (hd : 70 ≤ d) (I : INV σ) (a b c e f : Int) : PR l d m_WordPlaces_feed m_Model_feed [vR 1, vI a, vI b, vI c, vI e, vI f] [vR 189, vI a, vI b, vI c, vI e, vI f] σ := by
  obtain ⟨ω, n, t, m, w, x, η, ψ, K, C, R, A⟩ := I
  refine cN_w (c_feed C.2.2.1 a b c e f) (by omega) (fun z τ h => ?_)
  obtain ⟨hz, T1, F1⟩ := h
  have Rτ := R.to (τ := τ) (fun c hc => F1.1 c (by omega) (by omega))
  refine cN_w (c_Model_feed Rτ.2.2.1 a b c e f) (by omega) (fun y υ h2 => ?_)
  obtain ⟨hy, T2, F2⟩ := h2
  exact ⟨hy.trans hz.symm, tape_end K C R A (byt_fed K.2.2.1 a b c e f) T1 F1 T2 F2⟩
theorem k_end (hd : 70 ≤ d) (I : INV σ) (a : Int) : PR l d m_WordPlaces_end m_Model_end [vR 1, vI a] [vR 189, vI a] σ := by
  obtain ⟨ω, n, t, m, w, x, η, ψ, K, C, R, A⟩ := I
  refine cN_w (c_end C.2.2.1 a) (by omega) (fun z τ h => ?_)
  obtain ⟨hz, T1, F1⟩ := h
  have Rτ := R.to (τ := τ) (fun c hc => F1.1 c (by omega) (by omega))
  refine cN_w (c_Model_end Rτ.2.2.1 a) (by omega) (fun y υ h2 => ?_)
  obtain ⟨hy, T2, F2⟩ := h2
  exact ⟨hy.trans hz.symm, tape_end K C R A K.2.2.1 T1 F1 T2 F2⟩
/-- where the slots alone changed -/
theorem slot_end {ω t m w x m' w' x' : Int → Int} {n : Int} {η : Int → Bool} {ψ : Int → Int → Int} (K : CORE ω t m w x η ψ) (C : CL σ ω n t m w x η ψ) (R : RL σ ω n t m w x η ψ) (A : AUX σ) (O : SLO m' w' x') (S1 : SLC τ m' w' x') (F1 : FRS4 σ τ) (S2 : SLR υ m' w' x') (F2 : FRR4 τ υ) : INV υ := by
  have fr : ∀ c, (c < 185 ∨ 187 < c) → (c < 229 ∨ 232 < c) → υ c = σ c := fun c a b => (F2 c (by omega) (by omega) (by omega) (by omega)).trans (F1 c (by omega) (by omega) (by omega))
  obtain ⟨r1, r2, r3, r4, r5⟩ := R
  refine ⟨ω, n, t, m', w', x', η, ψ, ⟨K.1, K.2.1, K.2.2.1, O, K.2.2.2.2⟩, (C.sl S1 (fun c a b e => F1 c a b e)).to (fun c hc => F2 c (by omega) (by omega) (by omega) (by omega)), ⟨r1.of2 (fun c a b => fr c (by omega) (by omega)) (by rw [fr 189 (by omega) (by omega)]), fun l a b => by rw [fr 200 (by omega) (by omega)]; exact r2 l a b, tpr_fr r3 (by rw [fr 189 (by omega) (by omega)]) (fr 202 (by omega) (by omega)), S2, fun k a b => by rw [fr 191 (by omega) (by omega), fr 192 (by omega) (by omega)]; exact r5 k a b⟩, A.of ⟨⟨?_, ?_⟩, ⟨?_, ?_, ?_⟩, ⟨?_, ?_⟩, ?_, ⟨?_, ?_, ?_, ?_⟩, ?_, ?_⟩ ⟨⟨?_, ?_⟩, ⟨?_, ?_, ?_⟩, ⟨?_, ?_⟩, ⟨?_, ?_⟩, ⟨?_, ?_⟩, ?_, ?_⟩⟩
  all_goals rw [fr _ (by omega) (by omega)]
theorem k_row (hd : 70 ≤ d) (I : INV σ) (s v n0 : Int) : PR l d m_WordPlaces_row m_Model_row [vR 1, vI s, vI v, vI n0] [vR 189, vI s, vI v, vI n0] σ := by
  obtain ⟨ω, n, t, m, w, x, η, ψ, K, C, R, A⟩ := I
  refine cN_w (c_row K.2.2.2.1 C.2.2.2.1 s v n0) (by omega) (fun z τ h => ?_)
  obtain ⟨hz, a1, a2, F1⟩ := h
  have Rτ := R.to (τ := τ) (fun c hc => F1 c (by omega) (by omega) (by omega))
  refine cN_w (c_Model_row K.2.2.2.1 Rτ.2.2.2.1 s v n0) (by omega) (fun y υ h2 => ?_)
  obtain ⟨hy, b1, b2, F2⟩ := h2
  refine ⟨hy.trans hz.symm, ?_⟩
  by_cases q : s_row s v n0 = 0
  · exact slot_end K C R A (slo_row K.2.2.2.1 q) (a1 q) F1 (b1 q) F2
  · exact slot_end K C R A K.2.2.2.1 (a2 q) F1 (b2 q) F2
theorem k_write (hd : 70 ≤ d) (I : INV σ) (s i v : Int) (hv : r64 v) : PR l d m_WordPlaces_write m_Model_write [vR 1, vI s, vI i, vL v] [vR 189, vI s, vI i, vL v] σ := by
  obtain ⟨ω, n, t, m, w, x, η, ψ, K, C, R, A⟩ := I
  refine cN_w (c_write K.2.2.2.1 C.2.2.2.1 s i v) (by omega) (fun z τ h => ?_)
  obtain ⟨hz, a1, a2, F1⟩ := h
  have Rτ := R.to (τ := τ) (fun c hc => F1 c (by omega) (by omega) (by omega))
  refine cN_w (c_Model_write K.2.2.2.1 Rτ.2.2.2.1 s i v hv) (by omega) (fun y υ h2 => ?_)
  obtain ⟨hy, b1, b2, F2⟩ := h2
  refine ⟨hy.trans hz.symm, ?_⟩
  by_cases q : s_write m s i = 0
  · exact slot_end K C R A (slo_write K.2.2.2.1 hv q) (a1 q) F1 (b1 q) F2
  · exact slot_end K C R A K.2.2.2.1 (a2 q) F1 (b2 q) F2
theorem k_paste (hd : 70 ≤ d) (I : INV σ) (s i s2 k n0 : Int) (hr : r32 i ∧ r32 k ∧ r32 n0) : PR l d m_WordPlaces_paste m_Model_paste [vR 1, vI s, vI i, vI s2, vI k, vI n0] [vR 189, vI s, vI i, vI s2, vI k, vI n0] σ := by
  obtain ⟨ω, n, t, m, w, x, η, ψ, K, C, R, A⟩ := I
  refine cN_w (c_paste K.2.2.2.1 C.2.2.2.1 s i s2 k n0) (by omega) (fun z τ h => ?_)
  obtain ⟨hz, a1, a2, F1⟩ := h
  have Rτ := R.to (τ := τ) (fun c hc => F1 c (by omega) (by omega) (by omega))
  refine cN_w (c_Model_paste K.2.2.2.1 Rτ.2.2.2.1 s i s2 k n0 hr) (by omega) (fun y υ h2 => ?_)
  obtain ⟨hy, b1, b2, F2⟩ := h2
  refine ⟨hy.trans hz.symm, ?_⟩
  by_cases q : s_paste m w s i s2 k n0 = 0
  · exact slot_end K C R A (slo_paste K.2.2.2.1 q) (a1 q) F1 (b1 q) F2
  · exact slot_end K C R A K.2.2.2.1 (a2 q) F1 (b2 q) F2
theorem k_keep (hd : 70 ≤ d) (I : INV σ) (k : Int) : PR l d m_WordPlaces_keep m_Model_keep [vR 1, vI k] [vR 189, vI k] σ := by
  have I0 := I
  obtain ⟨ω, n, t, m, w, x, η, ψ, K, C, R, A⟩ := I
  refine cN_w (c_keep K.1 C.2.1 C.2.2.2.2.1) (by omega) (fun z τ h => ?_)
  obtain ⟨hz, a1, a2⟩ := h
  by_cases hk : 0 ≤ k ∧ k ≤ 2
  · obtain ⟨K1, F1⟩ := a2 hk
    have Rτ := R.to (τ := τ) (fun c hc => F1 c (by omega))
    refine cN_w (c_Model_keep Rτ.1.2.2.2.1 Rτ.2.2.2.2) (by omega) (fun y υ h2 => ?_)
    obtain ⟨hy, b1, b2⟩ := h2
    obtain ⟨K2, F2⟩ := b2 hk
    have fr : ∀ c, (c < 27 ∨ 96 < c) → c ≠ 191 → c ≠ 192 → υ c = σ c := fun c a b e => (F2 c b e).trans (F1 c a)
    obtain ⟨c1, c2, c3, c4, c5, c6, c7, c8⟩ := C
    obtain ⟨r1, r2, r3, r4, r5⟩ := R
    refine ⟨hy.trans hz.symm, ω, n, t, m, w, x, up η k true, up ψ k ω, ⟨K.1, K.2.1, K.2.2.1, K.2.2.2.1, fun j a b q => ?_⟩, ⟨?_, IMG_eq (fun c a b => fr c (by omega) (by omega) (by omega)) c2, tpc_fr c3 (by rw [fr 1 (by omega) (by omega) (by omega)]) (fr 2 (by omega) (by omega) (by omega)), fun s a b => by rw [fr 187 (by omega) (by omega) (by omega), fr 186 (by omega) (by omega) (by omega), fr 185 (by omega) (by omega) (by omega)]; exact c4 s a b, KPC_eq (fun c a b => F2 c (by omega) (by omega)) K1, c6.eq (fun c a b => fr c (by omega) (by omega) (by omega)), ?_, ?_⟩, ⟨r1.of3 (fun c a b e f => fr c (by omega) e f) (by rw [fr 189 (by omega) (by omega) (by omega)]), fun l a b => by rw [fr 200 (by omega) (by omega) (by omega)]; exact r2 l a b, tpr_fr r3 (by rw [fr 189 (by omega) (by omega) (by omega)]) (fr 202 (by omega) (by omega) (by omega)), fun s a b => by rw [fr 229 (by omega) (by omega) (by omega), fr 230 (by omega) (by omega) (by omega), fr 231 (by omega) (by omega) (by omega)]; exact r4 s a b, K2⟩, ?_⟩
    · unfold up at q ⊢
      by_cases e : j = k
      · rw [if_pos e]
        exact K.2.1
      · rw [if_neg e] at q ⊢
        exact K.2.2.2.2 j a b q
    · exact c1.of3 (fun c h => fr c (by omega) (by omega) (by omega))
    · unfold LKD at c7 ⊢
      rw [fr 135 (by omega) (by omega) (by omega), fr 136 (by omega) (by omega) (by omega)]
      exact c7
    · unfold LKH at c8 ⊢
      rw [fr 135 (by omega) (by omega) (by omega)]
      exact c8
    · refine A.of ⟨⟨?_, ?_⟩, ⟨?_, ?_, ?_⟩, ⟨?_, ?_⟩, ?_, ⟨?_, ?_, ?_, ?_⟩, ?_, ?_⟩ ⟨⟨?_, ?_⟩, ⟨?_, ?_, ?_⟩, ⟨?_, ?_⟩, ⟨?_, ?_⟩, ⟨?_, ?_⟩, ?_, ?_⟩
      all_goals rw [fr _ (by omega) (by omega) (by omega)]
  · have e1 := a1 hk
    subst e1
    refine cN_w (c_Model_keep R.1.2.2.2.1 R.2.2.2.2) (by omega) (fun y υ h2 => ?_)
    obtain ⟨hy, b1, b2⟩ := h2
    have e2 := b1 hk
    subst e2
    exact ⟨hy.trans hz.symm, I0⟩
/-- where a row came in place of another one -/
theorem row_end {ω ω' t m w x : Int → Int} {n n' : Int} {η : Int → Bool} {ψ : Int → Int → Int} (K : CORE ω t m w x η ψ) (C : CL σ ω n t m w x η ψ) (R : RL σ ω n t m w x η ψ) (A : AUX σ) (O : OMG ω') (Z : OUT ω') (C1 : CFR τ ω') (I1 : IMG τ 3 ω') (T1 : TPC τ n' t) (f1 : ∀ j, j ≠ 1 → τ 1 j = σ 1 j) (F1 : ∀ c, c ≠ 1 → c ≠ 188 → (c < 3 ∨ 25 < c) → c ≠ 97 → c ≠ 135 → τ c = σ c) (z1 : τ 135 0 = 0) (zj : ∀ j, j ≠ 0 → τ 135 j = σ 135 j)
    (R2 : RFR υ ω') (T2 : TPR υ n' t) (F2 : ∀ c, (c < 189 ∨ c = 191 ∨ c = 192 ∨ 199 < c) → c ≠ 205 → c ≠ 206 → υ c = τ c) (f2 : ∀ j, j ≠ 10 → j ≠ 15 → υ 189 j = τ 189 j) : INV υ := by
  have CC : CL τ ω' n' t m w x η ψ := C.new C1 I1 T1 (fun c h => F1 c (by omega) (by omega) (by omega) (by omega) (by omega)) (C.2.2.2.2.2.1.eq (fun c a b => F1 c (by omega) (by omega) (by omega) (by omega) (by omega))) z1 zj
  have fr : ∀ c, c ≠ 1 → c ≠ 188 → (c < 3 ∨ 25 < c) → c ≠ 97 → c ≠ 135 → (c < 189 ∨ c = 191 ∨ c = 192 ∨ 199 < c) → c ≠ 205 → c ≠ 206 → υ c = σ c := fun c a b e f g h i j => (F2 c h i j).trans (F1 c a b e f g)
  have g1 : ∀ j, j ≠ 1 → υ 1 j = σ 1 j := fun j h => by rw [F2 1 (by omega) (by omega) (by omega)]; exact f1 j h
  have g9 : ∀ j, j ≠ 10 → j ≠ 15 → υ 189 j = σ 189 j := fun j h h2 => by rw [f2 j h h2, F1 189 (by omega) (by omega) (by omega) (by omega) (by omega)]
  refine ⟨ω', n', t, m, w, x, η, ψ, ⟨O, Z, K.2.2⟩, CC.to (fun c hc => F2 c (by omega) (by omega) (by omega)), R.new R2 T2 (fun c h => fr c (by omega) (by omega) (by omega) (by omega) (by omega) (by omega) (by omega) (by omega)), A.of ⟨⟨?_, ?_⟩, ⟨?_, ?_, ?_⟩, ⟨?_, ?_⟩, ?_, ⟨?_, ?_, ?_, ?_⟩, ?_, ?_⟩ ⟨⟨?_, ?_⟩, ⟨?_, ?_, ?_⟩, ⟨?_, ?_⟩, ⟨?_, ?_⟩, ⟨?_, ?_⟩, ?_, ?_⟩⟩
  all_goals first | (rw [g1 _ (by omega)]; done) | (rw [g9 _ (by omega) (by omega)]; done) | rw [fr _ (by omega) (by omega) (by omega) (by omega) (by omega) (by omega) (by omega) (by omega)]
theorem k_back (hd : 70 ≤ d) (I : INV σ) (k : Int) : PR l d m_WordPlaces_back m_Model_back [vR 1, vI k] [vR 189, vI k] σ := by
  have I0 := I
  obtain ⟨ω, n, t, m, w, x, η, ψ, K, C, R, A⟩ := I
  refine cN_w (c_back C.2.1.2.2.2 C.2.2.2.2.1) (by omega) (fun z τ h => ?_)
  obtain ⟨hz, a1, a2⟩ := h
  have ho : ∀ s : jH, s 190 = ω → η k = true → 0 ≤ k → k ≤ 2 → OKW (ψ k) ∧ ∀ j, (j < 0 ∨ 32677 ≤ j) → ψ k j = s 190 j := fun s hs q a b => ⟨((C.2.2.2.2.1 k a b).2.2 q).2.1, fun j hj => by rw [hs, K.2.2.2.2 k a b q j hj, K.2.1 j hj]⟩
  by_cases q : s_back η k = 0
  · obtain ⟨I1, C1, F1, ⟨z97, z135⟩, zj⟩ := a2 q
    have kk : (0 ≤ k ∧ k ≤ 2) ∧ η k = true := by
      unfold s_back at q
      by_cases a : 0 ≤ k ∧ k ≤ 2
      · rw [if_pos a] at q
        by_cases b : η k = true
        · exact ⟨a, b⟩
        · rw [if_neg b] at q
          omega
      · rw [if_neg a] at q
        omega
    have Rτ := R.to (τ := τ) (fun c hc => F1 c (by omega) (by omega) (by omega))
    refine cN_w (c_Model_back Rτ.2.1 Rτ.2.2.2.2 (ho τ Rτ.1.2.2.2.1)) (by omega) (fun y υ h2 => ?_)
    obtain ⟨hy, b1, b2⟩ := h2
    obtain ⟨R2, F2, f2⟩ := b2 q
    refine ⟨hy.trans hz.symm, row_end K C R A ((C.2.2.2.2.1 k kk.1.1 kk.1.2).2.2 kk.2).2 (K.2.2.2.2 k kk.1.1 kk.1.2 kk.2) C1 I1 (tpc_fr C.2.2.1 (by rw [F1 1 (by omega) (by omega) (by omega)]) (F1 2 (by omega) (by omega) (by omega))) (fun j _ => by rw [F1 1 (by omega) (by omega) (by omega)]) (fun c a b e f g => F1 c (by omega) (by omega) (by omega)) z135 (fun j h => (zj j h).2) R2 (tpr_fr Rτ.2.2.1 (f2 15 (by omega)) (F2 202 (by omega) (by omega))) (fun c a b e => F2 c a b) (fun j a b => f2 j a)⟩
  · have e1 := a1 q
    subst e1
    refine cN_w (c_Model_back R.2.1 R.2.2.2.2 (ho _ R.1.2.2.2.1)) (by omega) (fun y υ h2 => ?_)
    obtain ⟨hy, b1, b2⟩ := h2
    have e2 := b1 q
    subst e2
    exact ⟨hy.trans hz.symm, I0⟩
/-- where a line is laid, or not -/
theorem lay_end {ω t m w x t0 : Int → Int} {n n' n0 e i v z y : Int} {η : Int → Bool} {ψ : Int → Int → Int} {ρ : jH} (K : CORE ω t m w x η ψ) (C : CL σ ω n t m w x η ψ) (R : RL σ ω n t m w x η ψ) (A : AUX σ) (Y : s_lf ω e i n0 t0 = 0 → LYE ω e i n0) (h : ADL ρ τ ω e i n0 t0 v z) (hρ : ∀ c, c ≠ 1 → c ≠ 188 → ρ c = σ c) (hj : ∀ j, j ≠ 1 → ρ 1 j = σ 1 j) (T1 : TPC ρ n' t) (h2 : ADR υ ω e i n0 t0 v y) (F2 : FL2 τ υ) (T2 : TPR υ n' t) : y = z ∧ INV υ := by
  rcases h with ⟨s0, hz, C1, F, ⟨z97, z135⟩, zj⟩ | ⟨s0, hz, e1⟩
  · rcases h2 with ⟨_, hy, R2⟩ | ⟨s1, _⟩
    · have Y := Y s0
      have IM := img_lay Y K.1 (IMG_eq (fun c a b => hρ c (by omega) (by omega)) C.2.1 : IMG ρ 3 ω) C1 F
      refine ⟨hy.trans hz.symm, row_end K C R A IM.2 (lay_out Y K.2.1) C1 IM.1 (tpc_fr T1 (by rw [F 1 (by omega) (by omega) (by omega)]) (F 2 (by omega) (by omega) (by omega))) (fun j q => by rw [F 1 (by omega) (by omega) (by omega)]; exact hj j q) (fun c a b f g k => by rw [F c (by omega) g k, hρ c a b]) z135 (fun j q => by rw [(zj j q).2, hρ 135 (by omega) (by omega)]) R2 T2 (fun c a b f => F2.1 c a b f) (fun j a b => F2.2 j a b)⟩
    · exact absurd s0 s1
  · rcases h2 with ⟨s1, _⟩ | ⟨_, hy, R2⟩
    · exact absurd s1 s0
    · subst e1
      have fr : ∀ c, c ≠ 1 → c ≠ 188 → (c < 189 ∨ c = 191 ∨ c = 192 ∨ 199 < c) → c ≠ 205 → c ≠ 206 → υ c = σ c := fun c a b h i j => (F2.1 c h i j).trans (hρ c a b)
      have g1 : ∀ j, j ≠ 1 → υ 1 j = σ 1 j := fun j h => by rw [F2.1 1 (by omega) (by omega) (by omega)]; exact hj j h
      have g9 : ∀ j, j ≠ 10 → j ≠ 15 → υ 189 j = σ 189 j := fun j h h2 => by rw [F2.2 j h h2, hρ 189 (by omega) (by omega)]
      refine ⟨hy.trans hz.symm, ω, n', t, m, w, x, η, ψ, K, (C.of (C.1.of1 (fun c a b => hρ c (by omega) (by omega))) T1 (fun c h => hρ c (by omega) (by omega))).to (fun c hc => F2.1 c (by omega) (by omega) (by omega)), R.new R2 T2 (fun c h => fr c (by omega) (by omega) (by omega) (by omega) (by omega)), A.of ⟨⟨?_, ?_⟩, ⟨?_, ?_, ?_⟩, ⟨?_, ?_⟩, ?_, ⟨?_, ?_, ?_, ?_⟩, ?_, ?_⟩ ⟨⟨?_, ?_⟩, ⟨?_, ?_, ?_⟩, ⟨?_, ?_⟩, ⟨?_, ?_⟩, ⟨?_, ?_⟩, ?_, ?_⟩⟩
      all_goals first | (rw [g1 _ (by omega)]; done) | (rw [g9 _ (by omega) (by omega)]; done) | rw [fr _ (by omega) (by omega) (by omega) (by omega) (by omega)]
theorem adl_hi {ω t0 : Int → Int} {n0 e i v z : Int} {ρ : jH} (h : ADL ρ τ ω e i n0 t0 v z) : ∀ c, 189 ≤ c → τ c = ρ c := fun c hc => by
  rcases h with ⟨_, _, _, F, _⟩ | ⟨_, _, e1⟩
  · exact F c (by omega) (by omega) (by omega)
  · rw [e1]
theorem k_line (hd : 70 ≤ d) (I : INV σ) (e : Int) : PR l d m_WordPlaces_line m_Model_line [vR 1, vI e] [vR 189, vI e] σ := by
  have I0 := I
  obtain ⟨ω, n, t, m, w, x, η, ψ, K, C, R, A⟩ := I
  refine cN_w (c_line C.1 C.2.2.1) (by omega) (fun z τ h => ?_)
  rcases h with ⟨he, h⟩ | ⟨he, hz, e1⟩
  · have Rτ := R.to (τ := τ) (fun c hc => by rw [adl_hi h c hc, ju_row (by omega)])
    refine cN_w (c_Model_line (e := e) Rτ.1 Rτ.2.1 Rτ.2.2.1) (by omega) (fun y υ h2 => ?_)
    rcases h2 with ⟨_, h2, F2, f15⟩ | ⟨x1, _⟩
    · have L := (C.1.1.L he).1
      exact lay_end K C R A (fun s0 => ⟨he, L, ⟨L.1, by omega, (s_lf_0.mp s0).2.1⟩, C.2.2.1.2.1.1, (s_lf_0.mp s0).1.1⟩) h (fun c a b => ju_row a) (fun j q => ju_ne2 q) (tpc_0 ju_self) h2 F2 (tpr_0 f15)
    · exact absurd he x1
  · subst e1
    refine cN_w (c_Model_line (e := e) R.1 R.2.1 R.2.2.1) (by omega) (fun y υ h2 => ?_)
    rcases h2 with ⟨x1, _⟩ | ⟨_, hy, e2⟩
    · exact absurd x1 he
    · subst e2
      exact ⟨hy.trans hz.symm, I0⟩
theorem k_right (hd : 70 ≤ d) (I : INV σ) (e i : Int) : PR l d m_WordPlaces_right m_Model_right [vR 1, vI e, vI i] [vR 189, vI e, vI i] σ := by
  have I0 := I
  obtain ⟨ω, n, t, m, w, x, η, ψ, K, C, R, A⟩ := I
  refine cN_w (c_right C.1 C.2.2.1) (by omega) (fun z τ h => ?_)
  rcases h with ⟨he, h⟩ | ⟨he, hz, e1⟩
  · have Rτ := R.to (τ := τ) (fun c hc => by rw [adl_hi h c hc, ju_row (by omega)])
    refine cN_w (c_Model_right (e := e) (i := i) Rτ.1 Rτ.2.1 Rτ.2.2.1) (by omega) (fun y υ h2 => ?_)
    rcases h2 with ⟨_, h2, F2, f15⟩ | ⟨x1, _⟩
    · have L := (C.1.1.L he.1).1
      exact lay_end K C R A (fun s0 => ⟨he.1, L, ⟨he.2.1, by omega, (s_lf_0.mp s0).2.1⟩, C.2.2.1.2.1.1, (s_lf_0.mp s0).1.1⟩) h (fun c a b => ju_row a) (fun j q => ju_ne2 q) (tpc_0 ju_self) h2 F2 (tpr_0 f15)
    · exact absurd he x1
  · subst e1
    refine cN_w (c_Model_right (e := e) (i := i) R.1 R.2.1 R.2.2.1) (by omega) (fun y υ h2 => ?_)
    rcases h2 with ⟨x1, _⟩ | ⟨_, hy, e2⟩
    · exact absurd x1 he
    · subst e2
      exact ⟨hy.trans hz.symm, I0⟩
theorem k_lineOf (hd : 70 ≤ d) (I : INV σ) (e s : Int) : PR l d m_WordPlaces_lineOf m_Model_lineOf [vR 1, vI e, vI s] [vR 189, vI e, vI s] σ := by
  have I0 := I
  obtain ⟨ω, n, t, m, w, x, η, ψ, K, C, R, A⟩ := I
  have same : ∀ z : Int, (∀ y υ, LOR σ υ ω e s m w x y → y = z ∧ υ = σ) → cN l d m_Model_lineOf [vR 189, vI e, vI s] gW σ (fun y υ => y = z ∧ INV υ) := fun z hz => cN_w (c_Model_lineOf (e := e) (s := s) R.1 R.2.1 K.2.2.2.1 R.2.2.2.1) (by omega) (fun y υ h => by
    obtain ⟨a, b⟩ := hz y υ h
    rw [b]
    exact ⟨a, I0⟩)
  refine cN_w (c_lineOf (e := e) (s := s) C.1 K.2.2.2.1 C.2.2.2.1) (by omega) (fun z τ h => ?_)
  rcases h with ⟨q, hz, e1⟩ | ⟨q, ⟨q2, hz, e1⟩ | ⟨q2, q3, hz, e1⟩ | ⟨q2, q3, ρ, hρ, h⟩⟩
  · rw [e1]
    refine same z (fun y υ h => ?_)
    rcases h with ⟨_, hy, e2⟩ | ⟨q', _⟩
    · exact ⟨hy.trans hz.symm, e2⟩
    · exact absurd q' q
  · rw [e1]
    refine same z (fun y υ h => ?_)
    rcases h with ⟨q', _⟩ | ⟨_, ⟨_, hy, e2⟩ | ⟨q', _⟩ | ⟨q', _⟩⟩
    · exact absurd q q'
    · exact ⟨hy.trans hz.symm, e2⟩
    · exact absurd q2 q'
    · exact absurd q2 q'
  · rw [e1]
    refine same z (fun y υ h => ?_)
    rcases h with ⟨q', _⟩ | ⟨_, ⟨q', _⟩ | ⟨_, _, hy, e2⟩ | ⟨_, q', _⟩⟩
    · exact absurd q q'
    · exact absurd q' q2
    · exact ⟨hy.trans hz.symm, e2⟩
    · exact absurd q' q3
  · have Rτ := R.to (τ := τ) (fun c hc => by rw [adl_hi h c hc, hρ c (by omega)])
    refine cN_w (c_Model_lineOf (e := e) (s := s) Rτ.1 Rτ.2.1 K.2.2.2.1 Rτ.2.2.2.1) (by omega) (fun y υ h2 => ?_)
    rcases h2 with ⟨q', _⟩ | ⟨_, ⟨q', _⟩ | ⟨_, q', _⟩ | ⟨_, _, h2, F2, f15⟩⟩
    · exact absurd q q'
    · exact absurd q' q2
    · exact absurd q3 q'
    · have L := (C.1.1.L q.1).1
      have o := K.2.2.2.1 s q.2.1 q.2.2
      exact lay_end K C R A (fun s0 => ⟨q.1, L, ⟨L.1, by omega, (s_lf_0.mp s0).2.1⟩, by omega, (s_lf_0.mp s0).1.1⟩) h (fun c a b => hρ c b) (fun j _ => by rw [hρ 1 (by omega)]) (tpc_fr C.2.2.1 (by rw [hρ 1 (by omega)]) (hρ 2 (by omega))) h2 F2 (tpr_fr Rτ.2.2.1 f15 (F2.1 202 (by omega) (by omega) (by omega)))
end L4
