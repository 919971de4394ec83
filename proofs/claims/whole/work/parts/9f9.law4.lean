/-! The law: rules, asks, shares, slips, ranks, beginnings, pages -/
section L5
variable {l : Launch} {d : Nat} {σ τ υ : jH}
theorem aux_flt (A : AUX σ) (h1 : ∀ j, 2 ≤ j → υ 1 j = σ 1 j) (h2 : ∀ c, 180 ≤ c → c ≤ 183 → υ c = σ c) (h3 : υ 157 9 = σ 157 9) (h4 : ∀ c, 176 ≤ c → c ≤ 178 → υ c = σ c) (k1 : ∀ j, 33 ≤ j → υ 189 j = σ 189 j) (k2 : ∀ c, 219 ≤ c → c ≤ 228 → υ c = σ c) (f1 : υ 140 6 = υ 189 22) (f2 : υ 140 7 = υ 189 23) : AUX υ := by
  obtain ⟨⟨N1, e1, a1, b1⟩, ⟨N2, e2, g2, a2, b2⟩, ⟨F3, N3, a3, b3⟩, ⟨p4, N4, a4, b4, c4⟩, ⟨N5, e5, g5, e6, a5, b5⟩, q1, q2⟩ := A
  exact ⟨⟨N1, e1, shc_fr a1 (h1 _ (by omega)) (h2 _ (by omega) (by omega)), shr_fr b1 (k1 _ (by omega)) (k2 _ (by omega) (by omega))⟩, ⟨N2, e2, g2, rkc_fr a2 (h1 _ (by omega)) (h2 _ (by omega) (by omega)) (h2 _ (by omega) (by omega)), rkr_fr b2 (k1 _ (by omega)) (k2 _ (by omega) (by omega)) (k2 _ (by omega) (by omega))⟩, ⟨F3, N3, bgc_fr a3 (h1 _ (by omega)) (h1 _ (by omega)), bgq_fr b3 (k1 _ (by omega)) (k2 _ (by omega) (by omega))⟩, ⟨p4, N4, pgc_fr a4 (h2 _ (by omega) (by omega)), pgq_fr b4 (k1 _ (by omega)) (k2 _ (by omega) (by omega)), c4⟩, ⟨N5, e5, g5, e6, anc_fr a5 h3 (h4 _ (by omega) (by omega)) (h4 _ (by omega) (by omega)) (h4 _ (by omega) (by omega)), anr_fr b5 (k1 _ (by omega)) (k2 _ (by omega) (by omega))⟩, f1, f2⟩
theorem k_rules (hd : 70 ≤ d) (I : INV σ) : PR l d m_WordPlaces_rules m_Model_rules [vR 1] [vR 189] σ := by
  obtain ⟨ω, n, t, m, w, x, η, ψ, K, C, R, A⟩ := I
  refine cN_w (c_WordPlaces_rules C.2.2.1 (tp_of C.2.2.1 K.2.2.1) C.2.2.2.2.2.1 K.1 C.2.1) (by omega) (fun z τ h => ?_)
  have hok := h.ok
  obtain ⟨F1, B1, ⟨t11, g1, gz⟩, h⟩ := h
  have Rτ := R.to (τ := τ) (fun c hc => F1 c (by omega) (by omega) (by omega) (by omega) (by omega) (by omega))
  refine cN_w (c_Model_rules Rτ.2.2.1.1 (tp2_of Rτ.2.2.1 K.2.2.1) Rτ.1 K.1 Rτ.2.1 hok) (by omega) (fun y υ h2 => ?_)
  obtain ⟨F2, ⟨f15, g2⟩, h2⟩ := h2
  have fr : ∀ c, c ≠ 1 → c ≠ 140 → c ≠ 97 → c ≠ 135 → (c < 3 ∨ 25 < c) → (c < 142 ∨ 156 < c) → (c < 189 ∨ c = 191 ∨ c = 192 ∨ 199 < c) → c ≠ 204 → υ c = σ c := fun c a b e f g i j k => (F2 c j k).trans (F1 c a b e f g i)
  have ax : υ 140 6 = υ 189 22 → υ 140 7 = υ 189 23 → AUX υ := fun f1 f2 => aux_flt A (fun j h => by rw [F2 1 (by omega) (by omega)]; exact g1 j (by omega)) (fun c a b => fr c (by omega) (by omega) (by omega) (by omega) (by omega) (by omega) (by omega) (by omega)) (by rw [fr 157 (by omega) (by omega) (by omega) (by omega) (by omega) (by omega) (by omega) (by omega)]) (fun c a b => fr c (by omega) (by omega) (by omega) (by omega) (by omega) (by omega) (by omega) (by omega)) (fun j h => by rw [g2 j (by omega) (by omega), F1 189 (by omega) (by omega) (by omega) (by omega) (by omega) (by omega)]) (fun c a b => fr c (by omega) (by omega) (by omega) (by omega) (by omega) (by omega) (by omega) (by omega)) f1 f2
  have lo : ∀ c, c ≤ 188 → υ c = τ c := fun c hc => F2 c (by omega) (by omega)
  rcases h with ⟨s0, hz, ⟨z97, z135⟩, I1, _, X, O, p6, p7⟩ | ⟨s0, hz, ⟨e97, e135, e3⟩, p6, p7⟩
  · rcases h2 with ⟨_, hy, R2, p22, p23⟩ | ⟨s1, _⟩
    · generalize (rul t n ω).2.2.2.1 = ω' at *
      exact ⟨hy.trans hz.symm, ω', 0, t, m, w, x, η, ψ, ⟨O, fun j hj => by rw [X j (by omega)]; exact K.2.1 j hj, K.2.2⟩, (C.new ⟨O.1, I1.1, fun q => absurd z97 q⟩ I1 (tpc_0 t11) (fun c h => F1 c (by omega) (by omega) (by omega) (by omega) (by omega) (by omega)) B1 z135 (fun j h => (gz j h).2)).to lo, R.new R2 (tpr_0 f15) (fun c h => fr c (by omega) (by omega) (by omega) (by omega) (by omega) (by omega) (by omega) (by omega)), ax (by rw [lo 140 (by omega), p6, p22]) (by rw [lo 140 (by omega), p7, p23])⟩
    · exact absurd s0 s1
  · rcases h2 with ⟨s1, _⟩ | ⟨_, hy, R2, p22, p23⟩
    · exact absurd s1 s0
    · have all : ∀ c, c ≠ 1 → c ≠ 140 → (c < 142 ∨ 156 < c) → τ c = σ c := fun c a b e => by
        by_cases q : 3 ≤ c ∧ c ≤ 25
        · exact e3 c q.1 q.2
        · by_cases q1 : c = 97
          · rw [q1, e97]
          · by_cases q2 : c = 135
            · rw [q2, e135]
            · exact F1 c a b q1 q2 (by omega) e
      obtain ⟨c1, c2, c3, c4, c5, c6, c7, c8⟩ := C
      refine ⟨hy.trans hz.symm, ω, 0, t, m, w, x, η, ψ, K, CL.to (σ := τ) ⟨c1.of1 (fun c a b => all c (by omega) (by omega) (by omega)), IMG_eq (fun c a b => all c (by omega) (by omega) (by omega)) c2, tpc_0 t11, fun s a b => by rw [all 187 (by omega) (by omega) (by omega), all 186 (by omega) (by omega) (by omega), all 185 (by omega) (by omega) (by omega)]; exact c4 s a b, KPC_eq (fun c a b => all c (by omega) (by omega) (by omega)) c5, B1, ?_, ?_⟩ lo, R.new R2 (tpr_0 f15) (fun c h => fr c (by omega) (by omega) (by omega) (by omega) (by omega) (by omega) (by omega) (by omega)), ax (by rw [lo 140 (by omega), p6, p22]) (by rw [lo 140 (by omega), p7, p23])⟩
      · unfold LKD at c7 ⊢
        rw [e135, all 136 (by omega) (by omega) (by omega)]
        exact c7
      · unfold LKH at c8 ⊢
        rw [e135]
        exact c8
theorem k_ask (hd : 70 ≤ d) (I : INV σ) (e : Int) : PR l d m_WordPlaces_ask m_Model_ask [vR 1, vI e] [vR 189, vI e] σ := by
  have I0 := I
  obtain ⟨ω, n, t, m, w, x, η, ψ, K, C, R, A⟩ := I
  refine cN_w (c_WordPlaces_ask (e := e) C.1 K.1.2.1 (rls4 C.2.1) C.2.2.1 (tp_of C.2.2.1 K.2.2.1)) (by omega) (fun z τ h => ?_)
  rcases h with ⟨he, hz, e1⟩ | ⟨he, F1, ⟨t11, g1⟩, ⟨n97, D1⟩, h⟩
  · rw [e1]
    refine cN_w (c_Model_ask (e := e) R.1 R.2.1 K.1.2.1 R.2.2.1 (tp2_of R.2.2.1 K.2.2.1)) (by omega) (fun y υ h2 => ?_)
    rcases h2 with ⟨_, hy, e2⟩ | ⟨x1, _⟩
    · rw [e2]
      exact ⟨hy.trans hz.symm, I0⟩
    · exact absurd x1 he
  · have Rτ := R.to (τ := τ) (fun c hc => F1 c (by omega) (by omega) (by omega) (by omega))
    refine cN_w (c_Model_ask (e := e) Rτ.1 Rτ.2.1 K.1.2.1 Rτ.2.2.1 (tp2_of Rτ.2.2.1 K.2.2.1)) (by omega) (fun y υ h2 => ?_)
    rcases h2 with ⟨x1, _⟩ | ⟨_, F2, ⟨f15, g2⟩, h2⟩
    · exact absurd he x1
    · have fr : ∀ c, c ≠ 1 → c ≠ 140 → (c < 97 ∨ 134 < c) → (c < 157 ∨ 178 < c) → c ≠ 189 → c ≠ 201 → (c < 208 ∨ 219 < c) → υ c = σ c := fun c a b f g i j k => (F2 c i j k).trans (F1 c a b f g)
      have lo : ∀ c, c ≤ 188 → υ c = τ c := fun c hc => F2 c (by omega) (by omega) (by omega)
      have g9 : ∀ j, (j < 15 ∨ (23 < j ∧ j ≠ 29 ∧ j ≠ 30 ∧ j ≠ 33)) → υ 189 j = σ 189 j := fun j h => by rw [g2 j h, F1 189 (by omega) (by omega) (by omega) (by omega)]
      have C1 : CFR τ ω := ⟨C.1.1, IML_eq (fun c a b => F1 c (by omega) (by omega) (by omega) (by omega)) C.1.2.1, fun _ => D1⟩
      have CC : CL υ ω 0 t m w x η ψ := (C.of C1 (tpc_0 (t := t) t11) (fun c h => F1 c (by omega) (by omega) (by omega) (by omega))).to lo
      have RR : RL υ ω 0 t m w x η ψ := R.of (tpr_0 f15) (fun c h => fr c (by omega) (by omega) (by omega) (by omega) (by omega) (by omega) (by omega)) (g9 10 (by omega))
      have h1 : ∀ j, 2 ≤ j → υ 1 j = σ 1 j := fun j h => by rw [lo 1 (by omega)]; exact g1 j (by omega)
      have hc : ∀ c, 180 ≤ c → c ≤ 183 → υ c = σ c := fun c a b => fr c (by omega) (by omega) (by omega) (by omega) (by omega) (by omega) (by omega)
      have hr : ∀ c, 220 ≤ c → c ≤ 228 → υ c = σ c := fun c a b => fr c (by omega) (by omega) (by omega) (by omega) (by omega) (by omega) (by omega)
      rcases h with ⟨s0, hz, N1, p6, p7⟩ | ⟨s0, hz, ⟨k1, k2, k3, k4⟩, p6, p7⟩
      · rcases h2 with ⟨_, hy, N2, p22, p23⟩ | ⟨s1, _⟩
        · refine ⟨hy.trans hz.symm, ω, 0, t, m, w, x, η, ψ, K, CC, RR, ?_⟩
          obtain ⟨⟨M1, e1, a1, b1⟩, ⟨M2, e2, d2, a2, b2⟩, ⟨F3, M3, a3, b3⟩, ⟨p4, M4, a4, b4, c4⟩, _, q1, q2⟩ := A
          exact ⟨⟨M1, e1, shc_fr a1 (h1 _ (by omega)) (hc _ (by omega) (by omega)), shr_fr b1 (g9 _ (by omega)) (hr _ (by omega) (by omega))⟩, ⟨M2, e2, d2, rkc_fr a2 (h1 _ (by omega)) (hc _ (by omega) (by omega)) (hc _ (by omega) (by omega)), rkr_fr b2 (g9 _ (by omega)) (hr _ (by omega) (by omega)) (hr _ (by omega) (by omega))⟩, ⟨F3, M3, bgc_fr a3 (h1 _ (by omega)) (h1 _ (by omega)), bgq_fr b3 (g9 _ (by omega)) (hr _ (by omega) (by omega))⟩, ⟨p4, M4, pgc_fr a4 (hc _ (by omega) (by omega)), pgq_fr b4 (g9 _ (by omega)) (hr _ (by omega) (by omega)), c4⟩, ⟨_, _, _, _, anc_fr N1 (by rw [lo 157 (by omega)]) (lo _ (by omega)) (lo _ (by omega)) (lo _ (by omega)), N2⟩, by rw [lo 140 (by omega), p6, p22], by rw [lo 140 (by omega), p7, p23]⟩
        · exact absurd s0 s1
      · rcases h2 with ⟨s1, _⟩ | ⟨_, hy, ⟨k5, k6⟩, p22, p23⟩
        · exact absurd s1 s0
        · refine ⟨hy.trans hz.symm, ω, 0, t, m, w, x, η, ψ, K, CC, RR, ?_⟩
          refine aux_flt A h1 hc (by rw [lo 157 (by omega)]; exact k1) (fun c a b => ?_) (fun j h => ?_) (fun c a b => ?_) (by rw [lo 140 (by omega), p6, p22]) (by rw [lo 140 (by omega), p7, p23])
          · have : c = 176 ∨ c = 177 ∨ c = 178 := by omega
            rw [lo c (by omega)]
            rcases this with rfl | rfl | rfl
            · exact k2
            · exact k3
            · exact k4
          · by_cases q : j = 33
            · rw [q, k5, F1 189 (by omega) (by omega) (by omega) (by omega)]
            · exact g9 j (by omega)
          · by_cases q : c = 219
            · rw [q, k6, F1 219 (by omega) (by omega) (by omega) (by omega)]
            · exact hr c (by omega) b
theorem k_shares (hd : 70 ≤ d) (I : INV σ) (e k : Int) : PR l d m_WordPlaces_shares m_Model_shares [vR 1, vI e, vI k] [vR 189, vI e, vI k] σ := by
  have I0 := I
  obtain ⟨ω, n, t, m, w, x, η, ψ, K, C, R, A⟩ := I
  refine cN_w (c_shares C.1 e k) (by omega) (fun z τ h => ?_)
  rcases h with ⟨q, hz, S1, C1, F1, g1⟩ | ⟨q, hz, e1⟩
  · have Rτ := R.to (τ := τ) (fun c hc => F1 c (by omega) (by omega) (by omega))
    refine cN_w (c_Model_shares Rτ.1 e k) (by omega) (fun y υ h2 => ?_)
    rcases h2 with ⟨_, hy, S2, F2, g2⟩ | ⟨x1, _⟩
    · have lo : ∀ c, c ≤ 188 → υ c = τ c := fun c hc => F2 c (by omega) (by omega) (by omega)
      have fr : ∀ c, (c < 97 ∨ 134 < c) → c ≠ 1 → c ≠ 180 → c ≠ 189 → c ≠ 220 → c ≠ 221 → υ c = σ c := fun c a b f g i j => (F2 c g i j).trans (F1 c a b f)
      have h1 : ∀ j, j ≠ 12 → υ 1 j = σ 1 j := fun j h => by rw [lo 1 (by omega)]; exact g1 j h
      have h9 : ∀ j, j ≠ 36 → υ 189 j = σ 189 j := fun j h => by rw [g2 j h, F1 189 (by omega) (by omega) (by omega)]
      refine ⟨hy.trans hz.symm, ω, n, t, m, w, x, η, ψ, K, (C.of C1 (tpc_fr C.2.2.1 (g1 1 (by omega)) (F1 2 (by omega) (by omega) (by omega))) (fun c h => F1 c (by omega) (by omega) (by omega))).to lo, R.of (tpr_fr R.2.2.1 (h9 15 (by omega)) (fr 202 (by omega) (by omega) (by omega) (by omega) (by omega) (by omega))) (fun c h => fr c (by omega) (by omega) (by omega) (by omega) (by omega) (by omega)) (h9 10 (by omega)), ?_⟩
      obtain ⟨_, ⟨M2, e2, d2, a2, b2⟩, ⟨F3, M3, a3, b3⟩, ⟨p4, M4, a4, b4, c4⟩, ⟨N5, e5, g5, e6, a5, b5⟩, q1, q2⟩ := A
      refine ⟨⟨_, _, shc_fr S1 (by rw [lo 1 (by omega)]) (lo _ (by omega)), S2⟩, ⟨M2, e2, d2, rkc_fr a2 (h1 _ (by omega)) ?_ ?_, rkr_fr b2 (h9 _ (by omega)) ?_ ?_⟩, ⟨F3, M3, bgc_fr a3 (h1 _ (by omega)) (h1 _ (by omega)), bgq_fr b3 (h9 _ (by omega)) ?_⟩, ⟨p4, M4, pgc_fr a4 ?_, pgq_fr b4 (h9 _ (by omega)) ?_, c4⟩, ⟨N5, e5, g5, e6, anc_fr a5 ?_ ?_ ?_ ?_, anr_fr b5 (h9 _ (by omega)) ?_⟩, by rw [fr 140 (by omega) (by omega) (by omega) (by omega) (by omega) (by omega), h9 22 (by omega)]; exact q1, by rw [fr 140 (by omega) (by omega) (by omega) (by omega) (by omega) (by omega), h9 23 (by omega)]; exact q2⟩
      all_goals rw [fr _ (by omega) (by omega) (by omega) (by omega) (by omega) (by omega)]
    · exact absurd q x1
  · rw [e1]
    refine cN_w (c_Model_shares R.1 e k) (by omega) (fun y υ h2 => ?_)
    rcases h2 with ⟨x1, _⟩ | ⟨_, hy, e2⟩
    · exact absurd x1 q
    · rw [e2]
      exact ⟨hy.trans hz.symm, I0⟩
theorem k_rank (hd : 70 ≤ d) (I : INV σ) (e : Int) : PR l d m_WordPlaces_rank m_Model_rank [vR 1, vI e] [vR 189, vI e] σ := by
  have I0 := I
  obtain ⟨ω, n, t, m, w, x, η, ψ, K, C, R, A⟩ := I
  refine cN_w (c_rank C.1 C.2.2.1 e) (by omega) (fun z τ h => ?_)
  rcases h with ⟨q, hz, S1, C1, F1, t11, g1⟩ | ⟨q, hz, e1⟩
  · have Rτ := R.to (τ := τ) (fun c hc => F1 c (by omega) (by omega) (by omega) (by omega) (by omega))
    refine cN_w (c_Model_rank Rτ.1 Rτ.2.1 Rτ.2.2.1 e) (by omega) (fun y υ h2 => ?_)
    rcases h2 with ⟨_, hy, S2, F2, f15, g2⟩ | ⟨x1, _⟩
    · have lo : ∀ c, c ≤ 188 → υ c = τ c := fun c hc => F2 c (by omega) (by omega) (by omega) (by omega) (by omega) (by omega)
      have fr : ∀ c, (c < 97 ∨ 134 < c) → c ≠ 1 → c ≠ 179 → c ≠ 181 → c ≠ 182 → c ≠ 189 → c ≠ 218 → c ≠ 220 → c ≠ 223 → c ≠ 224 → c ≠ 225 → υ c = σ c := fun c a b f g i j k p o r s => (F2 c j k p o r s).trans (F1 c a b f g i)
      have h1 : ∀ j, j ≠ 1 → j ≠ 15 → υ 1 j = σ 1 j := fun j h h' => by rw [lo 1 (by omega)]; exact g1 j h h'
      have h9 : ∀ j, j ≠ 15 → j ≠ 41 → υ 189 j = σ 189 j := fun j h h' => by rw [g2 j h h', F1 189 (by omega) (by omega) (by omega) (by omega) (by omega)]
      have hyz := hy.trans hz.symm
      subst hyz
      refine ⟨rfl, ω, 0, t, m, w, x, η, ψ, K, (C.of C1 (tpc_0 (t := t) t11) (fun c h => F1 c (by omega) (by omega) (by omega) (by omega) (by omega))).to lo, R.of (tpr_0 f15) (fun c h => fr c (by omega) (by omega) (by omega) (by omega) (by omega) (by omega) (by omega) (by omega) (by omega) (by omega) (by omega)) (h9 10 (by omega) (by omega)), ?_⟩
      obtain ⟨⟨M1, e1, a1, b1⟩, _, ⟨F3, M3, a3, b3⟩, ⟨p4, M4, a4, b4, c4⟩, ⟨N5, e5, g5, e6, a5, b5⟩, q1, q2⟩ := A
      refine ⟨⟨M1, e1, shc_fr a1 (h1 _ (by omega) (by omega)) ?_, shr_fr b1 (h9 _ (by omega) (by omega)) ?_⟩, ⟨_, _, _, rkc_fr S1 (by rw [lo 1 (by omega)]) (lo _ (by omega)) (lo _ (by omega)), S2⟩, ⟨F3, M3, bgc_fr a3 (h1 _ (by omega) (by omega)) (h1 _ (by omega) (by omega)), bgq_fr b3 (h9 _ (by omega) (by omega)) ?_⟩, ⟨p4, M4, pgc_fr a4 ?_, pgq_fr b4 (h9 _ (by omega) (by omega)) ?_, c4⟩, ⟨N5, e5, g5, e6, anc_fr a5 ?_ ?_ ?_ ?_, anr_fr b5 (h9 _ (by omega) (by omega)) ?_⟩, by rw [fr 140 (by omega) (by omega) (by omega) (by omega) (by omega) (by omega) (by omega) (by omega) (by omega) (by omega) (by omega), h9 22 (by omega) (by omega)]; exact q1, by rw [fr 140 (by omega) (by omega) (by omega) (by omega) (by omega) (by omega) (by omega) (by omega) (by omega) (by omega) (by omega), h9 23 (by omega) (by omega)]; exact q2⟩
      all_goals rw [fr _ (by omega) (by omega) (by omega) (by omega) (by omega) (by omega) (by omega) (by omega) (by omega) (by omega) (by omega)]
    · exact absurd q x1
  · rw [e1]
    refine cN_w (c_Model_rank R.1 R.2.1 R.2.2.1 e) (by omega) (fun y υ h2 => ?_)
    rcases h2 with ⟨x1, _⟩ | ⟨_, hy, e2⟩
    · exact absurd x1 q
    · rw [e2]
      exact ⟨hy.trans hz.symm, I0⟩
theorem k_begins (hd : 70 ≤ d) (I : INV σ) : PR l d m_WordPlaces_begins m_Model_begins [vR 1] [vR 189] σ := by
  obtain ⟨ω, n, t, m, w, x, η, ψ, K, C, R, A⟩ := I
  refine cN_w (c_begins C.1 C.2.2.1) (by omega) (fun z τ h => ?_)
  obtain ⟨hz, S1, C1, F1, t11, g1⟩ := h
  have Rτ := R.to (τ := τ) (fun c hc => F1 c (by omega) (by omega) (by omega))
  refine cN_w (c_Model_begins Rτ.1 Rτ.2.2.1) (by omega) (fun y υ h2 => ?_)
  obtain ⟨hy, S2, F2, f15, g2⟩ := h2
  have lo : ∀ c, c ≤ 188 → υ c = τ c := fun c hc => F2 c (by omega) (by omega) (by omega)
  have fr : ∀ c, (c < 97 ∨ 134 < c) → c ≠ 1 → c ≠ 179 → c ≠ 189 → c ≠ 226 → c ≠ 227 → υ c = σ c := fun c a b f g i j => (F2 c g i j).trans (F1 c a b f)
  have h1 : ∀ j, j ≠ 1 → j ≠ 16 → j ≠ 17 → υ 1 j = σ 1 j := fun j h h' h2' => by rw [lo 1 (by omega)]; exact g1 j h h' h2'
  have h9 : ∀ j, j ≠ 15 → j ≠ 43 → υ 189 j = σ 189 j := fun j h h' => by rw [g2 j h h', F1 189 (by omega) (by omega) (by omega)]
  refine ⟨hy.trans hz.symm, ω, 0, t, m, w, x, η, ψ, K, (C.of C1 (tpc_0 (t := t) t11) (fun c h => F1 c (by omega) (by omega) (by omega))).to lo, R.of (tpr_0 f15) (fun c h => fr c (by omega) (by omega) (by omega) (by omega) (by omega) (by omega)) (h9 10 (by omega) (by omega)), ?_⟩
  obtain ⟨⟨M1, e1, a1, b1⟩, ⟨M2, e2, d2, a2, b2⟩, _, ⟨p4, M4, a4, b4, c4⟩, ⟨N5, e5, g5, e6, a5, b5⟩, q1, q2⟩ := A
  refine ⟨⟨M1, e1, shc_fr a1 (h1 _ (by omega) (by omega) (by omega)) ?_, shr_fr b1 (h9 _ (by omega) (by omega)) ?_⟩, ⟨M2, e2, d2, rkc_fr a2 (h1 _ (by omega) (by omega) (by omega)) ?_ ?_, rkr_fr b2 (h9 _ (by omega) (by omega)) ?_ ?_⟩, ⟨_, _, bgc_fr S1 (by rw [lo 1 (by omega)]) (by rw [lo 1 (by omega)]), S2⟩, ⟨p4, M4, pgc_fr a4 ?_, pgq_fr b4 (h9 _ (by omega) (by omega)) ?_, c4⟩, ⟨N5, e5, g5, e6, anc_fr a5 ?_ ?_ ?_ ?_, anr_fr b5 (h9 _ (by omega) (by omega)) ?_⟩, by rw [fr 140 (by omega) (by omega) (by omega) (by omega) (by omega) (by omega), h9 22 (by omega) (by omega)]; exact q1, by rw [fr 140 (by omega) (by omega) (by omega) (by omega) (by omega) (by omega), h9 23 (by omega) (by omega)]; exact q2⟩
  all_goals rw [fr _ (by omega) (by omega) (by omega) (by omega) (by omega) (by omega)]
theorem k_print (hd : 70 ≤ d) (I : INV σ) (e k : Int) : PR l d m_WordPlaces_print m_Model_print [vR 1, vI e, vI k] [vR 189, vI e, vI k] σ := by
  have I0 := I
  obtain ⟨ω, n, t, m, w, x, η, ψ, K, C, R, A⟩ := I
  refine cN_w (c_print C.1 K.1.2.1 (rls4 C.2.1) e k) (by omega) (fun z τ h => ?_)
  obtain ⟨hz, h0, h⟩ := h
  by_cases q : (0 ≤ e ∧ e ≤ 1) ∧ 5 ≤ k ∧ k ≤ 100
  · obtain ⟨S1, dn6, C1, F1⟩ := h q
    have Rτ := R.to (τ := τ) (fun c hc => F1 c (by omega) (by omega))
    refine cN_w (c_Model_print Rτ.1 Rτ.2.1 K.1.2.1 e k) (by omega) (fun y υ h2 => ?_)
    obtain ⟨hy, _, h2⟩ := h2
    obtain ⟨S2, F2, g2⟩ := h2 q
    have lo : ∀ c, c ≤ 188 → υ c = τ c := fun c hc => F2 c (by omega) (by omega) (by omega)
    have fr : ∀ c, (c < 97 ∨ 134 < c) → c ≠ 183 → c ≠ 189 → c ≠ 201 → c ≠ 228 → υ c = σ c := fun c a b g i j => (F2 c g i j).trans (F1 c a b)
    have h9 : ∀ j, j ≠ 46 → υ 189 j = σ 189 j := fun j h => by rw [g2 j h, F1 189 (by omega) (by omega)]
    refine ⟨hy.trans hz.symm, ω, n, t, m, w, x, η, ψ, K, (C.of C1 (tpc_fr C.2.2.1 (by rw [F1 1 (by omega) (by omega)]) (F1 2 (by omega) (by omega))) (fun c h => F1 c (by omega) (by omega))).to lo, R.of (tpr_fr R.2.2.1 (h9 15 (by omega)) (fr 202 (by omega) (by omega) (by omega) (by omega) (by omega))) (fun c h => fr c (by omega) (by omega) (by omega) (by omega) (by omega)) (h9 10 (by omega)), ?_⟩
    obtain ⟨⟨M1, e1, a1, b1⟩, ⟨M2, e2, d2, a2, b2⟩, ⟨F3, M3, a3, b3⟩, _, ⟨N5, e5, g5, e6, a5, b5⟩, q1, q2⟩ := A
    refine ⟨⟨M1, e1, shc_fr a1 ?_ ?_, shr_fr b1 (h9 _ (by omega)) ?_⟩, ⟨M2, e2, d2, rkc_fr a2 ?_ ?_ ?_, rkr_fr b2 (h9 _ (by omega)) ?_ ?_⟩, ⟨F3, M3, bgc_fr a3 ?_ ?_, bgq_fr b3 (h9 _ (by omega)) ?_⟩, ⟨_, _, pgc_fr S1 (lo _ (by omega)), S2, dn6⟩, ⟨N5, e5, g5, e6, anc_fr a5 ?_ ?_ ?_ ?_, anr_fr b5 (h9 _ (by omega)) ?_⟩, by rw [fr 140 (by omega) (by omega) (by omega) (by omega) (by omega), h9 22 (by omega)]; exact q1, by rw [fr 140 (by omega) (by omega) (by omega) (by omega) (by omega), h9 23 (by omega)]; exact q2⟩
    all_goals rw [fr _ (by omega) (by omega) (by omega) (by omega) (by omega)]
  · rw [h0 q]
    refine cN_w (c_Model_print R.1 R.2.1 K.1.2.1 e k) (by omega) (fun y υ h2 => ?_)
    obtain ⟨hy, h0', _⟩ := h2
    rw [h0' q]
    exact ⟨hy.trans hz.symm, I0⟩
theorem slw_out {ω t : Int → Int} {n h p : Int} (hh : 0 ≤ h ∧ h ≤ 3) (hp : 0 ≤ p ∧ p < 300) (hn : n ≤ 20) (Z : OUT ω) : OUT (slw ω (sAd h p) n t) := fun j hj => by
  have := sAd_lo hh hp
  unfold slw
  rw [if_neg (by omega), if_neg (by omega)]
  exact Z j hj
theorem k_slip (hd : 70 ≤ d) (I : INV σ) (h p : Int) : PR l d m_WordPlaces_slip m_Model_slip [vR 1, vI h, vI p] [vR 189, vI h, vI p] σ := by
  have I0 := I
  obtain ⟨ω, n, t, m, w, x, η, ψ, K, C, R, A⟩ := I
  refine cN_w (c_slip K.1 C.2.1 C.1 C.2.2.1 h p) (by omega) (fun z τ q => ?_)
  rcases q with ⟨q, hz, e1⟩ | ⟨q, q2, hz, e1⟩ | ⟨q, q2, hz, C1, I1, F1, t11, g1⟩
  · rw [e1]
    refine cN_w (c_Model_slip R.1 R.2.1 K.1.2.2 R.2.2.1 h p) (by omega) (fun y υ r => ?_)
    rcases r with ⟨_, hy, e2⟩ | ⟨r, _⟩ | ⟨r, _⟩
    · rw [e2]
      exact ⟨hy.trans hz.symm, I0⟩
    · exact absurd r q
    · exact absurd r q
  · have Rτ := R.to (τ := τ) (fun c hc => by rw [e1, ju_row (by omega)])
    refine cN_w (c_Model_slip Rτ.1 Rτ.2.1 K.1.2.2 Rτ.2.2.1 h p) (by omega) (fun y υ r => ?_)
    rcases r with ⟨r, _⟩ | ⟨_, _, hy, e2⟩ | ⟨_, r, _⟩
    · exact absurd q r
    · exact ⟨hy.trans hz.symm, tape_end (τ := τ) K C R A K.2.2.1 (tpc_0 (t := t) (by rw [e1, ju_self])) ⟨fun c a b => by rw [e1, ju_row a], fun j hj => by rw [e1, ju_ne2 hj]⟩ (tpr_0 (by rw [e2, ju_self])) ⟨fun c a b f => by rw [e2, ju_row a], fun j hj => by rw [e2, ju_ne2 hj]⟩⟩
    · exact absurd r q2
  · have Rτ := R.to (τ := τ) (fun c hc => F1 c (by omega) (by omega) (by omega) (by omega) (by omega))
    refine cN_w (c_Model_slip Rτ.1 Rτ.2.1 K.1.2.2 Rτ.2.2.1 h p) (by omega) (fun y υ r => ?_)
    rcases r with ⟨r, _⟩ | ⟨_, r, _⟩ | ⟨_, _, hy, R2, F2, f15, g2⟩
    · exact absurd q r
    · exact absurd q2 r
    · have hp : 0 ≤ p ∧ p < 300 := by
        have := (C.1.1.L (e := 0) (by omega)).2
        omega
      have LW := slw_low (ω := ω) (n := n) (t := t) (sAd_lo q.1 hp).1
      have SM := SAM.of K.1.1 LW
      have n20 : n ≤ 20 := q2.1.2
      have O : OMG (slw ω (sAd h p) n t) := ⟨C1.1, LW.rlo K.1.2.1, slw_spo q2 q.1 hp K.1.2.2⟩
      have lo : ∀ c, c ≤ 188 → υ c = τ c := fun c hc => F2 c (by omega) (by omega) (by omega)
      have fr : ∀ c, (c < 97 ∨ 134 < c) → c ≠ 1 → c ≠ 24 → c ≠ 25 → c ≠ 179 → c ≠ 189 → c ≠ 190 → c ≠ 201 → υ c = σ c := fun c a b f g i j k o => (F2 c j k o).trans (F1 c a b f g i)
      have h1 : ∀ j, j ≠ 1 → υ 1 j = σ 1 j := fun j h => by rw [lo 1 (by omega)]; exact g1 j h
      have h9 : ∀ j, j ≠ 15 → υ 189 j = σ 189 j := fun j h => by rw [g2 j h, F1 189 (by omega) (by omega) (by omega) (by omega) (by omega)]
      obtain ⟨c1, c2, c3, c4, c5, c6, c7, c8⟩ := C
      refine ⟨hy.trans hz.symm, slw ω (sAd h p) n t, 0, t, m, w, x, η, ψ, ⟨O, slw_out q.1 hp n20 K.2.1, K.2.2⟩, CL.to (σ := τ) ⟨C1, I1, tpc_0 t11, fun s a b => by rw [F1 187 (by omega) (by omega) (by omega) (by omega) (by omega), F1 186 (by omega) (by omega) (by omega) (by omega) (by omega), F1 185 (by omega) (by omega) (by omega) (by omega) (by omega)]; exact c4 s a b, KPC_eq (fun c a b => F1 c (by omega) (by omega) (by omega) (by omega) (by omega)) c5, c6.eq (fun c a b => F1 c (by omega) (by omega) (by omega) (by omega) (by omega)), ?_, ?_⟩ lo, R.new R2 (tpr_0 f15) (fun c h => fr c (by omega) (by omega) (by omega) (by omega) (by omega) (by omega) (by omega) (by omega)), aux_flt A (fun j h => h1 j (by omega)) (fun c a b => fr c (by omega) (by omega) (by omega) (by omega) (by omega) (by omega) (by omega) (by omega)) (by rw [fr 157 (by omega) (by omega) (by omega) (by omega) (by omega) (by omega) (by omega) (by omega)]) (fun c a b => fr c (by omega) (by omega) (by omega) (by omega) (by omega) (by omega) (by omega) (by omega)) (fun j h => h9 j (by omega)) (fun c a b => fr c (by omega) (by omega) (by omega) (by omega) (by omega) (by omega) (by omega) (by omega)) (by rw [fr 140 (by omega) (by omega) (by omega) (by omega) (by omega) (by omega) (by omega) (by omega), h9 22 (by omega)]; exact A.2.2.2.2.2.1) (by rw [fr 140 (by omega) (by omega) (by omega) (by omega) (by omega) (by omega) (by omega) (by omega), h9 23 (by omega)]; exact A.2.2.2.2.2.2)⟩
      · obtain ⟨_, _, d3, _⟩ := SM.dall
        unfold LKD s_alike mtW at c7 ⊢
        rw [F1 135 (by omega) (by omega) (by omega) (by omega) (by omega), F1 136 (by omega) (by omega) (by omega) (by omega) (by omega), d3, (SM.1 0 (by omega) (by omega)).1, (SM.1 1 (by omega) (by omega)).1]
        exact c7
      · unfold LKH at c8 ⊢
        rw [F1 135 (by omega) (by omega) (by omega) (by omega) (by omega)]
        exact c8
end L5
