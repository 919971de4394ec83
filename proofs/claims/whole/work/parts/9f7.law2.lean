/-! The law: questions, both sides -/
section L3
variable {l : Launch} {d : Nat} {σ : jH}
theorem k_edition (hd : 70 ≤ d) (I : INV σ) (e what : Int) : PR l d m_WordPlaces_edition m_Model_edition [vR 1, vI e, vI what] [vR 189, vI e, vI what] σ := by
  obtain ⟨ω, n, t, m, w, x, η, ψ, K, C, R, A⟩ := I
  refine cN_w (c_edition C.1 e what) (by omega) (fun z τ h => ?_)
  obtain ⟨hz, F⟩ := h
  have Rτ := R.to (τ := τ) (fun c hc => F.1 c (by omega))
  refine cN_w (c_Model_edition Rτ.1 e what) (by omega) (fun y υ h2 => ?_)
  exact ⟨h2.1.trans hz.symm, INV.q K C R A F (fun c a b => by rw [h2.2])⟩
theorem k_word (hd : 70 ≤ d) (I : INV σ) (e p what : Int) : PR l d m_WordPlaces_word m_Model_word [vR 1, vI e, vI p, vI what] [vR 189, vI e, vI p, vI what] σ := by
  obtain ⟨ω, n, t, m, w, x, η, ψ, K, C, R, A⟩ := I
  refine cN_w (c_word C.1 e p what) (by omega) (fun z τ h => ?_)
  obtain ⟨hz, F⟩ := h
  have Rτ := R.to (τ := τ) (fun c hc => F.1 c (by omega))
  refine cN_w (c_Model_word Rτ.1 e p what) (by omega) (fun y υ h2 => ?_)
  exact ⟨h2.1.trans hz.symm, INV.q K C R A F (fun c a b => by rw [h2.2])⟩
theorem k_forms (hd : 70 ≤ d) (I : INV σ) : PR l d m_WordPlaces_forms m_Model_forms [vR 1] [vR 189] σ := by
  obtain ⟨ω, n, t, m, w, x, η, ψ, K, C, R, A⟩ := I
  refine cN_w (c_forms C.1) (by omega) (fun z τ h => ?_)
  obtain ⟨hz, F⟩ := h
  have Rτ := R.to (τ := τ) (fun c hc => F.1 c (by omega))
  refine cN_w (c_Model_forms Rτ.1 ) (by omega) (fun y υ h2 => ?_)
  exact ⟨h2.1.trans hz.symm, INV.q K C R A F (fun c a b => by rw [h2.2])⟩
theorem k_ordered (hd : 70 ≤ d) (I : INV σ) (i : Int) : PR l d m_WordPlaces_ordered m_Model_ordered [vR 1, vI i] [vR 189, vI i] σ := by
  obtain ⟨ω, n, t, m, w, x, η, ψ, K, C, R, A⟩ := I
  refine cN_w (c_ordered C.1 i) (by omega) (fun z τ h => ?_)
  obtain ⟨hz, F⟩ := h
  have Rτ := R.to (τ := τ) (fun c hc => F.1 c (by omega))
  refine cN_w (c_Model_ordered Rτ.1 i) (by omega) (fun y υ h2 => ?_)
  exact ⟨h2.1.trans hz.symm, INV.q K C R A F (fun c a b => by rw [h2.2])⟩
theorem k_pack (hd : 70 ≤ d) (I : INV σ) (e f k : Int) : PR l d m_WordPlaces_pack m_Model_pack [vR 1, vI e, vI f, vI k] [vR 189, vI e, vI f, vI k] σ := by
  obtain ⟨ω, n, t, m, w, x, η, ψ, K, C, R, A⟩ := I
  refine cN_w (c_pack C.1 e f k) (by omega) (fun z τ h => ?_)
  obtain ⟨hz, F⟩ := h
  have Rτ := R.to (τ := τ) (fun c hc => F.1 c (by omega))
  refine cN_w (c_Model_pack Rτ.1 e f k) (by omega) (fun y υ h2 => ?_)
  exact ⟨h2.1.trans hz.symm, INV.q K C R A F (fun c a b => by rw [h2.2])⟩
theorem k_room (hd : 70 ≤ d) (I : INV σ) (e : Int) : PR l d m_WordPlaces_room m_Model_room [vR 1, vI e] [vR 189, vI e] σ := by
  obtain ⟨ω, n, t, m, w, x, η, ψ, K, C, R, A⟩ := I
  refine cN_w (c_room C.1 e) (by omega) (fun z τ h => ?_)
  obtain ⟨hz, F⟩ := h
  have Rτ := R.to (τ := τ) (fun c hc => F.1 c (by omega))
  refine cN_w (c_Model_room Rτ.1 e) (by omega) (fun y υ h2 => ?_)
  exact ⟨h2.1.trans hz.symm, INV.q K C R A F (fun c a b => by rw [h2.2])⟩
theorem k_form (hd : 70 ≤ d) (I : INV σ) (f what : Int) (hw : -2147483648 ≤ what ∧ what < 2147483648) : PR l d m_WordPlaces_form m_Model_form [vR 1, vI f, vI what] [vR 189, vI f, vI what] σ := by
  obtain ⟨ω, n, t, m, w, x, η, ψ, K, C, R, A⟩ := I
  refine cN_w (c_form C.1 R.1.vk K.1.2.1 (rls4 C.2.1) f what hw) (by omega) (fun z τ h => ?_)
  obtain ⟨hz, F⟩ := h
  have Rτ := R.to (τ := τ) (fun c hc => F.1 c (by omega))
  refine cN_w (c_Model_form Rτ.1 Rτ.2.1 K.1.2.1 f what hw) (by omega) (fun y υ h2 => ?_)
  exact ⟨h2.1.trans hz.symm, INV.q K C R A F (fun c a b => h2.2 c a)⟩
theorem k_stands (hd : 70 ≤ d) (I : INV σ) (e f i : Int) (hi : i < 2147483648) : PR l d m_WordPlaces_stands m_Model_stands [vR 1, vI e, vI f, vI i] [vR 189, vI e, vI f, vI i] σ := by
  obtain ⟨ω, n, t, m, w, x, η, ψ, K, C, R, A⟩ := I
  refine cN_w (c_stands C.1 e f i) (by omega) (fun z τ h => ?_)
  obtain ⟨hz, F⟩ := h
  have Rτ := R.to (τ := τ) (fun c hc => F.1 c (by omega))
  refine cN_w (c_Model_stands Rτ.1 e f i hi) (by omega) (fun y υ h2 => ?_)
  exact ⟨h2.1.trans hz.symm, INV.q K C R A F (fun c a b => by rw [h2.2])⟩
theorem k_hand (hd : 70 ≤ d) (I : INV σ) (h0 what : Int) : PR l d m_WordPlaces_hand m_Model_hand [vR 1, vI h0, vI what] [vR 189, vI h0, vI what] σ := by
  obtain ⟨ω, n, t, m, w, x, η, ψ, K, C, R, A⟩ := I
  refine cN_w (c_hand C.1 K.1.2.2 C.2.1.2.2.1 h0 what) (by omega) (fun z τ h => ?_)
  obtain ⟨hz, F⟩ := h
  have Rτ := R.to (τ := τ) (fun c hc => F.1 c (by omega))
  refine cN_w (c_Model_hand Rτ.1 Rτ.2.1 K.1.2.2 h0 what) (by omega) (fun y υ h2 => ?_)
  exact ⟨h2.1.trans hz.symm, INV.q K C R A F (fun c a b => h2.2 c a)⟩
theorem k_copied (hd : 70 ≤ d) (I : INV σ) (a0 b0 : Int) : PR l d m_WordPlaces_copied m_Model_copied [vR 1, vI a0, vI b0] [vR 189, vI a0, vI b0] σ := by
  obtain ⟨ω, n, t, m, w, x, η, ψ, K, C, R, A⟩ := I
  refine cN_w (c_copied C.1 K.1.2.2 C.2.1.2.2.1 a0 b0) (by omega) (fun z τ h => ?_)
  obtain ⟨hz, F⟩ := h
  have Rτ := R.to (τ := τ) (fun c hc => F.1 c (by omega))
  refine cN_w (c_Model_copied Rτ.1 Rτ.2.1 K.1.2.2 a0 b0) (by omega) (fun y υ h2 => ?_)
  exact ⟨h2.1.trans hz.symm, INV.q K C R A F (fun c a b => h2.2 c a)⟩
theorem k_count (hd : 70 ≤ d) (I : INV σ) (what : Int) : PR l d m_WordPlaces_count m_Model_count [vR 1, vI what] [vR 189, vI what] σ := by
  obtain ⟨ω, n, t, m, w, x, η, ψ, K, C, R, A⟩ := I
  refine cN_w (c_count C.1 (rls4 C.2.1) K.1.2.2 C.2.1.2.2.1 C.2.2.1 C.2.2.2.1 what) (by omega) (fun z τ h => ?_)
  obtain ⟨hz, F⟩ := h
  replace F : FRQ σ τ ω := by rw [F]; exact FRQ.rf
  have Rτ := R.to (τ := τ) (fun c hc => F.1 c (by omega))
  refine cN_w (c_Model_count Rτ.1 K.1.2.2 Rτ.2.2.1 Rτ.2.2.2.1 what) (by omega) (fun y υ h2 => ?_)
  exact ⟨h2.1.trans hz.symm, INV.q K C R A F (fun c a b => by rw [h2.2])⟩
theorem k_fault (hd : 70 ≤ d) (I : INV σ) (what : Int) : PR l d m_WordPlaces_fault m_Model_fault [vR 1, vI what] [vR 189, vI what] σ := by
  have I0 := I
  obtain ⟨ω, n, t, m, w, x, η, ψ, K, C, R, A⟩ := I
  obtain ⟨_, _, _, _, _, q1, q2⟩ := A
  refine cN_w (c_fault what σ) (by omega) (fun z τ h => ?_)
  obtain ⟨hz, F⟩ := h
  subst F
  refine cN_w (c_Model_fault what τ) (by omega) (fun y υ h2 => ?_)
  obtain ⟨hy, F2⟩ := h2
  subst F2
  exact ⟨by rw [hy, hz, q1, q2], I0⟩
theorem k_answer (hd : 70 ≤ d) (I : INV σ) (i what : Int) : PR l d m_WordPlaces_answer m_Model_answer [vR 1, vI i, vI what] [vR 189, vI i, vI what] σ := by
  have I0 := I
  obtain ⟨ω, n, t, m, w, x, η, ψ, K, C, R, A⟩ := I
  obtain ⟨_, _, _, _, ⟨N5, f5, g5, h5, a5, b5⟩, _, _⟩ := A
  refine cN_w (c_answer a5 i what) (by omega) (fun z τ h => ?_)
  obtain ⟨hz, F⟩ := h
  subst F
  refine cN_w (c_Model_answer b5 i what) (by omega) (fun y υ h2 => ?_)
  obtain ⟨hy, F2⟩ := h2
  subst F2
  exact ⟨by rw [hy, hz], I0⟩
theorem k_share (hd : 70 ≤ d) (I : INV σ) (i : Int) : PR l d m_WordPlaces_share m_Model_share [vR 1, vI i] [vR 189, vI i] σ := by
  have I0 := I
  obtain ⟨ω, n, t, m, w, x, η, ψ, K, C, R, A⟩ := I
  obtain ⟨⟨N1, f1, a1, b1⟩, _, _, _, _, _, _⟩ := A
  refine cN_w (c_share a1 i) (by omega) (fun z τ h => ?_)
  obtain ⟨hz, F⟩ := h
  subst F
  refine cN_w (c_Model_share b1 i) (by omega) (fun y υ h2 => ?_)
  obtain ⟨hy, F2⟩ := h2
  subst F2
  exact ⟨by rw [hy, hz], I0⟩
theorem k_ranked (hd : 70 ≤ d) (I : INV σ) (i what : Int) : PR l d m_WordPlaces_ranked m_Model_ranked [vR 1, vI i, vI what] [vR 189, vI i, vI what] σ := by
  have I0 := I
  obtain ⟨ω, n, t, m, w, x, η, ψ, K, C, R, A⟩ := I
  obtain ⟨_, ⟨N2, f2, g2, a2, b2⟩, _, _, _, _, _⟩ := A
  refine cN_w (c_ranked a2 i what) (by omega) (fun z τ h => ?_)
  obtain ⟨hz, F⟩ := h
  subst F
  refine cN_w (c_Model_ranked b2 i what) (by omega) (fun y υ h2 => ?_)
  obtain ⟨hy, F2⟩ := h2
  subst F2
  exact ⟨by rw [hy, hz], I0⟩
theorem k_begun (hd : 70 ≤ d) (I : INV σ) (i : Int) : PR l d m_WordPlaces_begun m_Model_begun [vR 1, vI i] [vR 189, vI i] σ := by
  have I0 := I
  obtain ⟨ω, n, t, m, w, x, η, ψ, K, C, R, A⟩ := I
  obtain ⟨_, _, ⟨F3, N3, a3, b3⟩, _, _, _, _⟩ := A
  refine cN_w (c_begun a3 i) (by omega) (fun z τ h => ?_)
  obtain ⟨hz, F⟩ := h
  subst F
  refine cN_w (c_Model_begun b3 i) (by omega) (fun y υ h2 => ?_)
  obtain ⟨hy, F2⟩ := h2
  subst F2
  exact ⟨by rw [hy, hz], I0⟩
theorem k_page (hd : 70 ≤ d) (I : INV σ) (f : Int) : PR l d m_WordPlaces_page m_Model_page [vR 1, vI f] [vR 189, vI f] σ := by
  have I0 := I
  obtain ⟨ω, n, t, m, w, x, η, ψ, K, C, R, A⟩ := I
  obtain ⟨_, _, _, ⟨p4, N4, a4, b4, c4⟩, _, _, _⟩ := A
  refine cN_w (c_page a4 f) (by omega) (fun z τ h => ?_)
  obtain ⟨hz, F⟩ := h
  subst F
  refine cN_w (c_Model_page b4 c4 f) (by omega) (fun y υ h2 => ?_)
  obtain ⟨hy, F2⟩ := h2
  subst F2
  exact ⟨by rw [hy, hz], I0⟩
theorem k_alike (hd : 70 ≤ d) (I : INV σ) : PR l d m_WordPlaces_alike m_Model_alike [vR 1] [vR 189] σ := by
  obtain ⟨ω, n, t, m, w, x, η, ψ, K, C, R, A⟩ := I
  refine cN_w (c_alike C.1 C.2.2.2.2.2.2 ) (by omega) (fun z τ h => ?_)
  obtain ⟨hz, C1, L1, F⟩ := h
  have Rτ := R.to (τ := τ) (fun c hc => F c (by omega))
  refine cN_w (c_Model_alike Rτ.1 ) (by omega) (fun y υ h2 => ?_)
  obtain ⟨hy, F2⟩ := h2
  obtain ⟨c1, c2, c3, c4, c5, c6, c7⟩ := C
  have C2 : CL τ ω n t m w x η ψ := ⟨C1, IMG_eq (fun c a b => F c (by omega)) c2, tpc_fr c3 (by rw [F 1 (by omega)]) (F 2 (by omega)), fun s a b => by rw [F 187 (by omega), F 186 (by omega), F 185 (by omega)]; exact c4 s a b, KPC_eq (fun c a b => F c (by omega)) c5, c6.eq (fun c a b => F c (by omega)), L1⟩
  have fr : ∀ c, c ≠ 222 → (c < 97 ∨ 139 < c) → υ c = σ c := fun c a b => (F2 c a).trans (F c b)
  refine ⟨hy.trans hz.symm, ω, n, t, m, w, x, η, ψ, K, C2.to (fun c hc => F2 c (by omega)), R.of (tpr_fr R.2.2.1 (by rw [fr 189 (by omega) (by omega)]) (fr 202 (by omega) (by omega))) (fun c hc => fr c (by omega) (by omega)) (by rw [fr 189 (by omega) (by omega)]), ?_⟩
  refine A.of ⟨⟨?_, ?_⟩, ⟨?_, ?_, ?_⟩, ⟨?_, ?_⟩, ?_, ⟨?_, ?_, ?_, ?_⟩, ?_, ?_⟩ ⟨⟨?_, ?_⟩, ⟨?_, ?_, ?_⟩, ⟨?_, ?_⟩, ⟨?_, ?_⟩, ⟨?_, ?_⟩, ?_, ?_⟩
  all_goals rw [fr _ (by omega) (by omega)]
theorem k_matched (hd : 70 ≤ d) (I : INV σ) (p : Int) : PR l d m_WordPlaces_matched m_Model_matched [vR 1, vI p] [vR 189, vI p] σ := by
  obtain ⟨ω, n, t, m, w, x, η, ψ, K, C, R, A⟩ := I
  refine cN_w (c_matched C.1 C.2.2.2.2.2.2 p) (by omega) (fun z τ h => ?_)
  obtain ⟨hz, C1, L1, F⟩ := h
  have Rτ := R.to (τ := τ) (fun c hc => F c (by omega))
  refine cN_w (c_Model_matched Rτ.1 p) (by omega) (fun y υ h2 => ?_)
  obtain ⟨hy, F2⟩ := h2
  obtain ⟨c1, c2, c3, c4, c5, c6, c7⟩ := C
  have C2 : CL τ ω n t m w x η ψ := ⟨C1, IMG_eq (fun c a b => F c (by omega)) c2, tpc_fr c3 (by rw [F 1 (by omega)]) (F 2 (by omega)), fun s a b => by rw [F 187 (by omega), F 186 (by omega), F 185 (by omega)]; exact c4 s a b, KPC_eq (fun c a b => F c (by omega)) c5, c6.eq (fun c a b => F c (by omega)), L1⟩
  have fr : ∀ c, c ≠ 222 → (c < 97 ∨ 139 < c) → υ c = σ c := fun c a b => (F2 c a).trans (F c b)
  refine ⟨hy.trans hz.symm, ω, n, t, m, w, x, η, ψ, K, C2.to (fun c hc => F2 c (by omega)), R.of (tpr_fr R.2.2.1 (by rw [fr 189 (by omega) (by omega)]) (fr 202 (by omega) (by omega))) (fun c hc => fr c (by omega) (by omega)) (by rw [fr 189 (by omega) (by omega)]), ?_⟩
  refine A.of ⟨⟨?_, ?_⟩, ⟨?_, ?_, ?_⟩, ⟨?_, ?_⟩, ?_, ⟨?_, ?_, ?_, ?_⟩, ?_, ?_⟩ ⟨⟨?_, ?_⟩, ⟨?_, ?_, ?_⟩, ⟨?_, ?_⟩, ⟨?_, ?_⟩, ⟨?_, ?_⟩, ?_, ?_⟩
  all_goals rw [fr _ (by omega) (by omega)]
end L3
