/-! The class: the book made anew -/
def OKW (ω : Int → Int) : Prop := LOK ω 0 ∧ LOK ω 1 ∧ okρ (fo ω) ∧ RKO ω ∧ (wW ω 0).1 ≤ 300 ∧ (wW ω 1).1 ≤ 300
/-- an image's lines and letters are those of a row -/
def IML (σ : jH) (o : Int) (ω : Int → Int) : Prop := LIN σ o ω 0 ∧ LIN σ o ω 1 ∧ (∀ x, 0 ≤ x → x < 26 → σ (o + 2) x = fo ω x) ∧ ∀ x, 0 ≤ x → x < 26 → σ (o + 14) x = rnk ω x
theorem IML_eq {σ τ : jH} {o : Int} {ω : Int → Int} (h : ∀ c, o ≤ c → c ≤ o + 22 → τ c = σ c) (H : IML σ o ω) : IML τ o ω := by
  obtain ⟨h1, h2, h3, h4⟩ := H
  refine ⟨LIN_eq (fun c a b => h c (by omega) (by omega)) h1, LIN_eq (fun c a b => h c (by omega) (by omega)) h2, ?_, ?_⟩
  · rw [h _ (by omega) (by omega)]
    exact h3
  · rw [h _ (by omega) (by omega)]
    exact h4
/-- the book's words and forms -/
def BKD (τ : jH) (ω : Int → Int) (n : Int) : Prop := FC τ n ∧ (∀ v, FSC τ n v ↔ CO ω 2 0 v) ∧ (CWD τ 105 (fo ω) (wW ω 0) (wW ω 0).1 ∧ CWD τ 120 (fo ω) (wW ω 1) (wW ω 1).1) ∧ (LST τ τ 105 (fo ω) (wW ω 0) n ∧ LST τ τ 120 (fo ω) (wW ω 1) n) ∧ ORC ω τ τ n
theorem CWD_eq {σ τ : jH} {b : Int} {φ : Int → Int} {s : wS} {m : Int} (C : CWD σ b φ s m) (h0 : τ b 0 = σ b 0) (h : ∀ c, (b < c ∧ c ≤ b + 6 ∨ c = b + 11 ∨ c = b + 14) → τ c = σ c) : CWD τ b φ s m := by
  obtain ⟨C1, C2, C3, C4, C5⟩ := C
  unfold CWD
  rw [h0, h (b + 4) (by omega), h (b + 5) (by omega), h (b + 6) (by omega), h (b + 11) (by omega)]
  refine ⟨C1, C2, fun p p0 p1 => ?_, C4, fun q => ?_⟩
  · have := C3 p p0 p1
    unfold KKV at this ⊢
    rw [h (b + 1 + 1) (by omega), h (b + 1 + 2) (by omega)]
    exact this
  · have := C5 q
    unfold KS at this ⊢
    rw [h (b + 14) (by omega)]
    exact this
theorem FC_eq {σ τ : jH} {n : Int} (F : FC σ n) (h0 : τ 97 1 = σ 97 1) (h1 : τ 99 = σ 99) (h2 : τ 100 = σ 100) : FC τ n ∧ (∀ f, kk τ 98 f = kk σ 98 f) := by
  have e : ∀ f, kk τ 98 f = kk σ 98 f := fun f => by
    unfold kk
    rw [show (98 : Int) + 1 = 99 by omega, show (98 : Int) + 2 = 100 by omega, h1, h2]
  obtain ⟨F1, F2, F3, F4, F5⟩ := F
  refine ⟨⟨F1, F2, by rw [h0]; exact F3, fun f f0 f1 => ?_, fun f g f0 f1 f2 => by rw [e, e]; exact F5 f g f0 f1 f2⟩, e⟩
  rw [e]
  refine ⟨?_, (F4 f f0 f1).2⟩
  have := (F4 f f0 f1).1
  unfold KKV at this ⊢
  rw [show (98 : Int) + 1 = 99 by omega, show (98 : Int) + 2 = 100 by omega] at this ⊢
  rw [h1, h2]
  exact this
theorem FSC_eq {σ τ : jH} {n v : Int} (e : ∀ f, kk τ 98 f = kk σ 98 f) : FSC τ n v ↔ FSC σ n v := by
  unfold FSC
  simp only [e]
theorem LST_eq {σ σ' τ υ : jH} {b : Int} {φ : Int → Int} {s : wS} {n : Int} (H : LST σ τ b φ s n) (e : ∀ f, kk σ' 98 f = kk σ 98 f) (h0 : υ b 9 = τ b 9) (h : ∀ c, b + 7 ≤ c → c ≤ b + 10 → υ c = τ c) : LST σ' υ b φ s n := by
  unfold LST WFC at H ⊢
  rw [h0, h (b + 7) (by omega) (by omega), h (b + 8) (by omega) (by omega), h (b + 9) (by omega) (by omega), h (b + 10) (by omega) (by omega)]
  simp only [e]
  exact H
theorem ORC_eq {ω : Int → Int} {σ σ' τ υ : jH} {n : Int} (H : ORC ω σ τ n) (e : ∀ f, kk σ' 98 f = kk σ 98 f) (h : υ 101 = τ 101) : ORC ω σ' υ n := by
  unfold ORC okC at H ⊢
  rw [h]
  simp only [e]
  exact H
theorem CO_2 {ω : Int → Int} {e p : Int} (he : 0 ≤ e) (he1 : e ≤ 1) (hp : 0 ≤ p) (hw : p < (wW ω e).1) : CO ω 2 0 (KEY ω e p) := ⟨e, p, he, hp, hw, by omega, rfl⟩
def FRB (σ τ : jH) : Prop := ∀ c, (c < 97 ∨ 134 < c) → τ c = σ c
theorem c_refresh {o : Int} {ω : Int → Int} {σ : jH} (hI : isImage o) (W : OKW ω) (H : IML σ o ω) : Cw 14 m_Book_refresh [vR 97, vR o] σ (fun _ τ => (σ 97 0 ≠ 0 ∧ τ = σ) ∨ ((∃ n, BKD τ ω n) ∧ τ 97 0 ≠ 0 ∧ FRB σ τ)) := by
  have ho : o ≤ 73 ∧ 0 ≤ o := by unfold isImage at hI; omega
  obtain ⟨L0, L1, hφ, hK, c0, c1⟩ := W
  have n0 := wW_0 ω 0
  have n1 := wW_0 ω 1
  have i105 : isWords 105 := Or.inl rfl
  have i120 : isWords 120 := Or.inr rfl
  have hU := isImage_r hI
  refine Cw_of o_Book_refresh rfl fun l d hd => jwp_sound t_Book_refresh _ (b_Book_refresh_0 ?_)
  simp only [RW, true_and, and_true, and_self, true_or, or_true, Nat.reduceLeDiff, Nat.reduceEqDiff, Nat.reduceAdd, Int.reduceLE, Int.reduceLT, Int.reduceEq, Int.reduceNeg, Int.reduceNe, Nat.reduceSub, reduceIte, implies_true, gt_97, gr_97_2, gt_98, gr_97_5, gt_105, gr_97_6, gt_120, im_t hI, im_r0 hI, im_t0 hI, im_r1 hI, im_t1 hI, im_r2 hI, im_t2 hI, im_r3 hI, im_t3 hI, im_r4 hI, im_t4 hI, im_r5 hI, im_t5 hI, im_r6 hI, im_t6 hI, ru_t hU, ru_r1 hU, ru_t1 hU, ru_r2 hU, ru_t2 hU, ru_r4 hU, ru_t4 hU, ru_r6 hU, ru_t6 hU, ru_r8 hU, ru_t8 hU, ru_r9 hU, ru_t9 hU, ru_r10 hU, ru_t10 hU]
  refine ⟨fun _ => ?_, fun q => Or.inl q⟩
  refine cN_w (c_cutOut (σ := σ) hI i105 ⟨by omega, by omega⟩ L0 H.1 H.2.2.1 hφ c0) (by omega) (fun _ σ1 S1 => ?_)
  have H1 : IML σ1 o ω := IML_eq (fun c a b => S1.2 c (by omega)) H
  refine cN_w (c_cutOut (σ := σ1) hI i120 ⟨by omega, by omega⟩ L1 H1.2.1 H1.2.2.1 hφ c1) (by omega) (fun _ σ2 S2 => ?_)
  have H2 : IML σ2 o ω := IML_eq (fun c a b => S2.2 c (by omega)) H1
  have C0 : CWD σ2 105 (fo ω) (wW ω 0) (wW ω 0).1 := CWD_eq S1.1 (by rw [S2.2 105 (by omega)]) (fun c h => S2.2 c (by omega))
  obtain ⟨σ3, h3⟩ : ∃ σ3, σ3 = ju σ2 97 1 0 := ⟨_, rfl⟩
  have r3 : ∀ c, c ≠ 97 → σ3 c = σ2 c := fun c hc => by rw [h3]; exact ju_row hc
  rw [← h3]
  have C0' : CWD σ3 105 (fo ω) (wW ω 0) (wW ω 0).1 := CWD_eq C0 (by rw [r3 105 (by omega)]) (fun c h => r3 c (by omega))
  have C1' : CWD σ3 120 (fo ω) (wW ω 1) (wW ω 1).1 := CWD_eq S2.1 (by rw [r3 120 (by omega)]) (fun c h => r3 c (by omega))
  have G3 : GAS σ3 σ3 ω 0 0 0 := ⟨FRG.rf, 0, by omega, ⟨by omega, by omega, by rw [h3]; exact ju_self, fun f a b => absurd b (by omega), fun f g a b c => absurd c (by omega)⟩, fun v => ⟨fun ⟨f, a, b, _⟩ => absurd b (by omega), fun h => absurd h CO_0⟩⟩
  refine cN_w (c_gather (σ := σ3) i105 (Int.le_refl 0) hφ C0' c0 (by omega) G3) (by omega) (fun _ σ4 S4 => ?_)
  obtain ⟨x4, n4, y4, z4, u4⟩ := S4
  have C0'' : CWD σ4 105 (fo ω) (wW ω 0) (wW ω 0).1 := CWD_eq C0' (by rw [x4.1 105 (by omega) (by omega) (by omega)]) (fun c h => x4.1 c (by omega) (by omega) (by omega))
  have C1'' : CWD σ4 120 (fo ω) (wW ω 1) (wW ω 1).1 := CWD_eq C1' (by rw [x4.1 120 (by omega) (by omega) (by omega)]) (fun c h => x4.1 c (by omega) (by omega) (by omega))
  have G4 : GAS σ4 σ4 ω 1 0 (wW ω 0).1 := ⟨FRG.rf, n4, by omega, z4, fun v => (u4 v).trans (CO_e (e := 0)).symm⟩
  refine cN_w (c_gather (σ := σ4) i120 (by omega : (0 : Int) ≤ 1) hφ C1'' c1 (by omega) G4) (by omega) (fun _ σ5 S5 => ?_)
  obtain ⟨x5, n5, y5, z5, u5⟩ := S5
  have u5' : ∀ v, FSC σ5 n5 v ↔ CO ω 2 0 v := fun v => (u5 v).trans (CO_e (e := 1)).symm
  have C05 : CWD σ5 105 (fo ω) (wW ω 0) (wW ω 0).1 := CWD_eq C0'' (by rw [x5.1 105 (by omega) (by omega) (by omega)]) (fun c h => x5.1 c (by omega) (by omega) (by omega))
  have C15 : CWD σ5 120 (fo ω) (wW ω 1) (wW ω 1).1 := CWD_eq C1'' (by rw [x5.1 120 (by omega) (by omega) (by omega)]) (fun c h => x5.1 c (by omega) (by omega) (by omega))
  rw [z5.2.2.1]
  refine cN_w (c_number (σ := σ5) i105 hφ C05 n0 c0 z5 (fun p p0 p1 => (u5' _).mpr (CO_2 (by omega) (by omega) p0 p1))) (by omega) (fun _ σ6 S6 => ?_)
  obtain ⟨x6, y6⟩ := S6
  have f6 := FC_eq z5 (by rw [y6.1 97 (by omega) (by omega) (by omega) (by omega) (by omega)]) (y6.1 99 (by omega) (by omega) (by omega) (by omega) (by omega)) (y6.1 100 (by omega) (by omega) (by omega) (by omega) (by omega))
  have C06 : CWD σ6 105 (fo ω) (wW ω 0) (wW ω 0).1 := CWD_eq C05 (y6.2 0 (by omega)) (fun c h => y6.1 c (by omega) (by omega) (by omega) (by omega) (by omega))
  have C16 : CWD σ6 120 (fo ω) (wW ω 1) (wW ω 1).1 := CWD_eq C15 (by rw [y6.1 120 (by omega) (by omega) (by omega) (by omega) (by omega)]) (fun c h => y6.1 c (by omega) (by omega) (by omega) (by omega) (by omega))
  rw [f6.1.2.2.1]
  refine cN_w (c_number (σ := σ6) i120 hφ C16 n1 c1 f6.1 (fun p p0 p1 => (FSC_eq f6.2).mpr ((u5' _).mpr (CO_2 (by omega) (by omega) p0 p1)))) (by omega) (fun _ σ7 S7 => ?_)
  obtain ⟨x7, y7⟩ := S7
  have f7 := FC_eq f6.1 (by rw [y7.1 97 (by omega) (by omega) (by omega) (by omega) (by omega)]) (y7.1 99 (by omega) (by omega) (by omega) (by omega) (by omega)) (y7.1 100 (by omega) (by omega) (by omega) (by omega) (by omega))
  have C07 : CWD σ7 105 (fo ω) (wW ω 0) (wW ω 0).1 := CWD_eq C06 (by rw [y7.1 105 (by omega) (by omega) (by omega) (by omega) (by omega)]) (fun c h => y7.1 c (by omega) (by omega) (by omega) (by omega) (by omega))
  have C17 : CWD σ7 120 (fo ω) (wW ω 1) (wW ω 1).1 := CWD_eq C16 (y7.2 0 (by omega)) (fun c h => y7.1 c (by omega) (by omega) (by omega) (by omega) (by omega))
  have low : ∀ c, c < 97 → σ7 c = σ c := fun c hc => by rw [y7.1 c (by omega) (by omega) (by omega) (by omega) (by omega), y6.1 c (by omega) (by omega) (by omega) (by omega) (by omega), x5.1 c (by omega) (by omega) (by omega), x4.1 c (by omega) (by omega) (by omega), r3 c (by omega), S2.2 c (by omega), S1.2 c (by omega)]
  have hV : ∀ f, 0 ≤ f → f < n5 → VD 20 (kk σ7 98 f) := by
    intro f f0 f1
    obtain ⟨e', p', a1, a2, a3, a4, a5⟩ := (u5' (kk σ5 98 f)).mp ⟨f, f0, f1, rfl⟩
    rw [f7.2, f6.2, ← a5]
    exact VD_hm hφ 20 _
  refine cN_w (c_order (σ := σ7) (R := o + 1 + 13) (ru_t10 hU) (fun x a b => ?_) (by omega) hK f7.1 hV) (by omega) (fun _ σ8 S8 => ?_)
  · rw [low _ (by omega), show o + 1 + 13 = o + 14 by omega]
    exact H.2.2.2 x a b
  obtain ⟨x8, y8⟩ := S8
  obtain ⟨σ9, h9⟩ : ∃ σ9, σ9 = ju σ8 97 0 1 := ⟨_, rfl⟩
  rw [← h9]
  have r9 : ∀ c, c ≠ 97 → σ9 c = σ8 c := fun c hc => by rw [h9]; exact ju_row hc
  have r97 : ∀ j, j ≠ 0 → σ9 97 j = σ7 97 j := fun j hj => by rw [h9, ju_ne2 hj, x8 97 (by omega) (by omega) (by omega)]
  have r89 : ∀ c, c ≠ 97 → c ≠ 101 → c ≠ 103 → c ≠ 104 → σ9 c = σ7 c := fun c a b d e => by rw [r9 c a, x8 c b d e]
  have f9 := FC_eq f7.1 (r97 1 (by omega)) (r89 99 (by omega) (by omega) (by omega) (by omega)) (r89 100 (by omega) (by omega) (by omega) (by omega))
  refine Or.inr ⟨⟨n5, f9.1, fun v => ?_, ⟨?_, ?_⟩, ⟨?_, ?_⟩, ?_⟩, by rw [h9, ju_self]; omega, fun c hc => ?_⟩
  · rw [FSC_eq f9.2, FSC_eq f7.2, FSC_eq f6.2]
    exact u5' v
  · exact CWD_eq C07 (by rw [r89 105 (by omega) (by omega) (by omega) (by omega)]) (fun c h => r89 c (by omega) (by omega) (by omega) (by omega))
  · exact CWD_eq C17 (by rw [r89 120 (by omega) (by omega) (by omega) (by omega)]) (fun c h => r89 c (by omega) (by omega) (by omega) (by omega))
  · exact LST_eq x6 (fun f => by rw [f9.2, f7.2, f6.2]) (by rw [r89 105 (by omega) (by omega) (by omega) (by omega), y7.1 105 (by omega) (by omega) (by omega) (by omega) (by omega)]) (fun c a b => by rw [r89 c (by omega) (by omega) (by omega) (by omega), y7.1 c (by omega) (by omega) (by omega) (by omega) (by omega)])
  · exact LST_eq x7 (fun f => by rw [f9.2, f7.2]) (by rw [r89 120 (by omega) (by omega) (by omega) (by omega)]) (fun c a b => by rw [r89 c (by omega) (by omega) (by omega) (by omega)])
  · exact ORC_eq y8 f9.2 (r9 101 (by omega))
  · rw [r9 c (by omega), x8 c (by omega) (by omega) (by omega), y7.1 c (by omega) (by omega) (by omega) (by omega) (by omega), y6.1 c (by omega) (by omega) (by omega) (by omega) (by omega), x5.1 c (by omega) (by omega) (by omega), x4.1 c (by omega) (by omega) (by omega), r3 c (by omega), S2.2 c (by omega), S1.2 c (by omega)]
