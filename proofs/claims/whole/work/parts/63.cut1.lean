/-! The class: a word begins, grows, ends -/
def cq (f : Int → Int) : Nat → Int → Int
  | 0, _ => 0
  | n + 1, v => cq f n v + (if f n = v then 1 else 0)
theorem cq_eq {f g : Int → Int} {v : Int} : ∀ {n : Nat}, (∀ q : Int, 0 ≤ q → q < n → f q = g q) → cq f n v = cq g n v
  | 0, _ => rfl
  | n + 1, h => by
    simp only [cq]
    rw [cq_eq (fun q a b => h q a (by omega)), h n (by omega) (by omega)]
theorem cq_r (f : Int → Int) (v : Int) : ∀ n : Nat, 0 ≤ cq f n v ∧ cq f n v ≤ n
  | 0 => by simp [cq]
  | n + 1 => by
    have := cq_r f v n
    simp only [cq]
    split <;> omega
def KKV (σ : jH) (o p K : Int) : Prop := σ (o + 1) p = K / 1125899906842624 ∧ σ (o + 2) p = K % 1125899906842624
/-- words of an edition as the class keeps them; the first m keys -/
def CWD (σ : jH) (b : Int) (φ : Int → Int) (s : wS) (m : Int) : Prop := σ b 0 = s.1 ∧ (∀ p, 0 ≤ p → p < s.1 → σ (b + 4) p = s.2.2.1 p ∧ σ (b + 5) p = cq s.2.2.1 p.toNat (s.2.2.1 p) ∧ σ (b + 6) p = s.2.2.2.1 p) ∧ (∀ p, 0 ≤ p → p < m → KKV σ (b + 1) p (km φ (s.2.2.2.2.1 p))) ∧ (∀ i, 0 ≤ i → i < 40 → σ (b + 11) i = cq s.2.2.1 s.1.toNat i) ∧ (1 ≤ s.1 → KS σ (b + 14) (s.2.2.2.2.1 (s.1 - 1)) (s.2.2.2.2.2 (s.1 - 1)))
def FRW (σ τ : jH) (b : Int) : Prop := ∀ c, (c < b ∨ b + 14 < c) → τ c = σ c
theorem FRW.tr {σ τ υ : jH} {b : Int} (h : FRW σ τ b) (h' : FRW τ υ b) : FRW σ υ b := fun c hc => (h' c hc).trans (h c hc)
theorem FRW.rf {σ : jH} {b : Int} : FRW σ σ b := fun _ _ => rfl
theorem c_beginWord {b i : Int} {φ : Int → Int} {σ : jH} {s : wS} (hW : isWords b) (C : CWD σ b φ s s.1) (K : wok s) (h0 : s.1 < 300) (i0 : 0 ≤ i) (i1 : i < 40) : Cw 11 m_Words_beginWord [vR b, vI i] σ (fun _ τ => CWD τ b φ (wnew i s) s.1 ∧ FRW σ τ b) := by
  skip
  obtain ⟨C1, C2, C3, C4, C5⟩ := C
  have s0 := K.1
  have hc := cq_r s.2.2.1 i s.1.toNat
  refine Cw_of o_Words_beginWord rfl fun l d hd => jwp_sound t_Words_beginWord _ (b_Words_beginWord_0 ?_)
  simp only [RW, true_and, and_true, and_self, true_or, or_true, Nat.reduceLeDiff, Nat.reduceEqDiff, Nat.reduceAdd, Int.reduceLE, Int.reduceLT, Int.reduceEq, Int.reduceNeg, Int.reduceNe, Nat.reduceSub, reduceIte, implies_true, wd_t hW, wd_r1 hW, wd_t1 hW, wd_r2 hW, wd_t2 hW, wd_r3 hW, wd_t3 hW, wd_r4 hW, wd_t4 hW, wd_r5 hW, wd_t5 hW, wd_r6 hW, wd_t6 hW, wd_r7 hW, wd_t7 hW, wd_r8 hW, wd_t8 hW, wd_r10 hW, wd_t10 hW, wd_r11 hW, wd_t11 hW, wd_r12 hW, wd_t12 hW, wd_r13 hW, wd_t13 hW]
  refine cN_v (c_Key_clear (isWords_k hW) _) (by omega) (fun _ => ?_)
  have e0 : ∀ c, c ≠ b + 14 → ju (ju (ju σ (b + 14) 0 0) (b + 14) 1 0) (b + 14) 2 0 c = σ c := fun c hc => by rw [ju_row hc, ju_row hc, ju_row hc]
  have k0 : ju (ju (ju σ (b + 14) 0 0) (b + 14) 1 0) (b + 14) 2 0 (b + 14) 0 = 0 := by rw [ju_ne2 (by omega), ju_ne2 (by omega), ju_self]
  have k1 : ju (ju (ju σ (b + 14) 0 0) (b + 14) 1 0) (b + 14) 2 0 (b + 14) 1 = 0 := by rw [ju_ne2 (by omega), ju_self]
  have k2 : ju (ju (ju σ (b + 14) 0 0) (b + 14) 1 0) (b + 14) 2 0 (b + 14) 2 = 0 := ju_self
  generalize ju (ju (ju σ (b + 14) 0 0) (b + 14) 1 0) (b + 14) 2 0 = σ1 at e0 k0 k1 k2 ⊢
  have c1 : σ1 b 0 = s.1 := by rw [e0 b (by omega)]; exact C1
  have c2 : ∀ j v, ju σ1 (b + 4) j v b 0 = s.1 := fun j v => by rw [ju_row (by omega)]; exact c1
  have c3 : ∀ j v j' v', ju (ju σ1 (b + 4) j v) (b + 5) j' v' b 0 = s.1 := fun j v j' v' => by rw [ju_row (by omega)]; exact c2 j v
  have c4 : ∀ j v j' v' j2 v2, ju (ju (ju σ1 (b + 4) j v) (b + 5) j' v') (b + 6) j2 v2 b 0 = s.1 := fun j v j' v' j2 v2 => by rw [ju_row (by omega)]; exact c3 j v j' v'
  have c5 : ∀ j v j' v' j2 v2 j3 v3, ju (ju (ju (ju σ1 (b + 4) j v) (b + 5) j' v') (b + 6) j2 v2) (b + 11) j3 v3 b 0 = s.1 := fun j v j' v' j2 v2 j3 v3 => by rw [ju_row (by omega)]; exact c4 j v j' v' j2 v2
  have b1 : ju σ1 (b + 4) s.1 i (b + 11) i = cq s.2.2.1 s.1.toNat i := by rw [ju_row (by omega), e0 _ (by omega), C4 i i0 i1]
  have b2 : ju (ju (ju σ1 (b + 4) s.1 i) (b + 5) s.1 (cq s.2.2.1 s.1.toNat i)) (b + 6) s.1 0 (b + 11) i = cq s.2.2.1 s.1.toNat i := by rw [ju_row (by omega), ju_row (by omega), b1]
  simp only [c1, c2, c3, c4, c5, b1, b2]
  refine ⟨fun q => absurd q (by omega), fun _ => ⟨fun q => absurd q (by omega), fun _ => ⟨fun q => absurd q (by omega), fun _ => ⟨fun q => absurd q (by omega), fun _ => ?_⟩⟩⟩⟩
  repeat (refine And.intro (by omega) ?_)
  rw [w32_of (x := s.1 + 1) (by omega) (by omega), w32_of (x := cq s.2.2.1 s.1.toNat i + 1) (by omega) (by omega)]
  have cqu : ∀ (m : Nat) (v : Int), (m : Int) ≤ s.1 → cq (up s.2.2.1 s.1 i) m v = cq s.2.2.1 m v := fun m v hm => cq_eq (fun q a b => up_ne (by omega))
  refine ⟨⟨?_, fun p p0 p1 => ?_, fun p p0 p1 => ?_, fun j j0 j1 => ?_, fun _ => ?_⟩, fun c hc => ?_⟩
  · rw [ju_self]
    rfl
  · have p2 : p < s.1 + 1 := p1
    show _ = up s.2.2.1 s.1 i p ∧ _ = cq (up s.2.2.1 s.1 i) p.toNat (up s.2.2.1 s.1 i p) ∧ _ = up s.2.2.2.1 s.1 0 p
    rw [cqu _ _ (by omega)]
    simp (disch := omega) only [ju_row]
    by_cases hp : p = s.1
    · subst hp
      rw [up_self, up_self]
      simp (disch := omega) only [ju_row, ju_self, and_self]
    · rw [up_ne hp, up_ne hp]
      simp (disch := omega) only [ju_ne2, ju_row, e0]
      exact C2 p p0 (by omega)
  · show KKV _ _ _ (km φ (up s.2.2.2.2.1 s.1 0 p))
    rw [up_ne (by omega)]
    unfold KKV
    have := C3 p p0 p1
    unfold KKV at this
    simp (disch := omega) only [ju_row, e0]
    exact this
  · show _ = cq (up s.2.2.1 s.1 i) (s.1 + 1).toNat j
    rw [show (s.1 + 1).toNat = s.1.toNat + 1 by omega]
    simp only [cq]
    rw [cqu _ _ (by omega), show ((s.1.toNat : Nat) : Int) = s.1 by omega, up_self, ju_row (by omega : b + 11 ≠ b)]
    by_cases hj : j = i
    · subst hj
      rw [ju_self, if_pos rfl]
    · simp (disch := omega) only [ju_ne2, ju_row, e0]
      rw [C4 j j0 j1, if_neg (fun x => hj x.symm)]
      omega
  · show KS _ _ (up s.2.2.2.2.1 s.1 0 (s.1 + 1 - 1)) (up s.2.2.2.2.2 s.1 0 (s.1 + 1 - 1))
    rw [show s.1 + 1 - 1 = s.1 by omega, up_self, up_self]
    unfold KS
    simp (disch := omega) only [ju_row]
    rw [k0, k1, k2]
    exact ⟨by omega, by omega, by omega, by unfold dv32; exact Int.zero_emod _, by omega, by omega, by omega⟩
  · simp (disch := omega) only [ju_row, e0]
theorem cwd_add {b x : Int} {φ : Int → Int} {σ τ : jH} {s : wS} (C : CWD σ b φ s (s.1 - 1)) (h : 1 ≤ s.1) (hK : KS τ (b + 14) (kad (s.2.2.2.2.1 (s.1 - 1)) (s.2.2.2.2.2 (s.1 - 1)) x) (min (s.2.2.2.2.2 (s.1 - 1) + 1) 20)) (hf : ∀ c, c ≠ b + 14 → τ c = σ c) : CWD τ b φ (wadd x s) (s.1 - 1) := by
  obtain ⟨C1, C2, C3, C4, C5⟩ := C
  refine ⟨by rw [hf b (by omega)]; exact C1, fun p p0 p1 => ?_, fun p p0 p1 => ?_, fun i i0 i1 => ?_, fun _ => ?_⟩
  · rw [hf _ (by omega), hf _ (by omega), hf _ (by omega)]
    exact C2 p p0 p1
  · show KKV _ _ _ (km φ (up s.2.2.2.2.1 (s.1 - 1) _ p))
    rw [up_ne (by omega)]
    unfold KKV
    rw [hf _ (by omega), hf _ (by omega)]
    exact C3 p p0 p1
  · rw [hf _ (by omega)]
    exact C4 i i0 i1
  · show KS _ _ (up s.2.2.2.2.1 (s.1 - 1) _ (s.1 - 1)) (up s.2.2.2.2.2 (s.1 - 1) _ (s.1 - 1))
    rw [up_self, up_self]
    exact hK
theorem c_endRun {b F : Int} {c : Bool} {φ : Int → Int} {σ : jH} {s : wS} (hW : isWords b) (tF : gW.2.1 F = (2, 26)) (hF : ∀ l, 0 ≤ l → l < 26 → σ F l = φ l) (hFb : F < b) (hφ : okρ φ) (C : CWD σ b φ s (s.1 - 1)) (h1 : 1 ≤ s.1) (h0 : s.1 ≤ 300) : Cw 11 m_Words_endRun [vR b, vR F, vI (b2i c)] σ (fun _ τ => CWD τ b φ (wend c s) s.1 ∧ FRW σ τ b) := by
  skip
  obtain ⟨C1, C2, C3, C4, C5⟩ := C
  obtain ⟨k1, k2, k3, k4, k5, k6, k7⟩ := C5 h1
  have hρ : okρ (σ F) := fun l a b => by rw [hF l a b]; exact hφ l a b
  refine Cw_of o_Words_endRun rfl fun l d hd => jwp_sound t_Words_endRun _ (b_Words_endRun_0 ?_)
  simp only [RW, true_and, and_true, and_self, true_or, or_true, Nat.reduceLeDiff, Nat.reduceEqDiff, Nat.reduceAdd, Int.reduceLE, Int.reduceLT, Int.reduceEq, Int.reduceNeg, Int.reduceNe, Nat.reduceSub, reduceIte, implies_true, wd_t hW, wd_r1 hW, wd_t1 hW, wd_r2 hW, wd_t2 hW, wd_r3 hW, wd_t3 hW, wd_r4 hW, wd_t4 hW, wd_r5 hW, wd_t5 hW, wd_r6 hW, wd_t6 hW, wd_r7 hW, wd_t7 hW, wd_r8 hW, wd_t8 hW, wd_r10 hW, wd_t10 hW, wd_r11 hW, wd_t11 hW, wd_r12 hW, wd_t12 hW, wd_r13 hW, wd_t13 hW]
  rw [C1, w32_of (x := s.1 - 1) (by omega) (by omega), k5]
  refine ⟨fun q => absurd q (by omega), fun _ => ⟨fun _ => ?_, fun q => absurd q (by omega)⟩⟩
  refine cN_p (c_Key_mapped _ tF hρ (by omega) (by omega)) (by omega) ?_
  rw [k6]
  refine cN_p (c_Key_mapped _ tF hρ (by omega) (by omega)) (by omega) ?_
  refine cN_v (c_KeyRow_put (kr_Words_1 hW) _ _ _ _) (by omega) (fun _ => ?_)
  rw [if_pos (by omega)]
  obtain ⟨K, hK⟩ : ∃ K, K = s.2.2.2.2.1 (s.1 - 1) := ⟨_, rfl⟩
  rw [← hK]
  have hkm := km_div hφ K
  have e1 : hm (σ F) 10 (K / 1125899906842624) = km φ K / 1125899906842624 := by rw [hkm.1]; exact hm_eq hF 10 _
  have e2 : hm (σ F) 10 (K % 1125899906842624) = km φ K % 1125899906842624 := by rw [hkm.2]; exact hm_eq hF 10 _
  rw [e1, e2]
  have fin : ∀ υ : jH, υ b 0 = σ b 0 → (∀ p, υ (b + 4) p = σ (b + 4) p) → (∀ p, υ (b + 5) p = σ (b + 5) p) → (∀ p, 0 ≤ p → p < s.1 → υ (b + 6) p = (if c = true then up s.2.2.2.1 (s.1 - 1) 1 else s.2.2.2.1) p) → (∀ p, υ (b + 1 + 1) p = ju σ (b + 1 + 1) (s.1 - 1) (km φ K / 1125899906842624) (b + 1 + 1) p) → (∀ p, υ (b + 1 + 2) p = ju σ (b + 1 + 2) (s.1 - 1) (km φ K % 1125899906842624) (b + 1 + 2) p) → (∀ p, υ (b + 11) p = σ (b + 11) p) → (∀ p, υ (b + 14) p = σ (b + 14) p) → K = s.2.2.2.2.1 (s.1 - 1) → CWD υ b φ (wend c s) s.1 := by
    intro υ u1 u2 u3 u4 u5 u6 u7 u8 hK
    refine ⟨u1.trans C1, fun p p0 p1 => ?_, fun p p0 p1 => ?_, fun i i0 i1 => ?_, fun _ => ?_⟩
    · rw [u2, u3]
      exact ⟨(C2 p p0 p1).1, (C2 p p0 p1).2.1, u4 p p0 p1⟩
    · show KKV _ _ _ (km φ (s.2.2.2.2.1 p))
      unfold KKV
      rw [u5, u6]
      by_cases hp : p = s.1 - 1
      · rw [hp, ju_self, ju_self, ← hK]
        exact ⟨rfl, rfl⟩
      · rw [ju_ne2 hp, ju_ne2 hp]
        exact C3 p p0 (by omega)
    · rw [u7]
      exact C4 i i0 i1
    · show KS _ _ (s.2.2.2.2.1 (s.1 - 1)) (s.2.2.2.2.2 (s.1 - 1))
      have := C5 h1
      unfold KS at this ⊢
      rw [u8, u8, u8]
      exact this
  have row2 : ∀ (υ : jH) (A B i v w p : Int), A ≠ B → ju (ju υ A i v) B i w B p = ju υ B i w B p := by
    intro υ A B i v w p hAB
    unfold ju
    by_cases hp : p = i
    · rw [if_pos ⟨rfl, hp⟩, if_pos ⟨rfl, hp⟩]
    · rw [if_neg (fun x => hp x.2), if_neg (fun x => hp x.2), if_neg (fun x => hp x.2)]
  cases c
  · refine ⟨fun _ => ⟨fin _ ?_ (fun p => ?_) (fun p => ?_) (fun p p0 p1 => ?_) (fun p => ?_) (fun p => ?_) (fun p => ?_) (fun p => ?_) hK, fun d hd => ?_⟩, fun q => absurd rfl q⟩
    · rw [ju_row (by omega), ju_row (by omega)]
    · rw [ju_row (by omega), ju_row (by omega)]
    · rw [ju_row (by omega), ju_row (by omega)]
    · rw [ju_row (by omega), ju_row (by omega), if_neg (by simp)]
      exact (C2 p p0 p1).2.2
    · rw [ju_row (by omega)]
    · exact row2 _ _ _ _ _ _ _ (by omega)
    · rw [ju_row (by omega), ju_row (by omega)]
    · rw [ju_row (by omega), ju_row (by omega)]
    · rw [ju_row (by omega), ju_row (by omega)]
  · refine ⟨fun q => (by cases q), fun _ => ⟨by omega, by omega, fin _ ?_ (fun p => ?_) (fun p => ?_) (fun p p0 p1 => ?_) (fun p => ?_) (fun p => ?_) (fun p => ?_) (fun p => ?_) hK, fun d hd => ?_⟩⟩
    · rw [ju_row (by omega), ju_row (by omega), ju_row (by omega)]
    · rw [ju_row (by omega), ju_row (by omega), ju_row (by omega)]
    · rw [ju_row (by omega), ju_row (by omega), ju_row (by omega)]
    · rw [if_pos rfl]
      by_cases hp : p = s.1 - 1
      · rw [hp, ju_self, up_self]
      · rw [ju_ne2 hp, ju_row (by omega), ju_row (by omega), up_ne hp]
        exact (C2 p p0 p1).2.2
    · rw [ju_row (by omega), ju_row (by omega)]
    · rw [ju_row (by omega)]
      exact row2 _ _ _ _ _ _ _ (by omega)
    · rw [ju_row (by omega), ju_row (by omega), ju_row (by omega)]
    · rw [ju_row (by omega), ju_row (by omega), ju_row (by omega)]
    · rw [ju_row (by omega), ju_row (by omega), ju_row (by omega)]
