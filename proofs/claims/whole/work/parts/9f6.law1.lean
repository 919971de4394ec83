/-! The law: what a call leaves as it was -/
section L0
variable {ω ω' : Int → Int} {σ τ υ : jH}
theorem eqr_rk (H : EQR ω' ω) {A : Int} (V : RV ω A) (h : 5 ≤ A ∧ A + 20 < 2597) : RV ω' A ∧ rk ω' A = rk ω A ∧ ω' A = ω A := by
  obtain ⟨v1, v2, v3⟩ := V
  have e : ω' A = ω A := H A (by omega) (by omega) (by omega) (by omega)
  refine ⟨⟨by omega, by omega, fun j a b => by rw [H _ (by omega) (by omega) (by omega) (by omega)]; exact v3 j a (by omega)⟩, rk_eq e (fun j a b => H _ (by omega) (by omega) (by omega) (by omega)), e⟩
theorem eqr_fcnt (H : EQR ω' ω) : ∀ n : Nat, n ≤ 26 → fcnt ω' n = fcnt ω n
  | 0, _ => rfl
  | n + 1, h => by
    simp only [fcnt]
    rw [eqr_fcnt H n (by omega), H _ (by omega) (by omega) (by omega) (by omega)]
theorem eqr_km (H : EQR ω' ω) (K : Int) : km (fo ω') K = km (fo ω) K := hm_eq (fun x a b => by
  unfold fo
  rw [H _ (by omega) (by omega) (by omega) (by omega)]) 20 K
theorem eqr_rlo (H : EQR ω' ω) (U : RLO ω) : RLO ω' := by
  obtain ⟨u1, u2, u3, u4, u5⟩ := U
  unfold RLO
  rw [H 0 (by omega) (by omega) (by omega) (by omega), H 1 (by omega) (by omega) (by omega) (by omega), H 2 (by omega) (by omega) (by omega) (by omega)]
  refine ⟨u1, u2, u3, fun s a b => ?_, fun r a b => ?_⟩
  · obtain ⟨v, w⟩ := u4 s a b
    obtain ⟨x, _, z⟩ := eqr_rk H v (by omega)
    exact ⟨x, by omega⟩
  · obtain ⟨v, w⟩ := u5 r a b
    rw [H _ (by omega) (by omega) (by omega) (by omega)]
    refine ⟨v, fun i c e => ?_⟩
    obtain ⟨v2, w2⟩ := w i c e
    obtain ⟨x, _, z⟩ := eqr_rk H v2 (by omega)
    exact ⟨x, by omega⟩
theorem eqr_rls (H : EQR ω' ω) (U : RLO ω) {r : Int} (S : RLS σ r ω) : RLS σ r ω' := by
  obtain ⟨u1, u2, u3, u4, u5⟩ := U
  obtain ⟨⟨s0, s1, s2, s3⟩, s4, s5⟩ := S
  unfold RLS
  rw [H 0 (by omega) (by omega) (by omega) (by omega), H 1 (by omega) (by omega) (by omega) (by omega), H 2 (by omega) (by omega) (by omega) (by omega), eqr_fcnt H 26 (by omega)]
  refine ⟨⟨s0, s1, s2, s3⟩, fun s a b => ?_, fun t a b => ?_⟩
  · have e : wst0 ω' s = wst0 ω s := by
      unfold wst0
      rw [eqr_km H, (eqr_rk H (u4 s a b).1 (by omega)).2.1]
    rw [e]
    exact s4 s a b
  · obtain ⟨v, w⟩ := u5 t a b
    obtain ⟨x, y, z⟩ := s5 t a b
    have e : ∀ i, 0 ≤ i → i < ω (477 + 106 * t) → wrt ω' t i = wrt ω t i := fun i c g => by
      unfold wrt
      rw [eqr_km H, (eqr_rk H (w i c g).1 (by omega)).2.1]
    rw [H _ (by omega) (by omega) (by omega) (by omega), e 0 (by omega) (by omega)]
    refine ⟨x, y, fun i c g => ?_⟩
    rw [e (i + 1) (by omega) (by omega)]
    exact z i c g
theorem hi_rk (H : ∀ j, 7477 ≤ j → ω' j = ω j) {A : Int} (V : RV ω A) (h : 7477 ≤ A) : RV ω' A ∧ rk ω' A = rk ω A := by
  obtain ⟨v1, v2, v3⟩ := V
  have e : ω' A = ω A := H A h
  exact ⟨⟨by omega, by omega, fun j a b => by rw [H _ (by omega)]; exact v3 j a (by omega)⟩, rk_eq e (fun j a b => H _ (by omega))⟩
theorem hi_spo (H : ∀ j, 7477 ≤ j → ω' j = ω j) (S : SPO ω) : SPO ω' := fun q a b => (hi_rk H (S q a b) (by omega)).1
theorem hi_spc (H : ∀ j, 7477 ≤ j → ω' j = ω j) (S : SPO ω) {o : Int} (P : SPC σ o ω) : SPC σ o ω' := fun q a b => by
  rw [(hi_rk H (S q a b) (by omega)).2]
  exact P q a b
theorem spc_eq {o : Int} (h1 : τ (o + 21) = σ (o + 21)) (h2 : τ (o + 22) = σ (o + 22)) (P : SPC σ o ω) : SPC τ o ω := fun q a b => by
  have := P q a b
  unfold KKV at this ⊢
  rw [show o + 20 + 1 = o + 21 by omega, show o + 20 + 2 = o + 22 by omega] at this ⊢
  rw [h1, h2]
  exact this
theorem lay_eqr {e i n : Int} {t : Int → Int} (Y : LYE ω e i n) : EQR (lay ω e i n t) ω := fun j a b c f => lay_low Y b (by omega)
theorem lay_hi {e i n : Int} {t : Int → Int} (Y : LYE ω e i n) : ∀ j, 7477 ≤ j → lay ω e i n t j = ω j := fun j h => lay_o Y (by have := Y.1; omega) (by have := Y.1; have := Y.2.2.1; unfold lA; omega)
theorem lay_out {e i n : Int} {t : Int → Int} (Y : LYE ω e i n) (Z : ∀ j, (j < 0 ∨ 32677 ≤ j) → ω j = 0) : ∀ j, (j < 0 ∨ 32677 ≤ j) → lay ω e i n t j = 0 := fun j h => by
  rw [lay_o Y (by have := Y.1; omega) (by have := Y.1; have := Y.2.2.1; unfold lA; omega)]
  exact Z j h
theorem img_lay {e i n : Int} {t : Int → Int} (Y : LYE ω e i n) (O : OMG ω) (I : IMG σ 3 ω) (C : CFR τ (lay ω e i n t)) (F : ∀ c, (c < 18 ∨ 22 < c) → c ≠ 97 → c ≠ 135 → τ c = σ c) : IMG τ 3 (lay ω e i n t) ∧ OMG (lay ω e i n t) := by
  obtain ⟨i1, i2, i3, i4⟩ := I
  refine ⟨⟨C.2.1, RLS_eq (eqr_rls (lay_eqr Y) O.2.1 i2) (fun c a b => F c (by omega) (by omega) (by omega)), spc_eq (F _ (by omega) (by omega) (by omega)) (F _ (by omega) (by omega) (by omega)) (hi_spc (lay_hi Y) O.2.2 i3), ?_⟩, C.1, eqr_rlo (lay_eqr Y) O.2.1, hi_spo (lay_hi Y) O.2.2⟩
  rw [F _ (by omega) (by omega) (by omega)]
  exact i4
end L0
section L1
variable {m w x : Int → Int}
theorem slo_row (O : SLO m w x) {s v n : Int} (h : s_row s v n = 0) : SLO (up m s n) (up w s v) (zap x s) := by
  unfold s_row at h
  have hs : ((0 ≤ s ∧ s < 4) ∧ (0 ≤ v ∧ v < 4) ∧ n ≤ 60) ∧ ¬ n < 0 := by
    by_cases a : (0 ≤ s ∧ s < 4) ∧ (0 ≤ v ∧ v < 4) ∧ n ≤ 60
    · rw [if_pos a] at h
      by_cases b : n < 0
      · rw [if_pos b] at h
        omega
      · exact ⟨a, b⟩
    · rw [if_neg a] at h
      omega
  intro r a b
  obtain ⟨o1, o2, o3⟩ := O r a b
  unfold up zap
  by_cases q : r = s
  · rw [if_pos q, if_pos q]
    refine ⟨by omega, by omega, fun i c e => ?_⟩
    rw [if_pos (by omega)]
    unfold r64
    omega
  · rw [if_neg q, if_neg q]
    refine ⟨o1, o2, fun i c e => ?_⟩
    rw [if_neg (by omega)]
    exact o3 i c e
theorem w8_q (v : Int) : -128 ≤ w8 v ∧ w8 v < 128 := by
  unfold w8
  omega
theorem w16_q (v : Int) : -32768 ≤ w16 v ∧ w16 v < 32768 := by
  unfold w16
  omega
theorem w32_q (v : Int) : -2147483648 ≤ w32 v ∧ w32 v < 2147483648 := by
  unfold w32
  omega
theorem slo_write (O : SLO m w x) {s i v : Int} (hv : r64 v) (h : s_write m s i = 0) : SLO m w (up x (60 * s + i) (cutv v (w s))) := by
  have hs : (0 ≤ s ∧ s < 4) ∧ 0 ≤ i ∧ i < m s := by
    unfold s_write at h
    by_cases a : 0 ≤ s ∧ s < 4
    · rw [if_pos a] at h
      by_cases b : m s = -1
      · rw [if_pos b] at h
        omega
      · rw [if_neg b] at h
        by_cases c : 0 ≤ i ∧ i < m s
        · exact ⟨a, c⟩
        · rw [if_neg c] at h
          omega
    · rw [if_neg a] at h
      omega
  intro r a b
  obtain ⟨o1, o2, o3⟩ := O r a b
  have os := O s hs.1.1 hs.1.2
  refine ⟨o1, o2, fun j c e => ?_⟩
  unfold up
  by_cases q : 60 * r + j = 60 * s + i
  · have e1 : r = s := by omega
    rw [if_pos q, e1]
    have a8 := w8_q (w32 v)
    have a16 := w16_q (w32 v)
    have a32 := w32_q v
    unfold cutv
    unfold r64 at hv ⊢
    refine ⟨?_, fun z => ?_⟩
    · split
      · omega
      · split
        · omega
        · split
          · omega
          · exact hv
    · rw [if_pos z]
      exact a8
  · rw [if_neg q]
    exact o3 j c e
theorem slo_paste (O : SLO m w x) {s i t k n : Int} (h : s_paste m w s i t k n = 0) : SLO m w (mvd x (60 * s + i) (60 * t + k) n) := by
  have hs : ((0 ≤ s ∧ s < 4) ∧ 0 ≤ t ∧ t < 4) ∧ w s = w t ∧ (0 ≤ i ∧ 0 ≤ n ∧ i + n ≤ m s) ∧ 0 ≤ k ∧ 0 ≤ n ∧ k + n ≤ m t := by
    unfold s_paste at h
    by_cases a : (0 ≤ s ∧ s < 4) ∧ 0 ≤ t ∧ t < 4
    · rw [if_pos a] at h
      by_cases b : m s = -1 ∨ m t = -1
      · rw [if_pos b] at h
        omega
      · rw [if_neg b] at h
        by_cases c : w s ≠ w t
        · rw [if_pos c] at h
          omega
        · rw [if_neg c] at h
          by_cases f : (0 ≤ i ∧ 0 ≤ n ∧ i + n ≤ m s) ∧ 0 ≤ k ∧ 0 ≤ n ∧ k + n ≤ m t
          · exact ⟨a, Classical.not_not.mp c, f⟩
          · rw [if_neg f] at h
            omega
    · rw [if_neg a] at h
      omega
  intro r a b
  obtain ⟨o1, o2, o3⟩ := O r a b
  have os := O s hs.1.1.1 hs.1.1.2
  have ot := O t hs.1.2.1 hs.1.2.2
  refine ⟨o1, o2, fun j c e => ?_⟩
  unfold mvd
  by_cases q : 60 * t + k ≤ 60 * r + j ∧ 60 * r + j < 60 * t + k + n
  · have e1 : r = t := by omega
    rw [if_pos q]
    have := os.2.2 (i + (60 * r + j - (60 * t + k))) (by omega) (by omega)
    rw [show 60 * s + (i + (60 * r + j - (60 * t + k))) = 60 * s + i + (60 * r + j - (60 * t + k)) by omega] at this
    exact ⟨this.1, fun z => this.2 (by rw [hs.2.1, ← e1]; exact z)⟩
  · rw [if_neg q]
    exact o3 j c e
end L1
/-! The invariant of the law's loop -/
def CL (σ : jH) (ω : Int → Int) (n : Int) (t m w x : Int → Int) (η : Int → Bool) (ψ : Int → Int → Int) : Prop := CFR σ ω ∧ IMG σ 3 ω ∧ TPC σ n t ∧ SLC σ m w x ∧ KPC σ η ψ ∧ KBD σ ∧ LKI σ ω
def RL (σ : jH) (ω : Int → Int) (n : Int) (t m w x : Int → Int) (η : Int → Bool) (ψ : Int → Int → Int) : Prop := RFR σ ω ∧ ALP σ ∧ TPR σ n t ∧ SLR σ m w x ∧ KPR σ η ψ
def OUT (ω : Int → Int) : Prop := ∀ j, (j < 0 ∨ 32677 ≤ j) → ω j = 0
def BYT (t : Int → Int) : Prop := ∀ j, -128 ≤ t j ∧ t j < 128
def CORE (ω t m w x : Int → Int) (η : Int → Bool) (ψ : Int → Int → Int) : Prop := OMG ω ∧ OUT ω ∧ BYT t ∧ SLO m w x ∧ ∀ k, 0 ≤ k → k ≤ 2 → η k = true → OUT (ψ k)
/-- what later calls ask of earlier ones -/
def AUX (σ : jH) : Prop := (∃ N f, SHC σ N f ∧ SHR σ N f) ∧ (∃ N f g, RKC σ N f g ∧ RKR σ N f g) ∧ (∃ F N, BGC σ F N ∧ BGQ σ F N) ∧ (∃ pg N, PGC σ pg ∧ PGQ σ pg N ∧ N ≤ 600) ∧ (∃ N f g h, ANC σ N f g h ∧ ANR σ N f g h) ∧ σ 140 6 = σ 189 22 ∧ σ 140 7 = σ 189 23
def INV (σ : jH) : Prop := ∃ (ω : Int → Int) (n : Int) (t m w x : Int → Int) (η : Int → Bool) (ψ : Int → Int → Int), CORE ω t m w x η ψ ∧ CL σ ω n t m w x η ψ ∧ RL σ ω n t m w x η ψ ∧ AUX σ
def PR (l : Launch) (d : Nat) (m1 m2 : jM) (a1 a2 : List jV) (σ : jH) : Prop := cN l d m1 a1 gW σ (fun z τ => cN l d m2 a2 gW τ (fun y υ => y = z ∧ INV υ))
section L2
variable {σ τ υ : jH} {ω t t' m w x : Int → Int} {n n' : Int} {η : Int → Bool} {ψ : Int → Int → Int}
theorem CL.of (L : CL σ ω n t m w x η ψ) (C : CFR τ ω) (T : TPC τ n' t') (h : ∀ c, (3 ≤ c ∧ c ≤ 96) ∨ (135 ≤ c ∧ c ≤ 139) ∨ (146 ≤ c ∧ c ≤ 153) ∨ (185 ≤ c ∧ c ≤ 187) → τ c = σ c) : CL τ ω n' t' m w x η ψ := by
  obtain ⟨c1, c2, c3, c4, c5, c6, c7, c8⟩ := L
  refine ⟨C, IMG_eq (fun c a b => h c (by omega)) c2, T, fun s a b => ?_, KPC_eq (fun c a b => h c (by omega)) c5, c6.eq (fun c a b => h c (by omega)), ?_, ?_⟩
  · rw [h 187 (by omega), h 186 (by omega), h 185 (by omega)]
    exact c4 s a b
  · unfold LKD at c7 ⊢
    rw [h 135 (by omega), h 136 (by omega)]
    exact c7
  · unfold LKH at c8 ⊢
    rw [h 135 (by omega)]
    exact c8
theorem CL.sl (L : CL σ ω n t m w x η ψ) {m' w' x' : Int → Int} (S : SLC τ m' w' x') (h : ∀ c, c ≠ 185 → c ≠ 186 → c ≠ 187 → τ c = σ c) : CL τ ω n t m' w' x' η ψ := by
  obtain ⟨c1, c2, c3, c4, c5, c6, c7, c8⟩ := L
  refine ⟨c1.of1 (fun c a b => h c (by omega) (by omega) (by omega)), IMG_eq (fun c a b => h c (by omega) (by omega) (by omega)) c2, ?_, S, KPC_eq (fun c a b => h c (by omega) (by omega) (by omega)) c5, c6.eq (fun c a b => h c (by omega) (by omega) (by omega)), ?_, ?_⟩
  · unfold TPC at c3 ⊢
    rw [h 1 (by omega) (by omega) (by omega), h 2 (by omega) (by omega) (by omega)]
    exact c3
  · unfold LKD at c7 ⊢
    rw [h 135 (by omega) (by omega) (by omega), h 136 (by omega) (by omega) (by omega)]
    exact c7
  · unfold LKH at c8 ⊢
    rw [h 135 (by omega) (by omega) (by omega)]
    exact c8
theorem RL.of (L : RL σ ω n t m w x η ψ) (T : TPR τ n' t') (h : ∀ c, (190 ≤ c ∧ c ≤ 200) ∨ (229 ≤ c ∧ c ≤ 231) → τ c = σ c) (h10 : τ 189 10 = σ 189 10) : RL τ ω n' t' m w x η ψ := by
  obtain ⟨r1, r2, r3, r4, r5⟩ := L
  refine ⟨r1.of2 (fun c a b => h c (by omega)) h10, fun l a b => by rw [h 200 (by omega)]; exact r2 l a b, T, fun s a b => ?_, fun k a b => ?_⟩
  · rw [h 229 (by omega), h 230 (by omega), h 231 (by omega)]
    exact r4 s a b
  · rw [h 191 (by omega), h 192 (by omega)]
    exact r5 k a b
theorem RL.to (L : RL σ ω n t m w x η ψ) (h : ∀ c, 189 ≤ c → τ c = σ c) : RL τ ω n t m w x η ψ := L.of (by
  have c3 := L.2.2.1
  unfold TPR at c3 ⊢
  rw [h 189 (by omega), h 202 (by omega)]
  exact c3) (fun c hc => h c (by omega)) (by rw [h 189 (by omega)])
theorem CL.to (L : CL σ ω n t m w x η ψ) (h : ∀ c, c ≤ 188 → τ c = σ c) : CL τ ω n t m w x η ψ := L.of (L.1.of1 (fun c a b => h c (by omega))) (by
  have c3 := L.2.2.1
  unfold TPC at c3 ⊢
  rw [h 1 (by omega), h 2 (by omega)]
  exact c3) (fun c hc => h c (by omega))
theorem CL.q (L : CL σ ω n t m w x η ψ) (F : FRQ σ τ ω) : CL τ ω n t m w x η ψ := L.of (L.1.of F) (by
  have c3 := L.2.2.1
  unfold TPC at c3 ⊢
  rw [F.1 1 (by omega), F.1 2 (by omega)]
  exact c3) (fun c hc => F.1 c (by omega))
def AXC (σ τ : jH) : Prop := (τ 1 12 = σ 1 12 ∧ τ 180 = σ 180) ∧ (τ 1 15 = σ 1 15 ∧ τ 181 = σ 181 ∧ τ 182 = σ 182) ∧ (τ 1 16 = σ 1 16 ∧ τ 1 17 = σ 1 17) ∧ τ 183 = σ 183 ∧ (τ 157 9 = σ 157 9 ∧ τ 176 = σ 176 ∧ τ 177 = σ 177 ∧ τ 178 = σ 178) ∧ τ 140 6 = σ 140 6 ∧ τ 140 7 = σ 140 7
def AXR (σ τ : jH) : Prop := (τ 189 36 = σ 189 36 ∧ τ 221 = σ 221) ∧ (τ 189 41 = σ 189 41 ∧ τ 224 = σ 224 ∧ τ 225 = σ 225) ∧ (τ 189 43 = σ 189 43 ∧ τ 226 = σ 226) ∧ (τ 189 46 = σ 189 46 ∧ τ 228 = σ 228) ∧ (τ 189 33 = σ 189 33 ∧ τ 219 = σ 219) ∧ τ 189 22 = σ 189 22 ∧ τ 189 23 = σ 189 23
theorem AUX.of (A : AUX σ) (h : AXC σ τ) (h' : AXR σ τ) : AUX τ := by
  obtain ⟨⟨N1, f1, a1, b1⟩, ⟨N2, f2, g2, a2, b2⟩, ⟨F3, N3, a3, b3⟩, ⟨p4, N4, a4, b4, c4⟩, ⟨N5, f5, g5, h5, a5, b5⟩, q1, q2⟩ := A
  obtain ⟨⟨x1, x2⟩, ⟨x3, x4, x5⟩, ⟨x6, x7⟩, x8, ⟨x9, x10, x11, x12⟩, x13, x14⟩ := h
  obtain ⟨⟨y1, y2⟩, ⟨y3, y4, y5⟩, ⟨y6, y7⟩, ⟨y8, y9⟩, ⟨y10, y11⟩, y12, y13⟩ := h'
  refine ⟨⟨N1, f1, ?_, ?_⟩, ⟨N2, f2, g2, ?_, ?_⟩, ⟨F3, N3, ?_, ?_⟩, ⟨p4, N4, ?_, ?_, c4⟩, ⟨N5, f5, g5, h5, ?_, ?_⟩, by rw [x13, y12]; exact q1, by rw [x14, y13]; exact q2⟩
  · unfold SHC at a1 ⊢
    rw [x1, x2]
    exact a1
  · unfold SHR at b1 ⊢
    rw [y1, y2]
    exact b1
  · unfold RKC at a2 ⊢
    rw [x3, x4, x5]
    exact a2
  · unfold RKR at b2 ⊢
    rw [y3, y4, y5]
    exact b2
  · unfold BGC at a3 ⊢
    rw [x6, x7]
    exact a3
  · unfold BGQ at b3 ⊢
    rw [y6, y7]
    exact b3
  · unfold PGC at a4 ⊢
    rw [x8]
    exact a4
  · unfold PGQ at b4 ⊢
    rw [y8, y9]
    exact b4
  · unfold ANC at a5 ⊢
    rw [x9, x10, x11, x12]
    exact a5
  · unfold ANR at b5 ⊢
    rw [y10, y11]
    exact b5
theorem AXC.q (F : FRQ σ τ ω) : AXC σ τ := ⟨⟨by rw [F.1 1 (by omega)], F.1 180 (by omega)⟩, ⟨by rw [F.1 1 (by omega)], F.1 181 (by omega), F.1 182 (by omega)⟩, ⟨by rw [F.1 1 (by omega)], by rw [F.1 1 (by omega)]⟩, F.1 183 (by omega), ⟨by rw [F.1 157 (by omega)], F.1 176 (by omega), F.1 177 (by omega), F.1 178 (by omega)⟩, by rw [F.1 140 (by omega)], by rw [F.1 140 (by omega)]⟩
theorem AXC.to (h : ∀ c, c ≤ 188 → τ c = σ c) : AXC σ τ := ⟨⟨by rw [h 1 (by omega)], h 180 (by omega)⟩, ⟨by rw [h 1 (by omega)], h 181 (by omega), h 182 (by omega)⟩, ⟨by rw [h 1 (by omega)], by rw [h 1 (by omega)]⟩, h 183 (by omega), ⟨by rw [h 157 (by omega)], h 176 (by omega), h 177 (by omega), h 178 (by omega)⟩, by rw [h 140 (by omega)], by rw [h 140 (by omega)]⟩
theorem AXR.to (h : ∀ c, 189 ≤ c → c ≠ 201 → c ≠ 222 → τ c = σ c) : AXR σ τ := ⟨⟨by rw [h 189 (by omega) (by omega) (by omega)], h 221 (by omega) (by omega) (by omega)⟩, ⟨by rw [h 189 (by omega) (by omega) (by omega)], h 224 (by omega) (by omega) (by omega), h 225 (by omega) (by omega) (by omega)⟩, ⟨by rw [h 189 (by omega) (by omega) (by omega)], h 226 (by omega) (by omega) (by omega)⟩, ⟨by rw [h 189 (by omega) (by omega) (by omega)], h 228 (by omega) (by omega) (by omega)⟩, ⟨by rw [h 189 (by omega) (by omega) (by omega)], h 219 (by omega) (by omega) (by omega)⟩, by rw [h 189 (by omega) (by omega) (by omega)], by rw [h 189 (by omega) (by omega) (by omega)]⟩
theorem AXC.tr (h : AXC σ τ) (h' : AXC τ υ) : AXC σ υ := ⟨⟨h'.1.1.trans h.1.1, h'.1.2.trans h.1.2⟩, ⟨h'.2.1.1.trans h.2.1.1, h'.2.1.2.1.trans h.2.1.2.1, h'.2.1.2.2.trans h.2.1.2.2⟩, ⟨h'.2.2.1.1.trans h.2.2.1.1, h'.2.2.1.2.trans h.2.2.1.2⟩, h'.2.2.2.1.trans h.2.2.2.1, ⟨h'.2.2.2.2.1.1.trans h.2.2.2.2.1.1, h'.2.2.2.2.1.2.1.trans h.2.2.2.2.1.2.1, h'.2.2.2.2.1.2.2.1.trans h.2.2.2.2.1.2.2.1, h'.2.2.2.2.1.2.2.2.trans h.2.2.2.2.1.2.2.2⟩, h'.2.2.2.2.2.1.trans h.2.2.2.2.2.1, h'.2.2.2.2.2.2.trans h.2.2.2.2.2.2⟩
theorem AXR.tr (h : AXR σ τ) (h' : AXR τ υ) : AXR σ υ := ⟨⟨h'.1.1.trans h.1.1, h'.1.2.trans h.1.2⟩, ⟨h'.2.1.1.trans h.2.1.1, h'.2.1.2.1.trans h.2.1.2.1, h'.2.1.2.2.trans h.2.1.2.2⟩, ⟨h'.2.2.1.1.trans h.2.2.1.1, h'.2.2.1.2.trans h.2.2.1.2⟩, ⟨h'.2.2.2.1.1.trans h.2.2.2.1.1, h'.2.2.2.1.2.trans h.2.2.2.1.2⟩, ⟨h'.2.2.2.2.1.1.trans h.2.2.2.2.1.1, h'.2.2.2.2.1.2.trans h.2.2.2.2.1.2⟩, h'.2.2.2.2.2.1.trans h.2.2.2.2.2.1, h'.2.2.2.2.2.2.trans h.2.2.2.2.2.2⟩
/-- a question: the class at most makes its book, the reference writes rows that are nobody's -/
theorem INV.q (K : CORE ω t m w x η ψ) (C : CL σ ω n t m w x η ψ) (R : RL σ ω n t m w x η ψ) (A : AUX σ) (F : FRQ σ τ ω) (h : ∀ c, c ≠ 201 → c ≠ 222 → υ c = τ c) : INV υ := by
  have z : ∀ c, 189 ≤ c → τ c = σ c := fun c hc => F.1 c (by omega)
  have R2 : RL υ ω n t m w x η ψ := R.of (by
    have c3 := R.2.2.1
    unfold TPR at c3 ⊢
    rw [h 189 (by omega) (by omega), h 202 (by omega) (by omega), z 189 (by omega), z 202 (by omega)]
    exact c3) (fun c hc => by rw [h c (by omega) (by omega), z c (by omega)]) (by rw [h 189 (by omega) (by omega), z 189 (by omega)])
  exact ⟨ω, n, t, m, w, x, η, ψ, K, (C.q F).to (fun c hc => h c (by omega) (by omega)), R2, A.of ((AXC.q F).tr (AXC.to (fun c hc => h c (by omega) (by omega)))) (AXR.to (fun c hc a b => by rw [h c a b, z c hc]))⟩
theorem CL.new {ω' : Int → Int} (L : CL σ ω n t m w x η ψ) (C : CFR τ ω') (I : IMG τ 3 ω') (T : TPC τ n' t') (h : ∀ c, (27 ≤ c ∧ c ≤ 96) ∨ (185 ≤ c ∧ c ≤ 187) → τ c = σ c) (B : KBD τ) (h0 : τ 135 0 = 0) (hj : ∀ j, j ≠ 0 → τ 135 j = σ 135 j) : CL τ ω' n' t' m w x η ψ := by
  obtain ⟨c1, c2, c3, c4, c5, c6, c7, c8⟩ := L
  refine ⟨C, I, T, fun s a b => ?_, KPC_eq (fun c a b => h c (by omega)) c5, B, fun q => absurd h0 q, ?_⟩
  · rw [h 187 (by omega), h 186 (by omega), h 185 (by omega)]
    exact c4 s a b
  · unfold LKH at c8 ⊢
    rw [hj 4 (by omega), hj 5 (by omega)]
    exact c8
theorem RL.new {ω' : Int → Int} (L : RL σ ω n t m w x η ψ) (R : RFR τ ω') (T : TPR τ n' t') (h : ∀ c, (c = 191 ∨ c = 192 ∨ c = 200) ∨ (229 ≤ c ∧ c ≤ 231) → τ c = σ c) : RL τ ω' n' t' m w x η ψ := by
  obtain ⟨r1, r2, r3, r4, r5⟩ := L
  refine ⟨R, fun l a b => by rw [h 200 (by omega)]; exact r2 l a b, T, fun s a b => ?_, fun k a b => ?_⟩
  · rw [h 229 (by omega), h 230 (by omega), h 231 (by omega)]
    exact r4 s a b
  · rw [h 191 (by omega), h 192 (by omega)]
    exact r5 k a b
theorem tpc_0 (h : τ 1 1 = 0) : TPC τ 0 t := ⟨h, by omega, fun j a b => by omega⟩
theorem tpr_0 (h : τ 189 15 = 0) : TPR τ 0 t := ⟨h, by omega, fun j a b => by omega⟩
theorem tpc_fr (T : TPC σ n t) (h : τ 1 1 = σ 1 1) (h2 : τ 2 = σ 2) : TPC τ n t := by
  unfold TPC at T ⊢
  rw [h, h2]
  exact T
theorem tpr_fr (T : TPR σ n t) (h : τ 189 15 = σ 189 15) (h2 : τ 202 = σ 202) : TPR τ n t := by
  unfold TPR at T ⊢
  rw [h, h2]
  exact T
theorem shc_fr {N : Int} {f : Int → Int} (a : SHC σ N f) (h : τ 1 12 = σ 1 12) (h2 : τ 180 = σ 180) : SHC τ N f := by
  unfold SHC at a ⊢
  rw [h, h2]
  exact a
theorem shr_fr {N : Int} {f : Int → Int} (a : SHR σ N f) (h : τ 189 36 = σ 189 36) (h2 : τ 221 = σ 221) : SHR τ N f := by
  unfold SHR at a ⊢
  rw [h, h2]
  exact a
theorem rkc_fr {N : Int} {f g : Int → Int} (a : RKC σ N f g) (h : τ 1 15 = σ 1 15) (h2 : τ 181 = σ 181) (h3 : τ 182 = σ 182) : RKC τ N f g := by
  unfold RKC at a ⊢
  rw [h, h2, h3]
  exact a
theorem rkr_fr {N : Int} {f g : Int → Int} (a : RKR σ N f g) (h : τ 189 41 = σ 189 41) (h2 : τ 224 = σ 224) (h3 : τ 225 = σ 225) : RKR τ N f g := by
  unfold RKR at a ⊢
  rw [h, h2, h3]
  exact a
theorem bgc_fr {F N : Int} (a : BGC σ F N) (h : τ 1 16 = σ 1 16) (h2 : τ 1 17 = σ 1 17) : BGC τ F N := by
  unfold BGC at a ⊢
  rw [h, h2]
  exact a
theorem bgq_fr {F N : Int} (a : BGQ σ F N) (h : τ 189 43 = σ 189 43) (h2 : τ 226 = σ 226) : BGQ τ F N := by
  unfold BGQ at a ⊢
  rw [h, h2]
  exact a
theorem pgc_fr {p : Int → Int} (a : PGC σ p) (h : τ 183 = σ 183) : PGC τ p := by
  unfold PGC at a ⊢
  rw [h]
  exact a
theorem pgq_fr {p : Int → Int} {N : Int} (a : PGQ σ p N) (h : τ 189 46 = σ 189 46) (h2 : τ 228 = σ 228) : PGQ τ p N := by
  unfold PGQ at a ⊢
  rw [h, h2]
  exact a
theorem anc_fr {N : Int} {f g h : Int → Int} (a : ANC σ N f g h) (h1 : τ 157 9 = σ 157 9) (h2 : τ 176 = σ 176) (h3 : τ 177 = σ 177) (h4 : τ 178 = σ 178) : ANC τ N f g h := by
  unfold ANC at a ⊢
  rw [h1, h2, h3, h4]
  exact a
theorem anr_fr {N : Int} {f g h : Int → Int} (a : ANR σ N f g h) (h1 : τ 189 33 = σ 189 33) (h2 : τ 219 = σ 219) : ANR τ N f g h := by
  unfold ANR at a ⊢
  rw [h1, h2]
  exact a
theorem rls4 (I : IMG σ 3 ω) : RLS σ 4 ω := I.2.1
theorem tp_of (T : TPC σ n t) (B : BYT t) : TP σ t n := ⟨T.2.1, fun j a b => ⟨T.2.2 j a b, B j⟩⟩
theorem tp2_of (T : TPR σ n t) (B : BYT t) : TP2 σ t n := ⟨T.2.1, fun j a b => ⟨T.2.2 j a b, B j⟩⟩
end L2
