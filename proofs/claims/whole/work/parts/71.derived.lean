/-! What follows from a row: forms, their numbers, the order; it is so in one way alone -/
abbrev dT : Type := Int × (Int → Int) × (Int → Int → Int) × (Int → Int)
def ISD (ω : Int → Int) (D : dT) : Prop := 0 ≤ D.1 ∧ (∀ f g, 0 ≤ f → f < g → g < D.1 → D.2.1 f < D.2.1 g) ∧ (∀ v, (∃ f, 0 ≤ f ∧ f < D.1 ∧ D.2.1 f = v) ↔ CO ω 2 0 v) ∧ (∀ e p, 0 ≤ e → e ≤ 1 → 0 ≤ p → p < (wW ω e).1 → 0 ≤ D.2.2.1 e p ∧ D.2.2.1 e p < D.1 ∧ D.2.1 (D.2.2.1 e p) = KEY ω e p) ∧ (∀ i, 0 ≤ i → i < D.1 → 0 ≤ D.2.2.2 i ∧ D.2.2.2 i < D.1) ∧ (∀ i j, 0 ≤ i → i < j → j < D.1 → km (rnk ω) (D.2.1 (D.2.2.2 i)) < km (rnk ω) (D.2.1 (D.2.2.2 j))) ∧ ∀ g, 0 ≤ g → g < D.1 → ∃ i, 0 ≤ i ∧ i < D.1 ∧ D.2.2.2 i = g
theorem inc_le {n : Int} {F : Int → Int} (hF : ∀ f g, 0 ≤ f → f < g → g < n → F f < F g) {a b : Int} (h0 : 0 ≤ a) (h1 : a ≤ b) (h2 : b < n) : F a ≤ F b := by
  by_cases q : a = b
  · rw [q]
    exact Int.le_refl _
  · have := hF a b h0 (by omega) h2
    omega
theorem inc_uniq {n m : Int} {F H : Int → Int} (hF : ∀ f g, 0 ≤ f → f < g → g < n → F f < F g) (hH : ∀ f g, 0 ≤ f → f < g → g < m → H f < H g) (hs : ∀ v, (∃ f, 0 ≤ f ∧ f < n ∧ F f = v) ↔ (∃ f, 0 ≤ f ∧ f < m ∧ H f = v)) (n0 : 0 ≤ n) (m0 : 0 ≤ m) : n = m ∧ ∀ f, 0 ≤ f → f < n → F f = H f := by
  have A : ∀ (k : Nat), (k : Int) < n → (k : Int) < m → F k = H k := by
    intro k
    induction k using Nat.strongRecOn with
    | ind k ih =>
    intro hn hm
    obtain ⟨c, c0, c1, c2⟩ := (hs (F k)).mp ⟨k, by omega, hn, rfl⟩
    obtain ⟨d, d0, d1, d2⟩ := (hs (H k)).mpr ⟨k, by omega, hm, rfl⟩
    have hc : (k : Int) ≤ c := by
      by_cases q : (k : Int) ≤ c
      · exact q
      · have e := ih c.toNat (by omega) (by omega) (by omega)
        rw [show ((c.toNat : Nat) : Int) = c by omega] at e
        have := hF c k c0 (by omega) hn
        omega
    have hd : (k : Int) ≤ d := by
      by_cases q : (k : Int) ≤ d
      · exact q
      · have e := ih d.toNat (by omega) (by omega) (by omega)
        rw [show ((d.toNat : Nat) : Int) = d by omega] at e
        have := hH d k d0 (by omega) hm
        omega
    have a := inc_le hH (by omega) hc c1
    have b := inc_le hF (by omega) hd d1
    omega
  have B : n = m := by
    by_cases q1 : n < m
    · obtain ⟨c, c0, c1, c2⟩ := (hs (H n)).mpr ⟨n, n0, q1, rfl⟩
      have e := A c.toNat (by omega) (by omega)
      rw [show ((c.toNat : Nat) : Int) = c by omega] at e
      have := hH c n c0 c1 q1
      omega
    · by_cases q2 : m < n
      · obtain ⟨c, c0, c1, c2⟩ := (hs (F m)).mp ⟨m, m0, q2, rfl⟩
        have e := A c.toNat (by omega) (by omega)
        rw [show ((c.toNat : Nat) : Int) = c by omega] at e
        have := hF c m c0 c1 q2
        omega
      · omega
  refine ⟨B, fun f f0 f1 => ?_⟩
  have := A f.toNat (by omega) (by omega)
  rwa [show ((f.toNat : Nat) : Int) = f by omega] at this
theorem inc_inj {n : Int} {F : Int → Int} (hF : ∀ f g, 0 ≤ f → f < g → g < n → F f < F g) {a b : Int} (a0 : 0 ≤ a) (a1 : a < n) (b0 : 0 ≤ b) (b1 : b < n) (h : F a = F b) : a = b := by
  by_cases q1 : a < b
  · have := hF a b a0 q1 b1
    omega
  · by_cases q2 : b < a
    · have := hF b a b0 q2 a1
      omega
    · omega
theorem isd_uniq {ω : Int → Int} (hφ : okρ (fo ω)) (hK : RKO ω) {D E : dT} (hD : ISD ω D) (hE : ISD ω E) : D.1 = E.1 ∧ (∀ f, 0 ≤ f → f < D.1 → D.2.1 f = E.2.1 f) ∧ (∀ e p, 0 ≤ e → e ≤ 1 → 0 ≤ p → p < (wW ω e).1 → D.2.2.1 e p = E.2.2.1 e p) ∧ ∀ i, 0 ≤ i → i < D.1 → D.2.2.2 i = E.2.2.2 i := by
  obtain ⟨d1, d2, d3, d4, d5, d6, d7⟩ := hD
  obtain ⟨e1, e2, e3, e4, e5, e6, e7⟩ := hE
  obtain ⟨u1, u2⟩ := inc_uniq d2 e2 (fun v => (d3 v).trans (e3 v).symm) d1 e1
  have hV : ∀ f, 0 ≤ f → f < D.1 → VD 20 (D.2.1 f) := by
    intro f f0 f1
    obtain ⟨e', p', a1, a2, a3, a4, a5⟩ := (d3 _).mp ⟨f, f0, f1, rfl⟩
    rw [← a5]
    exact VD_hm hφ 20 _
  refine ⟨u1, u2, fun e p a b c h => ?_, fun i i0 i1 => ?_⟩
  · obtain ⟨x1, x2, x3⟩ := d4 e p a b c h
    obtain ⟨y1, y2, y3⟩ := e4 e p a b c h
    exact inc_inj d2 x1 x2 y1 (by omega) (by rw [x3, u2 _ y1 (by omega), y3])
  · have hs : ∀ v, (∃ i, 0 ≤ i ∧ i < D.1 ∧ km (rnk ω) (D.2.1 (D.2.2.2 i)) = v) ↔ (∃ i, 0 ≤ i ∧ i < E.1 ∧ km (rnk ω) (E.2.1 (E.2.2.2 i)) = v) := by
      intro v
      constructor
      · rintro ⟨i, a, b, c⟩
        obtain ⟨x1, x2⟩ := d5 i a b
        obtain ⟨j, j0, j1, j2⟩ := e7 (D.2.2.2 i) x1 (by omega)
        refine ⟨j, j0, j1, ?_⟩
        rw [j2, ← u2 _ x1 x2]
        exact c
      · rintro ⟨i, a, b, c⟩
        obtain ⟨x1, x2⟩ := e5 i a b
        obtain ⟨j, j0, j1, j2⟩ := d7 (E.2.2.2 i) x1 (by omega)
        refine ⟨j, j0, j1, ?_⟩
        rw [j2, u2 _ x1 (by omega)]
        exact c
    have h := (inc_uniq (F := fun i => km (rnk ω) (D.2.1 (D.2.2.2 i))) (H := fun i => km (rnk ω) (E.2.1 (E.2.2.2 i))) d6 e6 hs d1 e1).2 i i0 i1
    obtain ⟨x1, x2⟩ := d5 i i0 i1
    obtain ⟨y1, y2⟩ := e5 i i0 (by omega)
    have h2 : km (rnk ω) (D.2.1 (D.2.2.2 i)) = km (rnk ω) (D.2.1 (E.2.2.2 i)) := by
      rw [u2 (E.2.2.2 i) y1 (by omega)]
      exact h
    exact inc_inj d2 x1 x2 y1 (by omega) (VD_inj hK.1 hK.2 20 _ _ (hV _ x1 x2) (hV _ y1 (by omega)) h2)
noncomputable def dD (ω : Int → Int) : dT := Classical.epsilon (ISD ω)
theorem dD_ok {ω : Int → Int} {D : dT} (h : ISD ω D) : ISD ω (dD ω) := Classical.epsilon_spec (p := ISD ω) ⟨D, h⟩
noncomputable def dn (ω : Int → Int) : Int := (dD ω).1
noncomputable def dF (ω : Int → Int) (f : Int) : Int := (dD ω).2.1 f
noncomputable def dw (ω : Int → Int) (e p : Int) : Int := (dD ω).2.2.1 e p
noncomputable def dO (ω : Int → Int) (i : Int) : Int := (dD ω).2.2.2 i
abbrev wN (ω : Int → Int) (e : Int) : Int := (wW ω e).1
/-- where the class keeps an edition's words -/
def wb (e : Int) : Int := 105 + 15 * e
theorem wb_i {e : Int} (h : 0 ≤ e ∧ e ≤ 1) : isWords (wb e) := by
  unfold isWords wb
  omega
/-- the class's book, in the row's own words -/
def CDR (σ : jH) (ω : Int → Int) : Prop := ISD ω (dD ω) ∧ dn ω ≤ 600 ∧ σ 97 1 = dn ω ∧ (∀ f, 0 ≤ f → f < dn ω → KKV σ 98 f (dF ω f) ∧ 0 ≤ dF ω f ∧ dF ω f < 1267650600228229401496703205376) ∧ (∀ e, 0 ≤ e → e ≤ 1 → CWD σ (wb e) (fo ω) (wW ω e) (wW ω e).1 ∧ (∀ p, 0 ≤ p → p < (wW ω e).1 → σ (wb e + 7) p = dw ω e p) ∧ (∀ f, 0 ≤ f → f < 600 → σ (wb e + 8) f = cq (dw ω e) (wW ω e).1.toNat f) ∧ (∀ f, 0 ≤ f → f < 600 → σ (wb e + 10) f = sq (cq (dw ω e) (wW ω e).1.toNat) f.toNat) ∧ (∀ p, 0 ≤ p → p < (wW ω e).1 → σ (wb e + 9) (lpl (dw ω e) (wW ω e).1.toNat p) = p) ∧ σ (wb e) 9 = sq (fun f => if 0 < cq (dw ω e) (wW ω e).1.toNat f then 1 else 0) 600) ∧ ∀ i, 0 ≤ i → i < dn ω → σ 101 i = dO ω i
theorem cq_fun {f g : Int → Int} {n : Nat} (h : ∀ q : Int, 0 ≤ q → q < n → f q = g q) : cq f n = cq g n := by
  funext v
  exact cq_eq h
theorem BKD.cdr {σ : jH} {ω : Int → Int} {n : Int} (W : OKW ω) (B : BKD σ ω n) : CDR σ ω := by
  obtain ⟨L0, L1, hφ, hK, c0, c1⟩ := W
  obtain ⟨F, hs, ⟨C0, C1⟩, ⟨T0, T1⟩, O⟩ := B
  have F' := F
  obtain ⟨F1, F2, F3, F4, F5⟩ := F'
  have n0 := wW_0 ω 0
  have n1 := wW_0 ω 1
  have T : ∀ e, 0 ≤ e → e ≤ 1 → LST σ σ (wb e) (fo ω) (wW ω e) n ∧ CWD σ (wb e) (fo ω) (wW ω e) (wW ω e).1 := by
    intro e a b
    have : e = 0 ∨ e = 1 := by omega
    rcases this with rfl | rfl
    · exact ⟨T0, C0⟩
    · exact ⟨T1, C1⟩
  have hD : ISD ω (n, kk σ 98, fun e p => σ (wb e + 7) p, σ 101) := ⟨F1, F5, hs, fun e p a b c d => (T e a b).1.1 p c d, O⟩
  obtain ⟨u1, u2, u3, u4⟩ := isd_uniq hφ hK hD (dD_ok hD)
  have u1' : n = dn ω := u1
  refine ⟨dD_ok hD, by omega, by omega, fun f f0 f1 => ?_, fun e a b => ?_, fun i i0 i1 => u4 i i0 (by show i < n; omega)⟩
  · have e := u2 f f0 (by show f < n; omega)
    have e2 : dF ω f = kk σ 98 f := e.symm
    rw [e2]
    exact F4 f f0 (by omega)
  · obtain ⟨⟨w1, w2, w3, w4, w5⟩, C⟩ := T e a b
    have eq : ∀ p, 0 ≤ p → p < (wW ω e).1 → σ (wb e + 7) p = dw ω e p := fun p p0 p1 => u3 e p a b p0 p1
    have we := wW_0 ω e
    have ec : cq (σ (wb e + 7)) (wW ω e).1.toNat = cq (dw ω e) (wW ω e).1.toNat := cq_fun (fun q q0 q1 => eq q q0 (by omega))
    rw [ec] at w2 w3 w5
    refine ⟨C, eq, w2, w3, fun p p0 p1 => ?_, w5⟩
    have := w4 p p0 p1
    unfold lpl at this ⊢
    rw [ec, eq p p0 p1, cq_eq (g := dw ω e) (fun q q0 q1 => eq q q0 (by omega))] at this
    exact this
/-- the reference's rows, in the row's own words -/
def RDR (σ : jH) (ω : Int → Int) : Prop := ISD ω (dD ω) ∧ dn ω ≤ 680 ∧ σ 190 = ω ∧ σ 189 10 = dn ω ∧ (∀ e, 0 ≤ e → e ≤ 1 → RWD σ e (wW ω e)) ∧ (∀ e p, 0 ≤ e → e ≤ 1 → 0 ≤ p → p < (wW ω e).1 → σ 194 (340 * e + p) = dw ω e p) ∧ (∀ f, 0 ≤ f → f < dn ω → RV (σ 198) (21 * f) ∧ rk (σ 198) (21 * f) = dF ω f) ∧ ∀ i, 0 ≤ i → i < dn ω → σ 199 i = dO ω i
theorem MKD.rdr {σ τ : jH} (M : MOK σ) (hK : RKO (σ 190)) (H : MKD σ τ) : RDR τ (σ 190) := by
  obtain ⟨n, ⟨X1, X2, X3, X4⟩, Y, O⟩ := H
  have X3' := X3
  obtain ⟨F1, F2, F3, F4, F5⟩ := X3'
  have eω : τ 190 = σ 190 := X2.1 190 (by omega) (by omega)
  have hD : ISD (σ 190) (n, fun f => rk (τ 198) (21 * f), fun e p => τ 194 (340 * e + p), τ 199) := by
    refine ⟨F1, F5, X4, fun e p a b c d => ?_, O⟩
    exact Y e p a c b d (by omega)
  obtain ⟨u1, u2, u3, u4⟩ := isd_uniq M.2.2.1 hK hD (dD_ok hD)
  have u1' : n = dn (σ 190) := u1
  refine ⟨dD_ok hD, by omega, eω, by omega, X1, fun e p a b c d => u3 e p a b c d, fun f f0 f1 => ⟨F4 f f0 (by omega), u2 f f0 (by show f < n; omega)⟩, fun i i0 i1 => u4 i i0 (by show i < n; omega)⟩
