/-! A slip is written: the row, the class -/
def LOW (ω ω' : Int → Int) : Prop := ∀ j, j < 7477 → ω' j = ω j
theorem rk_low {ω ω' : Int → Int} (H : LOW ω ω') {A : Int} (V : RV ω A) (h : A + 20 < 7477) : RV ω' A ∧ rk ω' A = rk ω A ∧ ω' A = ω A := by
  obtain ⟨v1, v2, v3⟩ := V
  have e : ω' A = ω A := H A (by omega)
  refine ⟨⟨by omega, by omega, fun j a b => by rw [H _ (by omega)]; exact v3 j a (by omega)⟩, rk_eq e (fun j a b => H _ (by omega)), e⟩
theorem fcnt_low {ω ω' : Int → Int} (H : LOW ω ω') : ∀ n : Nat, n ≤ 26 → fcnt ω' n = fcnt ω n
  | 0, _ => rfl
  | n + 1, h => by
    simp only [fcnt]
    rw [fcnt_low H n (by omega), H _ (by omega)]
theorem LOW.km {ω ω' : Int → Int} (H : LOW ω ω') (K : Int) : km (fo ω') K = km (fo ω) K := hm_eq (fun x a b => by
  unfold fo
  rw [H _ (by omega)]) 20 K
theorem LOW.rlo {ω ω' : Int → Int} (H : LOW ω ω') (U : RLO ω) : RLO ω' := by
  obtain ⟨u1, u2, u3, u4, u5⟩ := U
  unfold RLO
  rw [H 0 (by omega), H 1 (by omega), H 2 (by omega)]
  refine ⟨u1, u2, u3, fun s a b => ?_, fun r a b => ?_⟩
  · obtain ⟨v, w⟩ := u4 s a b
    obtain ⟨x, _, z⟩ := rk_low H v (by omega)
    exact ⟨x, by omega⟩
  · obtain ⟨v, w⟩ := u5 r a b
    rw [H _ (by omega)]
    refine ⟨v, fun i c e => ?_⟩
    obtain ⟨v2, w2⟩ := w i c e
    obtain ⟨x, _, z⟩ := rk_low H v2 (by omega)
    exact ⟨x, by omega⟩
theorem LOW.rls {ω ω' : Int → Int} (H : LOW ω ω') (U : RLO ω) {σ : jH} {r : Int} (S : RLS σ r ω) : RLS σ r ω' := by
  obtain ⟨u1, u2, u3, u4, u5⟩ := U
  obtain ⟨⟨s0, s1, s2, s3⟩, s4, s5⟩ := S
  unfold RLS
  rw [H 0 (by omega), H 1 (by omega), H 2 (by omega), fcnt_low H 26 (by omega)]
  refine ⟨⟨s0, s1, s2, s3⟩, fun s a b => ?_, fun t a b => ?_⟩
  · have e : wst0 ω' s = wst0 ω s := by
      unfold wst0
      rw [H.km, (rk_low H (u4 s a b).1 (by omega)).2.1]
    rw [e]
    exact s4 s a b
  · obtain ⟨v, w⟩ := u5 t a b
    obtain ⟨x, y, z⟩ := s5 t a b
    have e : ∀ i, 0 ≤ i → i < ω (477 + 106 * t) → wrt ω' t i = wrt ω t i := fun i c g => by
      unfold wrt
      rw [H.km, (rk_low H (w i c g).1 (by omega)).2.1]
    rw [H _ (by omega), e 0 (by omega) (by omega)]
    refine ⟨x, y, fun i c g => ?_⟩
    rw [e (i + 1) (by omega) (by omega)]
    exact z i c g
/-- a row's slip put -/
def slw (ω : Int → Int) (A n : Int) (t : Int → Int) : Int → Int := fun j => if j = A then n else if A < j ∧ j ≤ A + n then t (j - A - 1) - 97 else ω j
def frw (t : Int → Int) (k : Nat) : Int → Int := fun j => if j = 0 then k else t (j - 1) - 97
theorem row_key {t : Int → Int} : ∀ k : Nat, k ≤ 20 → (∀ j : Int, 0 ≤ j → j < k → isL (t j)) → (tky t 0 k).2 = k ∧ rk (frw t k) 0 = (tky t 0 k).1
  | 0, _, _ => ⟨rfl, rk_0 rfl⟩
  | k + 1, h, L => by
    obtain ⟨h1, h2⟩ := row_key k (by omega) (fun j a b => L j a (by omega))
    have g := L k (by omega) (by omega)
    have e : tky t 0 (k + 1) = (kad (tky t 0 k).1 (tky t 0 k).2 (t (0 + k) - 97), min ((tky t 0 k).2 + 1) 20) := if_pos (by rw [Int.zero_add]; exact g)
    rw [e, h1]
    refine ⟨by show min (k + 1) 20 = k + 1; omega, ?_⟩
    rw [rk_add (f := frw t k) (f' := frw t (k + 1)) (a := 0) (x := t k - 97) (n := k) (by omega) (if_pos rfl) (by unfold frw; rw [if_pos rfl]; omega) (fun j a b => by unfold frw; rw [if_neg (by omega), if_neg (by omega)]) (by unfold frw; rw [if_neg (by omega), show (0 : Int) + 1 + k - 1 = k by omega]), h2]
    show _ = kad (tky t 0 k).1 k (t (0 + k) - 97)
    unfold kad
    rw [if_pos (by omega), Int.zero_add]
section SW
variable {ω t : Int → Int} {n : Int} {h p : Int}
theorem slw_low {A : Int} (hA : 7477 ≤ A) : LOW ω (slw ω A n t) := fun j hj => by
  unfold slw
  rw [if_neg (by omega), if_neg (by omega)]
theorem slw_at {A : Int} (K : okwd t n) : RV (slw ω A n t) A ∧ rk (slw ω A n t) A = (tky t 0 n.toNat).1 ∧ slw ω A n t A = n := by
  have L := alB_iff.mp K.2
  have e0 : slw ω A n t A = n := if_pos rfl
  have e1 : ∀ j, 0 ≤ j → j < n → slw ω A n t (A + 1 + j) = t j - 97 := fun j a b => by
    unfold slw
    rw [if_neg (by omega), if_pos (by omega), show A + 1 + j - A - 1 = j by omega]
  refine ⟨⟨by omega, by omega, fun j a b => ?_⟩, ?_, e0⟩
  · rw [e1 j a (by omega)]
    have := L j a (by omega)
    omega
  · rw [← (row_key n.toNat (by omega) L).2]
    refine rk_eq ?_ (fun j a b => ?_)
    · rw [e0]
      unfold frw
      rw [if_pos rfl]
      omega
    · rw [e1 j a (by omega)]
      unfold frw
      rw [if_neg (by omega), show (0 : Int) + 1 + j - 1 = j by omega]
theorem slw_oth {A B : Int} (hn : n ≤ 20) (hAB : B + 20 < A ∨ A + 20 < B) (V : RV ω B) : RV (slw ω A n t) B ∧ rk (slw ω A n t) B = rk ω B := by
  obtain ⟨v1, v2, v3⟩ := V
  have e : ∀ j, 0 ≤ j → j ≤ 20 → slw ω A n t (B + j) = ω (B + j) := fun j a b => by
    unfold slw
    rw [if_neg (by omega), if_neg (by omega)]
  have e0 : slw ω A n t B = ω B := by
    have := e 0 (by omega) (by omega)
    rwa [Int.add_zero] at this
  have e1 : ∀ j, 0 ≤ j → j < ω B → slw ω A n t (B + 1 + j) = ω (B + 1 + j) := fun j a b => by
    have := e (1 + j) (by omega) (by omega)
    rwa [← Int.add_assoc] at this
  refine ⟨⟨by omega, by omega, fun j a b => by rw [e1 j a (by omega)]; exact v3 j a (by omega)⟩, rk_eq e0 (fun j a b => e1 j a (by omega))⟩
theorem slw_spo (K : okwd t n) (hh : 0 ≤ h ∧ h ≤ 3) (hp : 0 ≤ p ∧ p < 300) (S : SPO ω) : SPO (slw ω (sAd h p) n t) := fun q a b => by
  unfold sAd
  by_cases e : q = 300 * h + p
  · rw [e]
    exact (slw_at K).1
  · exact (slw_oth K.1.2 (by omega) (S q a b)).1
theorem sAd_lo (hh : 0 ≤ h ∧ h ≤ 3) (hp : 0 ≤ p ∧ p < 300) : 7477 ≤ sAd h p ∧ sAd h p + 20 < 32677 := by
  unfold sAd
  omega
def SLP (σ τ : jH) (ω : Int → Int) (h p n : Int) (t : Int → Int) (z : Int) : Prop := (¬ ((0 ≤ h ∧ h ≤ 3) ∧ 0 ≤ p ∧ p < (wW ω 0).1) ∧ z = -2 ∧ τ = σ) ∨ (((0 ≤ h ∧ h ≤ 3) ∧ 0 ≤ p ∧ p < (wW ω 0).1) ∧ ¬ okwd t n ∧ z = -4 ∧ τ = ju σ 1 1 0) ∨ (((0 ≤ h ∧ h ≤ 3) ∧ 0 ≤ p ∧ p < (wW ω 0).1) ∧ okwd t n ∧ z = (if rgtS (slw ω (sAd h p) n t) h p then 1 else 0) ∧ CFR τ (slw ω (sAd h p) n t) ∧ IMG τ 3 (slw ω (sAd h p) n t) ∧ (∀ c, (c < 97 ∨ 134 < c) → c ≠ 1 → c ≠ 24 → c ≠ 25 → c ≠ 179 → τ c = σ c) ∧ τ 1 1 = 0 ∧ ∀ j, j ≠ 1 → τ 1 j = σ 1 j)
theorem c_slip {σ : jH} (O : OMG ω) (I : IMG σ 3 ω) (C : CFR σ ω) (T : TPC σ n t) (h p : Int) : Cw 16 m_WordPlaces_slip [vR 1, vI h, vI p] σ (fun z τ => SLP σ τ ω h p n t z) := by
  obtain ⟨O1, O2, O3⟩ := O
  obtain ⟨I1, I2, I3, I4⟩ := I
  have w := O1.n (e := 0) (by omega)
  refine Cw_of o_WordPlaces_slip rfl fun l d hd => jwp_sound t_WordPlaces_slip _ (b_WordPlaces_slip_0 ?_)
  simp only [RW, true_and, and_true, and_self, true_or, or_true, Nat.reduceLeDiff, Nat.reduceEqDiff, Nat.reduceAdd, Int.reduceLE, Int.reduceLT, Int.reduceEq, Int.reduceNeg, Int.reduceNe, Nat.reduceSub, reduceIte, implies_true, gt_1, gr_1_10, gt_179, gr_1_2, gt_3, gr_3_6, gt_23]
  refine cN_p (c_isHand _ _) (by omega) ?_
  by_cases hh : 0 ≤ h ∧ h ≤ 3
  · rw [if_pos hh]
    have no : ¬ (0 ≤ p ∧ p < (wW ω 0).1) → SLP σ σ ω h p n t (-2) := fun x => Or.inl ⟨fun y => x y.2, rfl, rfl⟩
    refine ⟨fun x => absurd x (by omega), fun _ => ⟨fun q => no (by omega), fun q => ?_⟩⟩
    refine cN_p (c_Image_wordCount _ i3 (by omega) w.2.2 I1.1) (by omega) ?_
    refine ⟨fun q2 => ?_, fun q2 => no (by omega)⟩
    have hp : 0 ≤ p ∧ p < 300 := ⟨q, by omega⟩
    have ok : (0 ≤ h ∧ h ≤ 3) ∧ 0 ≤ p ∧ p < (wW ω 0).1 := ⟨hh, q, q2⟩
    refine cN_p (c_takeTape T) (by omega) ?_
    have T1 : ∀ j, 0 ≤ j → j < n → ju σ 1 1 0 2 j = t j := fun j a b => by
      rw [ju_row (by omega)]
      exact T.2.2 j a b
    refine cN_p (c_isOneWord T1) (by omega) ?_
    by_cases K : okwd t n
    · rw [if_pos K]
      refine ⟨fun _ => ?_, fun x => absurd x (by omega)⟩
      have T2 := T.2.1
      refine cN_w (c_readLetters (σ := ju σ 1 1 0) T1 T2.2 (by omega) T2.1) (by omega) (fun _ τ hτ => ?_)
      obtain ⟨⟨k1, k2, k3, k4, k5, k6, k7⟩, F⟩ := hτ
      rw [Int.sub_zero] at k5 k6
      refine cN_p (c_slipAt _ hh hp) (by omega) ?_
      rw [k5, k6]
      refine cN_v (c_KeyRow_put (kr_Image_6 i3) _ _ _ _) (by omega) (fun _ => ?_)
      rw [if_pos ⟨by omega, by omega⟩]
      have A := sAd_lo hh hp
      have at0 := slw_at (ω := ω) (A := sAd h p) K
      have LW : LOW ω (slw ω (sAd h p) n t) := slw_low A.1
      have SM := SAM.of O1 LW
      have W' := SM.okw O1
      have S' := slw_spo K hh hp O3
      generalize hυ : ju (ju τ (3 + 20 + 1) (300 * h + p) ((tky t 0 n.toNat).1 / 1125899906842624)) (3 + 20 + 2) (300 * h + p) ((tky t 0 n.toNat).1 % 1125899906842624) = υ
      have Fυ : ∀ c, c ≠ 1 → c ≠ 24 → c ≠ 25 → c ≠ 179 → υ c = σ c := fun c a b b2 b3 => by
        rw [← hυ, ju_row (by omega), ju_row (by omega), F c b3, ju_row a]
      have F1υ : υ 1 = ju σ 1 1 0 1 := by
        rw [← hυ, ju_row (by omega), ju_row (by omega), F 1 (by omega)]
      have P' : SPC υ 3 (slw ω (sAd h p) n t) := fun q a b => by
        unfold KKV
        by_cases e : q = 300 * h + p
        · have e2 : rk (slw ω (sAd h p) n t) (7477 + 21 * q) = (tky t 0 n.toNat).1 := by
            rw [e]
            exact at0.2.1
          rw [e2, ← hυ, e, ju_self, ju_row (by omega), ju_self]
          exact ⟨rfl, rfl⟩
        · have e2 : rk (slw ω (sAd h p) n t) (7477 + 21 * q) = rk ω (7477 + 21 * q) := (slw_oth K.1.2 (by unfold sAd; omega) (O3 q a b)).2
          have k := I3 q a b
          unfold KKV at k
          rw [e2, ← hυ, ju_row (by omega), ju_ne2 e, ju_ne2 e, ju_row (by omega), F _ (by omega), F _ (by omega), ju_row (by omega), ju_row (by omega)]
          exact k
      have LS : LSM ω (slw ω (sAd h p) n t) := fun j hj => LW j (by omega)
      have M' : IML υ 3 (slw ω (sAd h p) n t) := by
        refine ⟨LS.lin (by omega) O1.1 (LIN_eq (fun c a b => Fυ c (by omega) (by omega) (by omega) (by omega)) I1.1), LS.lin (by omega) O1.2.1 (LIN_eq (fun c a b => Fυ c (by omega) (by omega) (by omega) (by omega)) I1.2.1), fun x a b => ?_, fun x a b => ?_⟩
        · rw [Fυ _ (by omega) (by omega) (by omega) (by omega), SM.2.1 x a b]
          exact I1.2.2.1 x a b
        · rw [Fυ _ (by omega) (by omega) (by omega) (by omega), SM.2.2 x a b]
          exact I1.2.2.2 x a b
      have G' : IMG υ 3 (slw ω (sAd h p) n t) := ⟨M', LW.rls O2 (RLS_eq I2 (fun c a b => Fυ c (by omega) (by omega) (by omega) (by omega))), P', by rw [Fυ _ (by omega) (by omega) (by omega) (by omega)]; exact I4⟩
      have C' : CFR υ (slw ω (sAd h p) n t) := ⟨W', M', fun x => SM.cdr (CDR_eq (fun c a b => Fυ c (by omega) (by omega) (by omega) (by omega)) (C.2.2 (by rw [← Fυ 97 (by omega) (by omega) (by omega) (by omega)]; exact x)))⟩
      refine cN_w (c_freshWords C' (e := 0) (by omega)) (by omega) (fun z ξ hξ => ?_)
      obtain ⟨rfl, hξ⟩ := hξ
      have C2 := C'.of hξ.1
      have G2 := IMG_eq (fun c a b => hξ.1.1 c (by omega)) G'
      rw [show wb 0 = 105 from rfl]
      refine cN_p (c_isWrong W' hξ.2.2 C2.2.1 S' G2.2.2.1 hh hp) (by omega) ?_
      have fin : ∀ z, z = (if rgtS (slw ω (sAd h p) n t) h p then 1 else 0) → SLP σ ξ ω h p n t z := fun z hz => Or.inr (Or.inr ⟨ok, K, hz, C2, G2, fun c a b b2 b3 b4 => by rw [hξ.1.1 c a, Fυ c b b2 b3 b4], by rw [hξ.1.1 1 (by omega), F1υ, ju_self], fun j hj => by rw [hξ.1.1 1 (by omega), F1υ, ju_ne2 hj]⟩)
      by_cases g : rgtS (slw ω (sAd h p) n t) h p
      · rw [if_pos g]
        exact ⟨fun _ => fin 1 (by rw [if_pos g]), fun x => absurd rfl x⟩
      · rw [if_neg g]
        exact ⟨fun x => absurd x (by omega), fun _ => fin 0 (by rw [if_neg g])⟩
    · rw [if_neg K]
      exact ⟨fun x => absurd rfl x, fun _ => Or.inr (Or.inl ⟨ok, K, rfl, rfl⟩)⟩
  · rw [if_neg hh]
    exact ⟨fun _ => Or.inl ⟨fun x => hh x.1, rfl, rfl⟩, fun x => absurd rfl x⟩
end SW
