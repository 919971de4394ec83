/-! The class's constructor -/
section CX
variable {w w' : jL} {k : Nat} {n o j v : Int} {σ τ : jH} {f : Int → jL → jL}
theorem zb_ju {m : Nat} {a : Int} (h : a ≤ m) (z : Zb m σ) : Zb m (ju σ a j v) := fun c i hc => by rw [ju_ne (by omega)]; exact z c i hc
theorem zb_jf {m : Nat} {a lo hi : Int} (h : a ≤ m) (z : Zb m σ) : Zb m (jfill σ a lo hi v) := fun c i hc => by rw [jfill_row (by omega)]; exact z c i hc
theorem cf_ks (hf : EXL ((w.1 + 1 : Nat) : Int) (nL w k n) (f ((w.1 + 1 : Nat) : Int) (nL w k n))) : (toG (cf f w o j k n)).2.1 ((w.1 + 1 : Nat) : Int) = (k, n) := (hf.2.1 _ (Int.le_refl _)).trans nL_s
end CX
theorem r_Image0 {o : Int} {w : jL} (h : o ≤ w.1) : (toG (fImage o w)).2.2 o 0 = ((w.1 + 1 : Nat) : Int) := (cf_r x_KR (Int.le_trans h (by show ((w.1 : Nat) : Int) ≤ ((w.1 + 19 : Nat) : Int); omega)) (Or.inr (by omega))).trans ((nf_r (Int.le_trans h (by show ((w.1 : Nat) : Int) ≤ ((w.1 + 18 : Nat) : Int); omega)) (Or.inr (by omega))).trans ((nf_r (Int.le_trans h (by show ((w.1 : Nat) : Int) ≤ ((w.1 + 17 : Nat) : Int); omega)) (Or.inr (by omega))).trans ((nf_r (Int.le_trans h (by show ((w.1 : Nat) : Int) ≤ ((w.1 + 16 : Nat) : Int); omega)) (Or.inr (by omega))).trans ((nf_r (Int.le_trans h (by show ((w.1 : Nat) : Int) ≤ ((w.1 + 15 : Nat) : Int); omega)) (Or.inr (by omega))).trans ((nf_r (Int.le_trans h (by show ((w.1 : Nat) : Int) ≤ ((w.1 + 14 : Nat) : Int); omega)) (Or.inr (by omega))).trans pL_s)))))
theorem r_Book5 {o : Int} {w : jL} (h : o ≤ w.1) : (toG (fBook o w)).2.2 o 5 = ((w.1 + 8 : Nat) : Int) := (cf_r x_Words (Int.le_trans h (by show ((w.1 : Nat) : Int) ≤ ((w.1 + 22 : Nat) : Int); omega)) (Or.inr (by omega))).trans pL_s
def fWP (o : Int) (w : jL) : jL := cf (fSlots) (nf (nf (nf (nf (cf (fKey) (cf (fAsker ((w.1 + 139 : Nat) : Int) ((w.1 + 3 : Nat) : Int) ((w.1 + 96 : Nat) : Int)) (cf (fRuleReader ((w.1 + 139 : Nat) : Int)) (cf (fTokens ((w.1 + 1 : Nat) : Int)) (cf (fLikeness) (cf (fBook) (nf (pL (cf fImage (cf fImage (cf fImage (nL (cf (fImage) (nf (w) o 0 2 400) o 2 10 7) 5 3) ((w.1 + 25 : Nat) : Int) 0 10 7) ((w.1 + 25 : Nat) : Int) 1 10 7) ((w.1 + 25 : Nat) : Int) 2 10 7) o 3 ((w.1 + 25 : Nat) : Int)) o 4 3 3) o 5 9 7) o 6 13 6) o 7 17 8) o 8 14 3) o 9 8 13) o 10 11 3) o 11 1 8) o 13 1 40) o 14 1 40) o 18 1 600) o 19 16 4
def hWP (w : jL) (σ : jH) : jH := jfill (jfill (ju (hRu (w.1 + 141) (ju (ju (ju (hRu (w.1 + 73) (hRu (w.1 + 50) (hRu (w.1 + 27) (hRu (w.1 + 3) σ)))) ((w.1 + 134 : Nat) : Int) 4 ((w.1 + 137 : Nat) : Int)) ((w.1 + 134 : Nat) : Int) 5 ((w.1 + 138 : Nat) : Int)) ((w.1 + 139 : Nat) : Int) 7 (-1))) ((w.1 + 156 : Nat) : Int) 4 ((w.1 + 104 : Nat) : Int)) ((w.1 + 186 : Nat) : Int) 0 4 (-1)) ((w.1 + 182 : Nat) : Int) 0 600 (-1)
set_option maxHeartbeats 16000000 in
theorem i_WordPlaces {l : Launch} {d : Nat} {o : Int} {w : jL} {σ : jH} (hd : 14 ≤ d) (S0 : CS 19 o w σ) (hz : ∀ j, σ o j = 0) : CallG l d 187 51894 m_WordPlaces_init [vR o] (toG w) σ (fun _ G' σ' => G' = toG (fWP o w) ∧ σ' = hWP w σ) := by
  have c0 : w.1 = w.1 + 0 := rfl
  have so : o ≤ ((w.1 : Nat) : Int) := S0.2.1
  refine CG_of o_WordPlaces_init rfl (jwp_sound t_WordPlaces_init _ (b_WordPlaces_init_0 ?_))
  refine ⟨by omega, S0.1, by omega, by omega, Nat.le_of_ble_eq_true rfl, Nat.le_of_ble_eq_true rfl, S0.nk, ?_⟩
  rw [jnewH_z S0.2.2.2, hm_nf]
  have S1 := cs_nf (o := o) (j := 0) (k := 2) (n := 400) S0
  have c1 : (nf w o 0 2 400).1 = w.1 + 1 := by show _ = _; exact (show (nf w o 0 2 400).1 = w.1 + 1 from rfl).trans (by omega)
  have r0 : (toG (nf w o 0 2 400)).2.2 o 0 = ((w.1 + 1 : Nat) : Int) := nf_s.trans (by omega)
  have k0 : (toG (nf w o 0 2 400)).2.1 ((w.1 + 1 : Nat) : Int) = (2, 400) := by rw [show ((w.1 + 1 : Nat) : Int) = ((w.1 + 1 : Nat) : Int) by omega]; exact nL_s
  generalize e1 : nf w o 0 2 400 = w1 at S1 c1 r0 k0 ⊢
  refine jwp_sound t_WordPlaces_init _ (b_WordPlaces_init_13 ?_)
  refine ⟨S1.2.2.1, ?_⟩
  rw [ju_z (hz 1)]
  refine jwp_sound t_WordPlaces_init _ (b_WordPlaces_init_18 ?_)
  rw [jnewH_z S1.2.2.2, hm_n]
  refine ⟨Nat.le_of_ble_eq_true rfl, Nat.le_of_ble_eq_true rfl, by omega, 13, _, by omega, i_Image (by omega) (cs_new S1.2.2.2) (CS.z1 S1), Nat.le_of_ble_eq_true rfl, Nat.le_of_ble_eq_true rfl, ?_⟩
  intro G1 s1 hP
  obtain ⟨eG, eS1⟩ := hP
  replace eG : G1 = toG (fImage ((w1.1 + 1 : Nat) : Int) (nL w1 10 7)) := eG
  have xx : EXL ((w1.1 + 1 : Nat) : Int) (nL w1 10 7) (fImage ((w1.1 + 1 : Nat) : Int) (nL w1 10 7)) := x_Image
  replace eS1 : s1 = hRu (w.1 + 3) σ := eS1.trans (by rw [show (nL w1 10 7).1 + 1 = w.1 + 3 by show w1.1 + 1 + 1 = _; omega])
  have z1 : Zb (fImage ((w1.1 + 1 : Nat) : Int) (nL w1 10 7)).1 s1 := by rw [eS1]; exact (zb_Ru (S1.2.2.2.up (by omega))).up (by rw [n_Image]; show w.1 + 3 + 13 ≤ w1.1 + 1 + 22; omega)
  have hz : ∀ j, s1 o j = 0 := fun j => by rw [eS1]; exact by rw [hRu_o (by have := S0.2.1; omega)]; exact hz j
  have hc := cs_cf (j := 2) S1 xx z1
  refine ⟨by rw [eG]; exact hc.2.2.1, ?_⟩
  rw [eG, hm_p]
  show Ev _ _ _ _ _ _ _ _ _ (toG (cf (fImage) w1 o 2 10 7)) _ _ _
  have S2 := hc
  have c2 : (cf (fImage) w1 o 2 10 7).1 = w.1 + 24 := by show _ = _; exact (show (cf (fImage) w1 o 2 10 7).1 = w1.1 + 23 from rfl).trans (by omega)
  replace r0 := (cf_r (w := w1) (o := o) (j := 2) (q := o) (i := 0) xx (by have := S1.2.1; omega) (Or.inr (by omega))).trans r0
  have r2 : (toG (cf (fImage) w1 o 2 10 7)).2.2 o 2 = ((w.1 + 2 : Nat) : Int) := (pL_s (o := o) (j := 2)).trans (by omega)
  have k2 : (toG (cf (fImage) w1 o 2 10 7)).2.1 ((w.1 + 2 : Nat) : Int) = (10, 7) := by rw [show ((w.1 + 2 : Nat) : Int) = ((w1.1 + 1 : Nat) : Int) by omega]; exact cf_ks xx
  have i2 : (toG (cf (fImage) w1 o 2 10 7)).2.2 ((w.1 + 2 : Nat) : Int) 0 = ((w.1 + 3 : Nat) : Int) := by rw [show ((w.1 + 2 : Nat) : Int) = ((w1.1 + 1 : Nat) : Int) by omega]; exact (pL_r (q := ((w1.1 + 1 : Nat) : Int)) (o := o) (Or.inl (by have := S1.2.1; omega))).trans ((r_Image0 (o := ((w1.1 + 1 : Nat) : Int)) (w := nL w1 10 7) (Int.le_refl _)).trans (by show ((w1.1 + 1 + 1 : Nat) : Int) = _; omega))
  generalize e2 : cf (fImage) w1 o 2 10 7 = w2 at S2 c2 r0 r2 k2 i2 ⊢
  clear S1 c1
  refine jwp_sound t_WordPlaces_init _ (b_WordPlaces_init_29 ?_)
  have ea : ((w2.1 + 1 : Nat) : Int) = ((w.1 + 25 : Nat) : Int) := by omega
  rw [jnewH_z S2.2.2.2, hm_n]
  have S3 := cs_nL (k := 5) (n := 3) S2
  have c3 : (nL w2 5 3).1 = w.1 + 25 := by show _ = _; exact (show (nL w2 5 3).1 = w2.1 + 1 from rfl).trans (by omega)
  replace r0 := (nL_r (w := w2) (k := 5) (n := 3) (q := o) (i := 0) (by have := S2.2.1; omega)).trans r0
  replace r2 := (nL_r (w := w2) (k := 5) (n := 3) (q := o) (i := 2) (by have := S2.2.1; omega)).trans r2
  replace k2 := (nL_k (w := w2) (k := 5) (n := 3) (q := ((w.1 + 2 : Nat) : Int)) (by omega)).trans k2
  replace i2 := (nL_r (w := w2) (k := 5) (n := 3) (q := ((w.1 + 2 : Nat) : Int)) (i := 0) (by have := S2.2.1; omega)).trans i2
  have kA : (toG (nL w2 5 3)).2.1 ((w.1 + 25 : Nat) : Int) = (5, 3) := by rw [show ((w.1 + 25 : Nat) : Int) = ((w2.1 + 1 : Nat) : Int) by omega]; exact nL_s
  generalize e3 : nL w2 5 3 = w3 at S3 c3 r0 r2 k2 i2 kA ⊢
  clear S2 c2
  show _ ∧ _ ∧ _ ∧ _ ∧ _ ∧ _ ∧ _ ∧ ∃ (d1 : Nat) (P1 : jG → jH → Prop), d1 < d ∧ CallG l d1 22 7800 m_Image_init [vR ((w3.1 + 1 : Nat) : Int)] (jnewG (toG w3) 10 7) (jnewH (toG w3) s1) (fun _ => P1) ∧ _ ∧ _ ∧ ∀ (G1 : jG) (σ1 : jH), P1 G1 σ1 → (G1.2.1 ((w2.1 + 1 : Nat) : Int)).1 = 5 ∧ (0 : Int) ≤ 0 ∧ 0 < (G1.2.1 ((w2.1 + 1 : Nat) : Int)).2 ∧ (G1.2.1 ((w3.1 + 1 : Nat) : Int)).1 = 10 ∧ Ev _ _ _ _ _ _ _ _ [vR ((w2.1 + 1 : Nat) : Int), vR o] (G1.1, G1.2.1, ju G1.2.2 ((w2.1 + 1 : Nat) : Int) 0 ((w3.1 + 1 : Nat) : Int)) σ1 _ _
  rw [ea]
  rw [jnewH_z S3.2.2.2, hm_n]
  refine ⟨by omega, by omega, Nat.le_of_ble_eq_true rfl, Nat.le_of_ble_eq_true rfl, Nat.le_of_ble_eq_true rfl, Nat.le_of_ble_eq_true rfl, by omega, 13, _, by omega, i_Image (by omega) (cs_new S3.2.2.2) (CS.z1 S3), Nat.le_of_ble_eq_true rfl, Nat.le_of_ble_eq_true rfl, ?_⟩
  intro G1 s2 hP
  obtain ⟨eG, eS2⟩ := hP
  replace eG : G1 = toG (fImage ((w3.1 + 1 : Nat) : Int) (nL w3 10 7)) := eG
  have xx : EXL ((w3.1 + 1 : Nat) : Int) (nL w3 10 7) (fImage ((w3.1 + 1 : Nat) : Int) (nL w3 10 7)) := x_Image
  replace eS2 : s2 = hRu (w.1 + 27) s1 := eS2.trans (by rw [show (nL w3 10 7).1 + 1 = w.1 + 27 by show w3.1 + 1 + 1 = _; omega])
  have z2 : Zb (fImage ((w3.1 + 1 : Nat) : Int) (nL w3 10 7)).1 s2 := by rw [eS2]; exact (zb_Ru (S3.2.2.2.up (by omega))).up (by rw [n_Image]; show w.1 + 27 + 13 ≤ w3.1 + 1 + 22; omega)
  have hz : ∀ j, s2 o j = 0 := fun j => by rw [eS2]; exact by rw [hRu_o (by have := S0.2.1; omega)]; exact hz j
  have hc := cs_pL (a := ((w.1 + 25 : Nat) : Int)) (j := 0) (v := ((w3.1 + 1 : Nat) : Int)) (cs_ex S3 (ex_in (o := o) ex_rf xx) z2)
  have kB : (toG (fImage ((w3.1 + 1 : Nat) : Int) (nL w3 10 7))).2.1 ((w.1 + 25 : Nat) : Int) = (5, 3) := by rw [xx.2.1 ((w.1 + 25 : Nat) : Int) (by show ((w.1 + 25 : Nat) : Int) ≤ ((w3.1 + 1 : Nat) : Int); omega), nL_k (by omega)]; exact kA
  have kC : (toG (fImage ((w3.1 + 1 : Nat) : Int) (nL w3 10 7))).2.1 ((w3.1 + 1 : Nat) : Int) = (10, 7) := by rw [xx.2.1 ((w3.1 + 1 : Nat) : Int) (Int.le_refl _)]; exact nL_s
  refine ⟨by rw [eG, kB], by omega, by rw [eG, kB]; decide, by rw [eG]; exact congrArg Prod.fst kC, ?_⟩
  rw [eG, hm_p]
  show Ev _ _ _ _ _ _ _ _ _ (toG (cf fImage w3 ((w.1 + 25 : Nat) : Int) 0 10 7)) _ _ _
  have S4 := (show CS 19 o (cf fImage w3 ((w.1 + 25 : Nat) : Int) 0 10 7) s2 from hc)
  have c4 : (cf fImage w3 ((w.1 + 25 : Nat) : Int) 0 10 7).1 = w.1 + 48 := by show _ = _; exact (show (cf fImage w3 ((w.1 + 25 : Nat) : Int) 0 10 7).1 = w3.1 + 23 from rfl).trans (by omega)
  replace r0 := (cf_r (w := w3) (o := ((w.1 + 25 : Nat) : Int)) (j := 0) (q := o) (i := 0) xx (by have := S3.2.1; omega) (Or.inl (by have := S0.2.1; omega))).trans r0
  replace r2 := (cf_r (w := w3) (o := ((w.1 + 25 : Nat) : Int)) (j := 0) (q := o) (i := 2) xx (by have := S3.2.1; omega) (Or.inl (by have := S0.2.1; omega))).trans r2
  replace k2 := (cf_k (w := w3) (o := ((w.1 + 25 : Nat) : Int)) (j := 0) (q := ((w.1 + 2 : Nat) : Int)) xx (by omega)).trans k2
  replace i2 := (cf_r (w := w3) (o := ((w.1 + 25 : Nat) : Int)) (j := 0) (q := ((w.1 + 2 : Nat) : Int)) (i := 0) xx (by have := S3.2.1; omega) (Or.inl (by have := S0.2.1; omega))).trans i2
  replace kA := (cf_k (w := w3) (o := ((w.1 + 25 : Nat) : Int)) (j := 0) (q := ((w.1 + 25 : Nat) : Int)) xx (by omega)).trans kA
  generalize e4 : cf fImage w3 ((w.1 + 25 : Nat) : Int) 0 10 7 = w4 at S4 c4 r0 r2 k2 i2 kA ⊢
  clear S3 c3
  refine jwp_sound t_WordPlaces_init _ (b_WordPlaces_init_44 ?_)
  rw [jnewH_z S4.2.2.2, hm_n]
  refine ⟨Nat.le_of_ble_eq_true rfl, Nat.le_of_ble_eq_true rfl, by omega, 13, _, by omega, i_Image (by omega) (cs_new S4.2.2.2) (CS.z1 S4), Nat.le_of_ble_eq_true rfl, Nat.le_of_ble_eq_true rfl, ?_⟩
  intro G1 s3 hP
  obtain ⟨eG, eS3⟩ := hP
  replace eG : G1 = toG (fImage ((w4.1 + 1 : Nat) : Int) (nL w4 10 7)) := eG
  have xx : EXL ((w4.1 + 1 : Nat) : Int) (nL w4 10 7) (fImage ((w4.1 + 1 : Nat) : Int) (nL w4 10 7)) := x_Image
  replace eS3 : s3 = hRu (w.1 + 50) s2 := eS3.trans (by rw [show (nL w4 10 7).1 + 1 = w.1 + 50 by show w4.1 + 1 + 1 = _; omega])
  have z3 : Zb (fImage ((w4.1 + 1 : Nat) : Int) (nL w4 10 7)).1 s3 := by rw [eS3]; exact (zb_Ru (S4.2.2.2.up (by omega))).up (by rw [n_Image]; show w.1 + 50 + 13 ≤ w4.1 + 1 + 22; omega)
  have hz : ∀ j, s3 o j = 0 := fun j => by rw [eS3]; exact by rw [hRu_o (by have := S0.2.1; omega)]; exact hz j
  have hc := cs_pL (a := ((w.1 + 25 : Nat) : Int)) (j := 1) (v := ((w4.1 + 1 : Nat) : Int)) (cs_ex S4 (ex_in (o := o) ex_rf xx) z3)
  have kB : (toG (fImage ((w4.1 + 1 : Nat) : Int) (nL w4 10 7))).2.1 ((w.1 + 25 : Nat) : Int) = (5, 3) := by rw [xx.2.1 ((w.1 + 25 : Nat) : Int) (by show ((w.1 + 25 : Nat) : Int) ≤ ((w4.1 + 1 : Nat) : Int); omega), nL_k (by omega)]; exact kA
  have kC : (toG (fImage ((w4.1 + 1 : Nat) : Int) (nL w4 10 7))).2.1 ((w4.1 + 1 : Nat) : Int) = (10, 7) := by rw [xx.2.1 ((w4.1 + 1 : Nat) : Int) (Int.le_refl _)]; exact nL_s
  refine ⟨by rw [eG, kB], by omega, by rw [eG, kB]; decide, by rw [eG]; exact congrArg Prod.fst kC, ?_⟩
  rw [eG, hm_p]
  show Ev _ _ _ _ _ _ _ _ _ (toG (cf fImage w4 ((w.1 + 25 : Nat) : Int) 1 10 7)) _ _ _
  have S5 := (show CS 19 o (cf fImage w4 ((w.1 + 25 : Nat) : Int) 1 10 7) s3 from hc)
  have c5 : (cf fImage w4 ((w.1 + 25 : Nat) : Int) 1 10 7).1 = w.1 + 71 := by show _ = _; exact (show (cf fImage w4 ((w.1 + 25 : Nat) : Int) 1 10 7).1 = w4.1 + 23 from rfl).trans (by omega)
  replace r0 := (cf_r (w := w4) (o := ((w.1 + 25 : Nat) : Int)) (j := 1) (q := o) (i := 0) xx (by have := S4.2.1; omega) (Or.inl (by have := S0.2.1; omega))).trans r0
  replace r2 := (cf_r (w := w4) (o := ((w.1 + 25 : Nat) : Int)) (j := 1) (q := o) (i := 2) xx (by have := S4.2.1; omega) (Or.inl (by have := S0.2.1; omega))).trans r2
  replace k2 := (cf_k (w := w4) (o := ((w.1 + 25 : Nat) : Int)) (j := 1) (q := ((w.1 + 2 : Nat) : Int)) xx (by omega)).trans k2
  replace i2 := (cf_r (w := w4) (o := ((w.1 + 25 : Nat) : Int)) (j := 1) (q := ((w.1 + 2 : Nat) : Int)) (i := 0) xx (by have := S4.2.1; omega) (Or.inl (by have := S0.2.1; omega))).trans i2
  replace kA := (cf_k (w := w4) (o := ((w.1 + 25 : Nat) : Int)) (j := 1) (q := ((w.1 + 25 : Nat) : Int)) xx (by omega)).trans kA
  generalize e5 : cf fImage w4 ((w.1 + 25 : Nat) : Int) 1 10 7 = w5 at S5 c5 r0 r2 k2 i2 kA ⊢
  clear S4 c4
  refine jwp_sound t_WordPlaces_init _ (b_WordPlaces_init_54 ?_)
  rw [jnewH_z S5.2.2.2, hm_n]
  refine ⟨Nat.le_of_ble_eq_true rfl, Nat.le_of_ble_eq_true rfl, by omega, 13, _, by omega, i_Image (by omega) (cs_new S5.2.2.2) (CS.z1 S5), Nat.le_of_ble_eq_true rfl, Nat.le_of_ble_eq_true rfl, ?_⟩
  intro G1 s4 hP
  obtain ⟨eG, eS4⟩ := hP
  replace eG : G1 = toG (fImage ((w5.1 + 1 : Nat) : Int) (nL w5 10 7)) := eG
  have xx : EXL ((w5.1 + 1 : Nat) : Int) (nL w5 10 7) (fImage ((w5.1 + 1 : Nat) : Int) (nL w5 10 7)) := x_Image
  replace eS4 : s4 = hRu (w.1 + 73) s3 := eS4.trans (by rw [show (nL w5 10 7).1 + 1 = w.1 + 73 by show w5.1 + 1 + 1 = _; omega])
  have z4 : Zb (fImage ((w5.1 + 1 : Nat) : Int) (nL w5 10 7)).1 s4 := by rw [eS4]; exact (zb_Ru (S5.2.2.2.up (by omega))).up (by rw [n_Image]; show w.1 + 73 + 13 ≤ w5.1 + 1 + 22; omega)
  have hz : ∀ j, s4 o j = 0 := fun j => by rw [eS4]; exact by rw [hRu_o (by have := S0.2.1; omega)]; exact hz j
  have hc := cs_pL (a := ((w.1 + 25 : Nat) : Int)) (j := 2) (v := ((w5.1 + 1 : Nat) : Int)) (cs_ex S5 (ex_in (o := o) ex_rf xx) z4)
  have kB : (toG (fImage ((w5.1 + 1 : Nat) : Int) (nL w5 10 7))).2.1 ((w.1 + 25 : Nat) : Int) = (5, 3) := by rw [xx.2.1 ((w.1 + 25 : Nat) : Int) (by show ((w.1 + 25 : Nat) : Int) ≤ ((w5.1 + 1 : Nat) : Int); omega), nL_k (by omega)]; exact kA
  have kC : (toG (fImage ((w5.1 + 1 : Nat) : Int) (nL w5 10 7))).2.1 ((w5.1 + 1 : Nat) : Int) = (10, 7) := by rw [xx.2.1 ((w5.1 + 1 : Nat) : Int) (Int.le_refl _)]; exact nL_s
  refine ⟨by rw [eG, kB], by omega, by rw [eG, kB]; decide, by rw [eG]; exact congrArg Prod.fst kC, ?_⟩
  rw [eG, hm_p]
  show Ev _ _ _ _ _ _ _ _ _ (toG (cf fImage w5 ((w.1 + 25 : Nat) : Int) 2 10 7)) _ _ _
  have S6 := (show CS 19 o (cf fImage w5 ((w.1 + 25 : Nat) : Int) 2 10 7) s4 from hc)
  have c6 : (cf fImage w5 ((w.1 + 25 : Nat) : Int) 2 10 7).1 = w.1 + 94 := by show _ = _; exact (show (cf fImage w5 ((w.1 + 25 : Nat) : Int) 2 10 7).1 = w5.1 + 23 from rfl).trans (by omega)
  replace r0 := (cf_r (w := w5) (o := ((w.1 + 25 : Nat) : Int)) (j := 2) (q := o) (i := 0) xx (by have := S5.2.1; omega) (Or.inl (by have := S0.2.1; omega))).trans r0
  replace r2 := (cf_r (w := w5) (o := ((w.1 + 25 : Nat) : Int)) (j := 2) (q := o) (i := 2) xx (by have := S5.2.1; omega) (Or.inl (by have := S0.2.1; omega))).trans r2
  replace k2 := (cf_k (w := w5) (o := ((w.1 + 25 : Nat) : Int)) (j := 2) (q := ((w.1 + 2 : Nat) : Int)) xx (by omega)).trans k2
  replace i2 := (cf_r (w := w5) (o := ((w.1 + 25 : Nat) : Int)) (j := 2) (q := ((w.1 + 2 : Nat) : Int)) (i := 0) xx (by have := S5.2.1; omega) (Or.inl (by have := S0.2.1; omega))).trans i2
  replace kA := (cf_k (w := w5) (o := ((w.1 + 25 : Nat) : Int)) (j := 2) (q := ((w.1 + 25 : Nat) : Int)) xx (by omega)).trans kA
  generalize e6 : cf fImage w5 ((w.1 + 25 : Nat) : Int) 2 10 7 = w6 at S6 c6 r0 r2 k2 i2 kA ⊢
  clear S5 c5
  refine jwp_sound t_WordPlaces_init _ (b_WordPlaces_init_64 ?_)
  refine ⟨S6.2.2.1, ?_⟩
  rw [hm_p]
  have S7 := cs_pL (a := o) (j := 3) (v := ((w.1 + 25 : Nat) : Int)) S6
  have c7 : (pL w6 o 3 ((w.1 + 25 : Nat) : Int)).1 = w.1 + 94 := by show _ = _; exact (show (pL w6 o 3 ((w.1 + 25 : Nat) : Int)).1 = w6.1 + 0 from rfl).trans (by omega)
  replace r0 := (pL_r (w := w6) (o := o) (j := 3) (v := ((w.1 + 25 : Nat) : Int)) (q := o) (i := 0) (Or.inr (by omega))).trans r0
  replace r2 := (pL_r (w := w6) (o := o) (j := 3) (v := ((w.1 + 25 : Nat) : Int)) (q := o) (i := 2) (Or.inr (by omega))).trans r2
  replace k2 := (pL_k (w := w6) (o := o) (j := 3) (v := ((w.1 + 25 : Nat) : Int)) (q := ((w.1 + 2 : Nat) : Int))).trans k2
  replace i2 := (pL_r (w := w6) (o := o) (j := 3) (v := ((w.1 + 25 : Nat) : Int)) (q := ((w.1 + 2 : Nat) : Int)) (i := 0) (Or.inl (by omega))).trans i2
  generalize e7 : pL w6 o 3 ((w.1 + 25 : Nat) : Int) = w7 at S7 c7 r0 r2 k2 i2 ⊢
  clear S6 c6
  refine jwp_sound t_WordPlaces_init _ (b_WordPlaces_init_67 ?_)
  refine ⟨by omega, by omega, Nat.le_of_ble_eq_true rfl, Nat.le_of_ble_eq_true rfl, S7.nk, ?_⟩
  rw [jnewH_z S7.2.2.2, hm_nf]
  have S8 := cs_nf (o := o) (j := 4) (k := 3) (n := 3) S7
  have c8 : (nf w7 o 4 3 3).1 = w.1 + 95 := by show _ = _; exact (show (nf w7 o 4 3 3).1 = w7.1 + 1 from rfl).trans (by omega)
  replace r0 := (nf_r (w := w7) (o := o) (j := 4) (k := 3) (n := 3) (q := o) (i := 0) (by have := S7.2.1; omega) (Or.inr (by omega))).trans r0
  replace r2 := (nf_r (w := w7) (o := o) (j := 4) (k := 3) (n := 3) (q := o) (i := 2) (by have := S7.2.1; omega) (Or.inr (by omega))).trans r2
  replace k2 := (nf_k (w := w7) (o := o) (j := 4) (k := 3) (n := 3) (q := ((w.1 + 2 : Nat) : Int)) (by omega)).trans k2
  replace i2 := (nf_r (w := w7) (o := o) (j := 4) (k := 3) (n := 3) (q := ((w.1 + 2 : Nat) : Int)) (i := 0) (by have := S7.2.1; omega) (Or.inl (by omega))).trans i2
  generalize e8 : nf w7 o 4 3 3 = w8 at S8 c8 r0 r2 k2 i2 ⊢
  clear S7 c7
  refine jwp_sound t_WordPlaces_init _ (b_WordPlaces_init_74 ?_)
  rw [jnewH_z S8.2.2.2, hm_n]
  refine ⟨Nat.le_of_ble_eq_true rfl, Nat.le_of_ble_eq_true rfl, by omega, 12, _, by omega, i_Book (by omega) (cs_new S8.2.2.2) (CS.z1 S8), Nat.le_of_ble_eq_true rfl, Nat.le_of_ble_eq_true rfl, ?_⟩
  intro G1 s5 hP
  obtain ⟨eG, eS5⟩ := hP
  replace eG : G1 = toG (fBook ((w8.1 + 1 : Nat) : Int) (nL w8 9 7)) := eG
  have xx : EXL ((w8.1 + 1 : Nat) : Int) (nL w8 9 7) (fBook ((w8.1 + 1 : Nat) : Int) (nL w8 9 7)) := x_Book
  replace eS5 := eS5.symm
  subst eS5
  have hc := cs_cf (j := 5) S8 xx (S8.2.2.2.up (Nat.le_trans (Nat.le_succ _) xx.1))
  refine ⟨by rw [eG]; exact hc.2.2.1, ?_⟩
  rw [eG, hm_p]
  show Ev _ _ _ _ _ _ _ _ _ (toG (cf (fBook) w8 o 5 9 7)) _ _ _
  have S9 := hc
  have c9 : (cf (fBook) w8 o 5 9 7).1 = w.1 + 133 := by show _ = _; exact (show (cf (fBook) w8 o 5 9 7).1 = w8.1 + 38 from rfl).trans (by omega)
  replace r0 := (cf_r (w := w8) (o := o) (j := 5) (q := o) (i := 0) xx (by have := S8.2.1; omega) (Or.inr (by omega))).trans r0
  replace r2 := (cf_r (w := w8) (o := o) (j := 5) (q := o) (i := 2) xx (by have := S8.2.1; omega) (Or.inr (by omega))).trans r2
  replace k2 := (cf_k (w := w8) (o := o) (j := 5) (q := ((w.1 + 2 : Nat) : Int)) xx (by omega)).trans k2
  replace i2 := (cf_r (w := w8) (o := o) (j := 5) (q := ((w.1 + 2 : Nat) : Int)) (i := 0) xx (by have := S8.2.1; omega) (Or.inl (by omega))).trans i2
  have r5 : (toG (cf (fBook) w8 o 5 9 7)).2.2 o 5 = ((w.1 + 96 : Nat) : Int) := (pL_s (o := o) (j := 5)).trans (by omega)
  have k5 : (toG (cf (fBook) w8 o 5 9 7)).2.1 ((w.1 + 96 : Nat) : Int) = (9, 7) := by rw [show ((w.1 + 96 : Nat) : Int) = ((w8.1 + 1 : Nat) : Int) by omega]; exact cf_ks xx
  have q5 : (toG (cf (fBook) w8 o 5 9 7)).2.2 ((w.1 + 96 : Nat) : Int) 5 = ((w.1 + 104 : Nat) : Int) := by rw [show ((w.1 + 96 : Nat) : Int) = ((w8.1 + 1 : Nat) : Int) by omega]; exact (pL_r (q := ((w8.1 + 1 : Nat) : Int)) (o := o) (Or.inl (by have := S8.2.1; omega))).trans ((r_Book5 (o := ((w8.1 + 1 : Nat) : Int)) (w := nL w8 9 7) (Int.le_refl _)).trans (by show ((w8.1 + 1 + 8 : Nat) : Int) = _; omega))
  generalize e9 : cf (fBook) w8 o 5 9 7 = w9 at S9 c9 r0 r2 k2 i2 r5 k5 q5 ⊢
  clear S8 c8
  refine jwp_sound t_WordPlaces_init _ (b_WordPlaces_init_85 ?_)
  rw [jnewH_z S9.2.2.2, hm_n]
  refine ⟨Nat.le_of_ble_eq_true rfl, Nat.le_of_ble_eq_true rfl, by omega, 10, _, by omega, i_Likeness (by omega) (cs_new S9.2.2.2) (CS.z1 S9), Nat.le_of_ble_eq_true rfl, Nat.le_of_ble_eq_true rfl, ?_⟩
  intro G1 s5 hP
  obtain ⟨eG, eS5⟩ := hP
  replace eG : G1 = toG (fLikeness ((w9.1 + 1 : Nat) : Int) (nL w9 13 6)) := eG
  have xx : EXL ((w9.1 + 1 : Nat) : Int) (nL w9 13 6) (fLikeness ((w9.1 + 1 : Nat) : Int) (nL w9 13 6)) := x_Likeness
  replace eS5 : s5 = ju (ju s4 ((w.1 + 134 : Nat) : Int) 4 ((w.1 + 137 : Nat) : Int)) ((w.1 + 134 : Nat) : Int) 5 ((w.1 + 138 : Nat) : Int) := eS5.trans (by rw [show (((toG w9).1 + 1 : Nat) : Int) = ((w.1 + 134 : Nat) : Int) by show ((w9.1 + 1 : Nat) : Int) = _; omega, show (((nL w9 13 6).1 + 3 : Nat) : Int) = ((w.1 + 137 : Nat) : Int) by show ((w9.1 + 1 + 3 : Nat) : Int) = _; omega, show (((nL w9 13 6).1 + 4 : Nat) : Int) = ((w.1 + 138 : Nat) : Int) by show ((w9.1 + 1 + 4 : Nat) : Int) = _; omega])
  have z5 : Zb (fLikeness ((w9.1 + 1 : Nat) : Int) (nL w9 13 6)).1 s5 := by rw [eS5]; exact zb_ju (by rw [n_Likeness]; show ((w.1 + 134 : Nat) : Int) ≤ ((w9.1 + 1 + 4 : Nat) : Int); omega) (zb_ju (by rw [n_Likeness]; show ((w.1 + 134 : Nat) : Int) ≤ ((w9.1 + 1 + 4 : Nat) : Int); omega) (S9.2.2.2.up (by rw [n_Likeness]; show w9.1 ≤ w9.1 + 1 + 4; omega)))
  have hz : ∀ j, s5 o j = 0 := fun j => by rw [eS5]; exact by rw [ju_ne (by have := S0.2.1; omega), ju_ne (by have := S0.2.1; omega)]; exact hz j
  have hc := cs_cf (j := 6) S9 xx z5
  refine ⟨by rw [eG]; exact hc.2.2.1, ?_⟩
  rw [eG, hm_p]
  show Ev _ _ _ _ _ _ _ _ _ (toG (cf (fLikeness) w9 o 6 13 6)) _ _ _
  have S10 := hc
  have c10 : (cf (fLikeness) w9 o 6 13 6).1 = w.1 + 138 := by show _ = _; exact (show (cf (fLikeness) w9 o 6 13 6).1 = w9.1 + 5 from rfl).trans (by omega)
  replace r0 := (cf_r (w := w9) (o := o) (j := 6) (q := o) (i := 0) xx (by have := S9.2.1; omega) (Or.inr (by omega))).trans r0
  replace r2 := (cf_r (w := w9) (o := o) (j := 6) (q := o) (i := 2) xx (by have := S9.2.1; omega) (Or.inr (by omega))).trans r2
  replace k2 := (cf_k (w := w9) (o := o) (j := 6) (q := ((w.1 + 2 : Nat) : Int)) xx (by omega)).trans k2
  replace i2 := (cf_r (w := w9) (o := o) (j := 6) (q := ((w.1 + 2 : Nat) : Int)) (i := 0) xx (by have := S9.2.1; omega) (Or.inl (by omega))).trans i2
  replace r5 := (cf_r (w := w9) (o := o) (j := 6) (q := o) (i := 5) xx (by have := S9.2.1; omega) (Or.inr (by omega))).trans r5
  replace k5 := (cf_k (w := w9) (o := o) (j := 6) (q := ((w.1 + 96 : Nat) : Int)) xx (by omega)).trans k5
  replace q5 := (cf_r (w := w9) (o := o) (j := 6) (q := ((w.1 + 96 : Nat) : Int)) (i := 5) xx (by have := S9.2.1; omega) (Or.inl (by omega))).trans q5
  generalize e10 : cf (fLikeness) w9 o 6 13 6 = w10 at S10 c10 r0 r2 k2 i2 r5 k5 q5 ⊢
  clear S9 c9
  -- tokens
  refine jwp_sound t_WordPlaces_init _ (b_WordPlaces_init_96 ?_)
  rw [jnewH_z S10.2.2.2, hm_n, nL_r (q := o) (i := 0) (by have := S10.2.1; omega), r0]
  refine ⟨Nat.le_of_ble_eq_true rfl, Nat.le_of_ble_eq_true rfl, by rw [nL_k S10.2.1]; exact S10.2.2.1, by omega, 10, _, by omega, i_Tokens (by omega) (cs_new S10.2.2.2) (CS.z1 S10), Nat.le_of_ble_eq_true rfl, Nat.le_of_ble_eq_true rfl, ?_⟩
  intro G1 s6 hP
  obtain ⟨eG, eS6⟩ := hP
  replace eG : G1 = toG (fTokens ((w.1 + 1 : Nat) : Int) ((w10.1 + 1 : Nat) : Int) (nL w10 17 8)) := eG
  have xx : EXL ((w10.1 + 1 : Nat) : Int) (nL w10 17 8) (fTokens ((w.1 + 1 : Nat) : Int) ((w10.1 + 1 : Nat) : Int) (nL w10 17 8)) := x_Tokens
  replace eS6 : s6 = ju s5 ((w.1 + 139 : Nat) : Int) 7 (-1) := eS6.trans (by rw [show (((toG w10).1 + 1 : Nat) : Int) = ((w.1 + 139 : Nat) : Int) by show ((w10.1 + 1 : Nat) : Int) = _; omega])
  have z6 : Zb (fTokens ((w.1 + 1 : Nat) : Int) ((w10.1 + 1 : Nat) : Int) (nL w10 17 8)).1 s6 := by rw [eS6]; exact zb_ju (by rw [n_Tokens]; show ((w.1 + 139 : Nat) : Int) ≤ ((w10.1 + 1 + 0 : Nat) : Int); omega) (S10.2.2.2.up (by rw [n_Tokens]; show w10.1 ≤ w10.1 + 1 + 0; omega))
  have hz : ∀ j, s6 o j = 0 := fun j => by rw [eS6]; exact by rw [ju_ne (by have := S0.2.1; omega)]; exact hz j
  have hc := cs_cf (j := 7) S10 xx z6
  refine ⟨by rw [eG]; exact hc.2.2.1, ?_⟩
  rw [eG, hm_p]
  show Ev _ _ _ _ _ _ _ _ _ (toG (cf (fTokens ((w.1 + 1 : Nat) : Int)) w10 o 7 17 8)) _ _ _
  have S11 := hc
  have c11 : (cf (fTokens ((w.1 + 1 : Nat) : Int)) w10 o 7 17 8).1 = w.1 + 139 := by show _ = _; exact (show (cf (fTokens ((w.1 + 1 : Nat) : Int)) w10 o 7 17 8).1 = w10.1 + 1 from rfl).trans (by omega)
  replace r0 := (cf_r (w := w10) (o := o) (j := 7) (q := o) (i := 0) xx (by have := S10.2.1; omega) (Or.inr (by omega))).trans r0
  replace r2 := (cf_r (w := w10) (o := o) (j := 7) (q := o) (i := 2) xx (by have := S10.2.1; omega) (Or.inr (by omega))).trans r2
  replace k2 := (cf_k (w := w10) (o := o) (j := 7) (q := ((w.1 + 2 : Nat) : Int)) xx (by omega)).trans k2
  replace i2 := (cf_r (w := w10) (o := o) (j := 7) (q := ((w.1 + 2 : Nat) : Int)) (i := 0) xx (by have := S10.2.1; omega) (Or.inl (by omega))).trans i2
  replace r5 := (cf_r (w := w10) (o := o) (j := 7) (q := o) (i := 5) xx (by have := S10.2.1; omega) (Or.inr (by omega))).trans r5
  replace k5 := (cf_k (w := w10) (o := o) (j := 7) (q := ((w.1 + 96 : Nat) : Int)) xx (by omega)).trans k5
  replace q5 := (cf_r (w := w10) (o := o) (j := 7) (q := ((w.1 + 96 : Nat) : Int)) (i := 5) xx (by have := S10.2.1; omega) (Or.inl (by omega))).trans q5
  have r7 : (toG (cf (fTokens ((w.1 + 1 : Nat) : Int)) w10 o 7 17 8)).2.2 o 7 = ((w.1 + 139 : Nat) : Int) := (pL_s (o := o) (j := 7)).trans (by omega)
  generalize e11 : cf (fTokens ((w.1 + 1 : Nat) : Int)) w10 o 7 17 8 = w11 at S11 c11 r0 r2 k2 i2 r5 k5 q5 r7 ⊢
  clear S10 c10
  refine jwp_sound t_WordPlaces_init _ (b_WordPlaces_init_111 ?_)
  rw [jnewH_z S11.2.2.2, hm_n, nL_r (q := o) (i := 7) (by have := S11.2.1; omega), r7]
  refine ⟨Nat.le_of_ble_eq_true rfl, Nat.le_of_ble_eq_true rfl, by rw [nL_k S11.2.1]; exact S11.2.2.1, by omega, 13, _, by omega, i_RuleReader (by omega) (cs_new S11.2.2.2) (CS.z1 S11), Nat.le_of_ble_eq_true rfl, Nat.le_of_ble_eq_true rfl, ?_⟩
  intro G1 s7 hP
  obtain ⟨eG, eS7⟩ := hP
  replace eG : G1 = toG (fRuleReader ((w.1 + 139 : Nat) : Int) ((w11.1 + 1 : Nat) : Int) (nL w11 14 3)) := eG
  have xx : EXL ((w11.1 + 1 : Nat) : Int) (nL w11 14 3) (fRuleReader ((w.1 + 139 : Nat) : Int) ((w11.1 + 1 : Nat) : Int) (nL w11 14 3)) := x_RuleReader
  replace eS7 : s7 = hRu (w.1 + 141) s6 := eS7.trans (by rw [show (nL w11 14 3).1 + 1 = w.1 + 141 by show w11.1 + 1 + 1 = _; omega])
  have z7 : Zb (fRuleReader ((w.1 + 139 : Nat) : Int) ((w11.1 + 1 : Nat) : Int) (nL w11 14 3)).1 s7 := by rw [eS7]; exact (zb_Ru (S11.2.2.2.up (by omega))).up (by rw [n_RuleReader]; show w.1 + 141 + 13 ≤ w11.1 + 1 + 15; omega)
  have hz : ∀ j, s7 o j = 0 := fun j => by rw [eS7]; exact by rw [hRu_o (by have := S0.2.1; omega)]; exact hz j
  have hc := cs_cf (j := 8) S11 xx z7
  refine ⟨by rw [eG]; exact hc.2.2.1, ?_⟩
  rw [eG, hm_p]
  show Ev _ _ _ _ _ _ _ _ _ (toG (cf (fRuleReader ((w.1 + 139 : Nat) : Int)) w11 o 8 14 3)) _ _ _
  have S12 := hc
  have c12 : (cf (fRuleReader ((w.1 + 139 : Nat) : Int)) w11 o 8 14 3).1 = w.1 + 155 := by show _ = _; exact (show (cf (fRuleReader ((w.1 + 139 : Nat) : Int)) w11 o 8 14 3).1 = w11.1 + 16 from rfl).trans (by omega)
  replace r0 := (cf_r (w := w11) (o := o) (j := 8) (q := o) (i := 0) xx (by have := S11.2.1; omega) (Or.inr (by omega))).trans r0
  replace r2 := (cf_r (w := w11) (o := o) (j := 8) (q := o) (i := 2) xx (by have := S11.2.1; omega) (Or.inr (by omega))).trans r2
  replace k2 := (cf_k (w := w11) (o := o) (j := 8) (q := ((w.1 + 2 : Nat) : Int)) xx (by omega)).trans k2
  replace i2 := (cf_r (w := w11) (o := o) (j := 8) (q := ((w.1 + 2 : Nat) : Int)) (i := 0) xx (by have := S11.2.1; omega) (Or.inl (by omega))).trans i2
  replace r5 := (cf_r (w := w11) (o := o) (j := 8) (q := o) (i := 5) xx (by have := S11.2.1; omega) (Or.inr (by omega))).trans r5
  replace k5 := (cf_k (w := w11) (o := o) (j := 8) (q := ((w.1 + 96 : Nat) : Int)) xx (by omega)).trans k5
  replace q5 := (cf_r (w := w11) (o := o) (j := 8) (q := ((w.1 + 96 : Nat) : Int)) (i := 5) xx (by have := S11.2.1; omega) (Or.inl (by omega))).trans q5
  replace r7 := (cf_r (w := w11) (o := o) (j := 8) (q := o) (i := 7) xx (by have := S11.2.1; omega) (Or.inr (by omega))).trans r7
  generalize e12 : cf (fRuleReader ((w.1 + 139 : Nat) : Int)) w11 o 8 14 3 = w12 at S12 c12 r0 r2 k2 i2 r5 k5 q5 r7 ⊢
  clear S11 c11
  refine jwp_sound t_WordPlaces_init _ (b_WordPlaces_init_126 ?_)
  rw [jnewH_z S12.2.2.2, hm_n, nL_r (q := o) (i := 7) (by have := S12.2.1; omega), r7, nL_r (q := o) (i := 2) (by have := S12.2.1; omega), r2, nL_r (q := ((w.1 + 2 : Nat) : Int)) (i := 0) (by have := S12.2.1; omega), i2, nL_r (q := o) (i := 5) (by have := S12.2.1; omega), r5]
  refine ⟨Nat.le_of_ble_eq_true rfl, Nat.le_of_ble_eq_true rfl, by rw [nL_k S12.2.1]; exact S12.2.2.1, by rw [nL_k S12.2.1]; exact S12.2.2.1, by rw [nL_k (by omega), k2], by rw [nL_k S12.2.1]; exact S12.2.2.1, by omega, 11, _, by omega, i_Asker (by omega) (cs_new S12.2.2.2) (CS.z1 S12) (W5 := ((w.1 + 104 : Nat) : Int)) (by show ((w.1 + 96 : Nat) : Int) ≤ ((w12.1 + 1 : Nat) : Int); omega) (by omega) (by rw [nL_k (by omega), k5]) (by rw [nL_r (by omega)]; exact q5), Nat.le_of_ble_eq_true rfl, Nat.le_of_ble_eq_true rfl, ?_⟩
  intro G1 s8 hP
  obtain ⟨eG, eS8⟩ := hP
  replace eG : G1 = toG (fAsker ((w.1 + 139 : Nat) : Int) ((w.1 + 3 : Nat) : Int) ((w.1 + 96 : Nat) : Int) ((w12.1 + 1 : Nat) : Int) (nL w12 8 13)) := eG
  have xx : EXL ((w12.1 + 1 : Nat) : Int) (nL w12 8 13) (fAsker ((w.1 + 139 : Nat) : Int) ((w.1 + 3 : Nat) : Int) ((w.1 + 96 : Nat) : Int) ((w12.1 + 1 : Nat) : Int) (nL w12 8 13)) := x_Asker
  replace eS8 : s8 = ju s7 ((w.1 + 156 : Nat) : Int) 4 ((w.1 + 104 : Nat) : Int) := eS8.trans (by rw [show ((w12.1 + 1 : Nat) : Int) = ((w.1 + 156 : Nat) : Int) by omega])
  have z8 : Zb (fAsker ((w.1 + 139 : Nat) : Int) ((w.1 + 3 : Nat) : Int) ((w.1 + 96 : Nat) : Int) ((w12.1 + 1 : Nat) : Int) (nL w12 8 13)).1 s8 := by rw [eS8]; exact zb_ju (by rw [n_Asker]; show ((w.1 + 156 : Nat) : Int) ≤ ((w12.1 + 1 + 21 : Nat) : Int); omega) (S12.2.2.2.up (by rw [n_Asker]; show w12.1 ≤ w12.1 + 1 + 21; omega))
  have hz : ∀ j, s8 o j = 0 := fun j => by rw [eS8]; exact by rw [ju_ne (by have := S0.2.1; omega)]; exact hz j
  have hc := cs_cf (j := 9) S12 xx z8
  refine ⟨by rw [eG]; exact hc.2.2.1, ?_⟩
  rw [eG, hm_p]
  show Ev _ _ _ _ _ _ _ _ _ (toG (cf (fAsker ((w.1 + 139 : Nat) : Int) ((w.1 + 3 : Nat) : Int) ((w.1 + 96 : Nat) : Int)) w12 o 9 8 13)) _ _ _
  have S13 := hc
  have c13 : (cf (fAsker ((w.1 + 139 : Nat) : Int) ((w.1 + 3 : Nat) : Int) ((w.1 + 96 : Nat) : Int)) w12 o 9 8 13).1 = w.1 + 177 := by show _ = _; exact (show (cf (fAsker ((w.1 + 139 : Nat) : Int) ((w.1 + 3 : Nat) : Int) ((w.1 + 96 : Nat) : Int)) w12 o 9 8 13).1 = w12.1 + 22 from rfl).trans (by omega)
  replace r0 := (cf_r (w := w12) (o := o) (j := 9) (q := o) (i := 0) xx (by have := S12.2.1; omega) (Or.inr (by omega))).trans r0
  replace r2 := (cf_r (w := w12) (o := o) (j := 9) (q := o) (i := 2) xx (by have := S12.2.1; omega) (Or.inr (by omega))).trans r2
  replace k2 := (cf_k (w := w12) (o := o) (j := 9) (q := ((w.1 + 2 : Nat) : Int)) xx (by omega)).trans k2
  replace i2 := (cf_r (w := w12) (o := o) (j := 9) (q := ((w.1 + 2 : Nat) : Int)) (i := 0) xx (by have := S12.2.1; omega) (Or.inl (by omega))).trans i2
  replace r5 := (cf_r (w := w12) (o := o) (j := 9) (q := o) (i := 5) xx (by have := S12.2.1; omega) (Or.inr (by omega))).trans r5
  replace k5 := (cf_k (w := w12) (o := o) (j := 9) (q := ((w.1 + 96 : Nat) : Int)) xx (by omega)).trans k5
  replace q5 := (cf_r (w := w12) (o := o) (j := 9) (q := ((w.1 + 96 : Nat) : Int)) (i := 5) xx (by have := S12.2.1; omega) (Or.inl (by omega))).trans q5
  replace r7 := (cf_r (w := w12) (o := o) (j := 9) (q := o) (i := 7) xx (by have := S12.2.1; omega) (Or.inr (by omega))).trans r7
  generalize e13 : cf (fAsker ((w.1 + 139 : Nat) : Int) ((w.1 + 3 : Nat) : Int) ((w.1 + 96 : Nat) : Int)) w12 o 9 8 13 = w13 at S13 c13 r0 r2 k2 i2 r5 k5 q5 r7 ⊢
  clear S12 c12
  refine jwp_sound t_WordPlaces_init _ (b_WordPlaces_init_152 ?_)
  rw [jnewH_z S13.2.2.2, hm_n]
  refine ⟨Nat.le_of_ble_eq_true rfl, Nat.le_of_ble_eq_true rfl, by omega, 10, _, by omega, i_Key (by omega) (cs_new S13.2.2.2) (CS.z1 S13), Nat.le_of_ble_eq_true rfl, Nat.le_of_ble_eq_true rfl, ?_⟩
  intro G1 s9 hP
  obtain ⟨eG, eS9⟩ := hP
  replace eG : G1 = toG (fKey ((w13.1 + 1 : Nat) : Int) (nL w13 11 3)) := eG
  have xx : EXL ((w13.1 + 1 : Nat) : Int) (nL w13 11 3) (fKey ((w13.1 + 1 : Nat) : Int) (nL w13 11 3)) := x_Key
  replace eS9 := eS9.symm
  subst eS9
  have hc := cs_cf (j := 10) S13 xx (S13.2.2.2.up (Nat.le_trans (Nat.le_succ _) xx.1))
  refine ⟨by rw [eG]; exact hc.2.2.1, ?_⟩
  rw [eG, hm_p]
  show Ev _ _ _ _ _ _ _ _ _ (toG (cf (fKey) w13 o 10 11 3)) _ _ _
  have S14 := hc
  have c14 : (cf (fKey) w13 o 10 11 3).1 = w.1 + 178 := by show _ = _; exact (show (cf (fKey) w13 o 10 11 3).1 = w13.1 + 1 from rfl).trans (by omega)
  generalize e14 : cf (fKey) w13 o 10 11 3 = w14 at S14 c14 ⊢
  clear S13 c13
  refine jwp_sound t_WordPlaces_init _ (b_WordPlaces_init_163 ?_)
  refine ⟨by omega, by omega, Nat.le_of_ble_eq_true rfl, Nat.le_of_ble_eq_true rfl, S14.nk, ?_⟩
  rw [jnewH_z S14.2.2.2, hm_nf]
  have S15 := cs_nf (o := o) (j := 11) (k := 1) (n := 8) S14
  have c15 : (nf w14 o 11 1 8).1 = w.1 + 179 := by show _ = _; exact (show (nf w14 o 11 1 8).1 = w14.1 + 1 from rfl).trans (by omega)
  generalize e15 : nf w14 o 11 1 8 = w15 at S15 c15 ⊢
  clear S14 c14
  refine jwp_sound t_WordPlaces_init _ (b_WordPlaces_init_171 ?_)
  refine ⟨S15.2.2.1, ?_⟩
  rw [ju_z (hz 12)]
  refine jwp_sound t_WordPlaces_init _ (b_WordPlaces_init_176 ?_)
  refine ⟨by omega, by omega, Nat.le_of_ble_eq_true rfl, Nat.le_of_ble_eq_true rfl, S15.nk, ?_⟩
  rw [jnewH_z S15.2.2.2, hm_nf]
  have S16 := cs_nf (o := o) (j := 13) (k := 1) (n := 40) S15
  have c16 : (nf w15 o 13 1 40).1 = w.1 + 180 := by show _ = _; exact (show (nf w15 o 13 1 40).1 = w15.1 + 1 from rfl).trans (by omega)
  generalize e16 : nf w15 o 13 1 40 = w16 at S16 c16 ⊢
  clear S15 c15
  refine jwp_sound t_WordPlaces_init _ (b_WordPlaces_init_184 ?_)
  refine ⟨by omega, by omega, Nat.le_of_ble_eq_true rfl, Nat.le_of_ble_eq_true rfl, S16.nk, ?_⟩
  rw [jnewH_z S16.2.2.2, hm_nf]
  have S17 := cs_nf (o := o) (j := 14) (k := 1) (n := 40) S16
  have c17 : (nf w16 o 14 1 40).1 = w.1 + 181 := by show _ = _; exact (show (nf w16 o 14 1 40).1 = w16.1 + 1 from rfl).trans (by omega)
  generalize e17 : nf w16 o 14 1 40 = w17 at S17 c17 ⊢
  clear S16 c16
  refine jwp_sound t_WordPlaces_init _ (b_WordPlaces_init_192 ?_)
  refine ⟨S17.2.2.1, ?_⟩
  rw [ju_z (hz 15)]
  refine jwp_sound t_WordPlaces_init _ (b_WordPlaces_init_197 ?_)
  refine ⟨S17.2.2.1, ?_⟩
  rw [ju_z (hz 16)]
  refine jwp_sound t_WordPlaces_init _ (b_WordPlaces_init_202 ?_)
  refine ⟨S17.2.2.1, ?_⟩
  rw [ju_z (hz 17)]
  refine jwp_sound t_WordPlaces_init _ (b_WordPlaces_init_207 ?_)
  refine ⟨by omega, by omega, Nat.le_of_ble_eq_true rfl, Nat.le_of_ble_eq_true rfl, S17.nk, ?_⟩
  rw [jnewH_z S17.2.2.2, hm_nf]
  have S18 := cs_nf (o := o) (j := 18) (k := 1) (n := 600) S17
  have c18 : (nf w17 o 18 1 600).1 = w.1 + 182 := by show _ = _; exact (show (nf w17 o 18 1 600).1 = w17.1 + 1 from rfl).trans (by omega)
  have r18 : (toG (nf w17 o 18 1 600)).2.2 o 18 = ((w.1 + 182 : Nat) : Int) := nf_s.trans (by omega)
  have k18 : (toG (nf w17 o 18 1 600)).2.1 ((w.1 + 182 : Nat) : Int) = (1, 600) := by rw [show ((w.1 + 182 : Nat) : Int) = ((w17.1 + 1 : Nat) : Int) by omega]; exact nL_s
  generalize e18 : nf w17 o 18 1 600 = w18 at S18 c18 r18 k18 ⊢
  clear S17 c17
  refine jwp_sound t_WordPlaces_init _ (b_WordPlaces_init_216 ?_)
  rw [jnewH_z S18.2.2.2, hm_n]
  refine ⟨Nat.le_of_ble_eq_true rfl, Nat.le_of_ble_eq_true rfl, by omega, 11, _, by omega, i_Slots (by omega) (cs_new S18.2.2.2) (CS.z1 S18), Nat.le_of_ble_eq_true rfl, Nat.le_of_ble_eq_true rfl, ?_⟩
  intro G1 s9 hP
  obtain ⟨eG, eS9⟩ := hP
  replace eG : G1 = toG (fSlots ((w18.1 + 1 : Nat) : Int) (nL w18 16 4)) := eG
  have xx : EXL ((w18.1 + 1 : Nat) : Int) (nL w18 16 4) (fSlots ((w18.1 + 1 : Nat) : Int) (nL w18 16 4)) := x_Slots
  replace eS9 : s9 = jfill s8 ((w.1 + 186 : Nat) : Int) 0 4 (-1) := eS9.trans (by rw [show (((nL w18 16 4).1 + 3 : Nat) : Int) = ((w.1 + 186 : Nat) : Int) by show ((w18.1 + 1 + 3 : Nat) : Int) = _; omega])
  have z9 : Zb (fSlots ((w18.1 + 1 : Nat) : Int) (nL w18 16 4)).1 s9 := by rw [eS9]; exact zb_jf (by rw [n_Slots]; show ((w.1 + 186 : Nat) : Int) ≤ ((w18.1 + 1 + 4 : Nat) : Int); omega) (S18.2.2.2.up (by rw [n_Slots]; show w18.1 ≤ w18.1 + 1 + 4; omega))
  have hz : ∀ j, s9 o j = 0 := fun j => by rw [eS9]; exact by rw [jfill_row (by have := S0.2.1; omega)]; exact hz j
  have hc := cs_cf (j := 19) S18 xx z9
  refine ⟨by rw [eG]; exact hc.2.2.1, ?_⟩
  rw [eG, hm_p]
  show Ev _ _ _ _ _ _ _ _ _ (toG (cf (fSlots) w18 o 19 16 4)) _ _ _
  have S19 := hc
  have c19 : (cf (fSlots) w18 o 19 16 4).1 = w.1 + 187 := by show _ = _; exact (show (cf (fSlots) w18 o 19 16 4).1 = w18.1 + 5 from rfl).trans (by omega)
  replace r18 := (cf_r (w := w18) (o := o) (j := 19) (q := o) (i := 18) xx (by have := S18.2.1; omega) (Or.inr (by omega))).trans r18
  replace k18 := (cf_k (w := w18) (o := o) (j := 19) (q := ((w.1 + 182 : Nat) : Int)) xx (by omega)).trans k18
  generalize e19 : cf (fSlots) w18 o 19 16 4 = w19 at S19 c19 r18 k18 ⊢
  clear S18 c18
  refine jwp_sound t_WordPlaces_init _ (b_WordPlaces_init_227 ?_)
  refine ⟨S19.2.2.1, ?_⟩
  rw [r18]
  refine cN_mk (g_fill (d := 10) (σ := s9) (-1) k18 (by omega) (by omega)) (by omega) (fun _ τ h => ?_)
  subst e1
  subst e2
  subst e3
  subst e4
  subst e5
  subst e6
  subst e7
  subst e8
  subst e9
  subst e10
  subst e11
  subst e12
  subst e13
  subst e14
  subst e15
  subst e16
  subst e17
  subst e18
  subst e19
  refine ⟨rfl, h.trans ?_⟩
  rw [eS9, eS8, eS7, eS6, eS5, eS4, eS3, eS2, eS1]
  rfl
