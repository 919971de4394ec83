/-! The reference's constructor, up to its first rows -/
section CY
variable {w : jL} {k : Nat} {n : Int}
theorem nL_in {i : Int} {Q : Prop} (h0 : 0 ≤ i) (h1 : i < n) (q : Q) : ((toG (nL w k n)).2.1 (((toG w).1 + 1 : Nat) : Int)).1 = k ∧ 0 ≤ i ∧ i < ((toG (nL w k n)).2.1 (((toG w).1 + 1 : Nat) : Int)).2 ∧ Q := by
  have e : (toG (nL w k n)).2.1 (((toG w).1 + 1 : Nat) : Int) = (k, n) := nL_s
  rw [e]
  exact ⟨rfl, h0, h1, q⟩
end CY
def fMo (o : Int) (w : jL) : jL := nf (nf (nf (nf (nf (nf (nf (nf (nf (nf (nf (nf (nf (nf (nf (gq (nf (nf (nf (nf (nf (nf (nf (nf (nf (nf (nf (nf (nf (nf (nf (nf (nf (w) o 1 1 32677) o 2 1 98031) o 3 3 3) o 4 1 2) o 5 1 680) o 6 1 680) o 7 1 680) o 8 1 14280) o 9 1 14280) o 11 1 680) o 12 1 26) o 13 1 21) o 14 2 400) o 16 1 5) o 24 1 2597) o 26 1 61) o 27 1 60) o 28 7 3 10 340) o 31 1 21) o 32 1 1020) o 34 1 40) o 35 1 8) o 37 1 90601) o 38 3 680) o 39 1 40) o 40 1 40) o 42 1 680) o 44 1 400) o 45 1 680) o 47 1 4) o 48 1 4) o 49 4 240) o 50 4 60
def hMo (o : Int) (w : jL) (σ : jH) : jH := (ju (ju (ju (ju (ju (ju (ju (ju (ju (ju (ju (ju (ju (ju (ju (ju (ju (ju (ju (ju (ju (ju (ju (ju (ju (ju (ju (ju (ju (ju (ju σ ((w.1 + 11 : Nat) : Int) 0 0) ((w.1 + 11 : Nat) : Int) 1 1) ((w.1 + 11 : Nat) : Int) 2 2) ((w.1 + 11 : Nat) : Int) 3 3) ((w.1 + 11 : Nat) : Int) 4 4) ((w.1 + 11 : Nat) : Int) 5 5) ((w.1 + 11 : Nat) : Int) 6 6) ((w.1 + 11 : Nat) : Int) 7 7) ((w.1 + 11 : Nat) : Int) 8 8) ((w.1 + 11 : Nat) : Int) 9 9) ((w.1 + 11 : Nat) : Int) 10 10) ((w.1 + 11 : Nat) : Int) 11 11) ((w.1 + 11 : Nat) : Int) 12 12) ((w.1 + 11 : Nat) : Int) 13 13) ((w.1 + 11 : Nat) : Int) 14 14) ((w.1 + 11 : Nat) : Int) 15 15) ((w.1 + 11 : Nat) : Int) 16 16) ((w.1 + 11 : Nat) : Int) 17 17) ((w.1 + 11 : Nat) : Int) 18 18) ((w.1 + 11 : Nat) : Int) 19 19) ((w.1 + 11 : Nat) : Int) 20 20) ((w.1 + 11 : Nat) : Int) 21 21) ((w.1 + 11 : Nat) : Int) 22 22) ((w.1 + 11 : Nat) : Int) 23 23) ((w.1 + 11 : Nat) : Int) 24 24) ((w.1 + 11 : Nat) : Int) 25 25) o 23 (-1)) ((w.1 + 40 : Nat) : Int) 0 (-1)) ((w.1 + 40 : Nat) : Int) 1 (-1)) ((w.1 + 40 : Nat) : Int) 2 (-1)) ((w.1 + 40 : Nat) : Int) 3 (-1))
set_option maxHeartbeats 16000000 in
theorem i_Model {l : Launch} {d : Nat} {o : Int} {w : jL} {σ : jH} {Post : Int → jG → jH → Prop} (S0 : CS 20 o w σ) (hz : ∀ j, σ o j = 0) (hd : 1 ≤ d) (N : ∀ cs ss, Ev (l, (fun _ => 0), 0) d 43 263091 m_Model_init Post 448 [some (vR o)] [] (toG (fMo o w)) (hMo o w σ) cs ss) : CallG l d 43 263091 m_Model_init [vR o] (toG w) σ Post := by
  have c0 : w.1 = w.1 + 0 := rfl
  have so : o ≤ ((w.1 : Nat) : Int) := S0.2.1
  refine CG_of o_Model_init rfl (jwp_sound t_Model_init _ (b_Model_init_0 ?_))
  refine ⟨by omega, S0.1, by omega, by omega, Nat.le_of_ble_eq_true rfl, Nat.le_of_ble_eq_true rfl, S0.nk, ?_⟩
  rw [jnewH_z S0.2.2.2, hm_nf]
  have S1 := cs_nf (o := o) (j := 1) (k := 1) (n := 32677) S0
  have c1 : (nf w o 1 1 32677).1 = w.1 + 1 := by show _ = _; exact (show (nf w o 1 1 32677).1 = w.1 + 1 from rfl).trans (by omega)
  generalize e1 : nf w o 1 1 32677 = w1 at S1 c1 ⊢
  refine jwp_sound t_Model_init _ (b_Model_init_13 ?_)
  refine ⟨by omega, by omega, Nat.le_of_ble_eq_true rfl, Nat.le_of_ble_eq_true rfl, S1.nk, ?_⟩
  rw [jnewH_z S1.2.2.2, hm_nf]
  have S2 := cs_nf (o := o) (j := 2) (k := 1) (n := 98031) S1
  have c2 : (nf w1 o 2 1 98031).1 = w.1 + 2 := by show _ = _; exact (show (nf w1 o 2 1 98031).1 = w1.1 + 1 from rfl).trans (by omega)
  generalize e2 : nf w1 o 2 1 98031 = w2 at S2 c2 ⊢
  clear S1 c1
  refine jwp_sound t_Model_init _ (b_Model_init_21 ?_)
  refine ⟨by omega, by omega, Nat.le_of_ble_eq_true rfl, Nat.le_of_ble_eq_true rfl, S2.nk, ?_⟩
  rw [jnewH_z S2.2.2.2, hm_nf]
  have S3 := cs_nf (o := o) (j := 3) (k := 3) (n := 3) S2
  have c3 : (nf w2 o 3 3 3).1 = w.1 + 3 := by show _ = _; exact (show (nf w2 o 3 3 3).1 = w2.1 + 1 from rfl).trans (by omega)
  generalize e3 : nf w2 o 3 3 3 = w3 at S3 c3 ⊢
  clear S2 c2
  refine jwp_sound t_Model_init _ (b_Model_init_28 ?_)
  refine ⟨by omega, by omega, Nat.le_of_ble_eq_true rfl, Nat.le_of_ble_eq_true rfl, S3.nk, ?_⟩
  rw [jnewH_z S3.2.2.2, hm_nf]
  have S4 := cs_nf (o := o) (j := 4) (k := 1) (n := 2) S3
  have c4 : (nf w3 o 4 1 2).1 = w.1 + 4 := by show _ = _; exact (show (nf w3 o 4 1 2).1 = w3.1 + 1 from rfl).trans (by omega)
  generalize e4 : nf w3 o 4 1 2 = w4 at S4 c4 ⊢
  clear S3 c3
  refine jwp_sound t_Model_init _ (b_Model_init_35 ?_)
  refine ⟨by omega, by omega, Nat.le_of_ble_eq_true rfl, Nat.le_of_ble_eq_true rfl, S4.nk, ?_⟩
  rw [jnewH_z S4.2.2.2, hm_nf]
  have S5 := cs_nf (o := o) (j := 5) (k := 1) (n := 680) S4
  have c5 : (nf w4 o 5 1 680).1 = w.1 + 5 := by show _ = _; exact (show (nf w4 o 5 1 680).1 = w4.1 + 1 from rfl).trans (by omega)
  generalize e5 : nf w4 o 5 1 680 = w5 at S5 c5 ⊢
  clear S4 c4
  refine jwp_sound t_Model_init _ (b_Model_init_44 ?_)
  refine ⟨by omega, by omega, Nat.le_of_ble_eq_true rfl, Nat.le_of_ble_eq_true rfl, S5.nk, ?_⟩
  rw [jnewH_z S5.2.2.2, hm_nf]
  have S6 := cs_nf (o := o) (j := 6) (k := 1) (n := 680) S5
  have c6 : (nf w5 o 6 1 680).1 = w.1 + 6 := by show _ = _; exact (show (nf w5 o 6 1 680).1 = w5.1 + 1 from rfl).trans (by omega)
  generalize e6 : nf w5 o 6 1 680 = w6 at S6 c6 ⊢
  clear S5 c5
  refine jwp_sound t_Model_init _ (b_Model_init_53 ?_)
  refine ⟨by omega, by omega, Nat.le_of_ble_eq_true rfl, Nat.le_of_ble_eq_true rfl, S6.nk, ?_⟩
  rw [jnewH_z S6.2.2.2, hm_nf]
  have S7 := cs_nf (o := o) (j := 7) (k := 1) (n := 680) S6
  have c7 : (nf w6 o 7 1 680).1 = w.1 + 7 := by show _ = _; exact (show (nf w6 o 7 1 680).1 = w6.1 + 1 from rfl).trans (by omega)
  generalize e7 : nf w6 o 7 1 680 = w7 at S7 c7 ⊢
  clear S6 c6
  refine jwp_sound t_Model_init _ (b_Model_init_62 ?_)
  refine ⟨by omega, by omega, Nat.le_of_ble_eq_true rfl, Nat.le_of_ble_eq_true rfl, S7.nk, ?_⟩
  rw [jnewH_z S7.2.2.2, hm_nf]
  have S8 := cs_nf (o := o) (j := 8) (k := 1) (n := 14280) S7
  have c8 : (nf w7 o 8 1 14280).1 = w.1 + 8 := by show _ = _; exact (show (nf w7 o 8 1 14280).1 = w7.1 + 1 from rfl).trans (by omega)
  generalize e8 : nf w7 o 8 1 14280 = w8 at S8 c8 ⊢
  clear S7 c7
  refine jwp_sound t_Model_init _ (b_Model_init_71 ?_)
  refine ⟨by omega, by omega, Nat.le_of_ble_eq_true rfl, Nat.le_of_ble_eq_true rfl, S8.nk, ?_⟩
  rw [jnewH_z S8.2.2.2, hm_nf]
  have S9 := cs_nf (o := o) (j := 9) (k := 1) (n := 14280) S8
  have c9 : (nf w8 o 9 1 14280).1 = w.1 + 9 := by show _ = _; exact (show (nf w8 o 9 1 14280).1 = w8.1 + 1 from rfl).trans (by omega)
  generalize e9 : nf w8 o 9 1 14280 = w9 at S9 c9 ⊢
  clear S8 c8
  refine jwp_sound t_Model_init _ (b_Model_init_80 ?_)
  refine ⟨by omega, by omega, Nat.le_of_ble_eq_true rfl, Nat.le_of_ble_eq_true rfl, S9.nk, ?_⟩
  rw [jnewH_z S9.2.2.2, hm_nf]
  have S10 := cs_nf (o := o) (j := 11) (k := 1) (n := 680) S9
  have c10 : (nf w9 o 11 1 680).1 = w.1 + 10 := by show _ = _; exact (show (nf w9 o 11 1 680).1 = w9.1 + 1 from rfl).trans (by omega)
  generalize e10 : nf w9 o 11 1 680 = w10 at S10 c10 ⊢
  clear S9 c9
  refine jwp_sound t_Model_init _ (b_Model_init_89 ?_)
  rw [jnewH_z S10.2.2.2, hm_n]
  refine ⟨by omega, by omega, Nat.le_of_ble_eq_true rfl, Nat.le_of_ble_eq_true rfl, nL_in (by omega) (by omega) (nL_in (by omega) (by omega) (nL_in (by omega) (by omega) (nL_in (by omega) (by omega) (nL_in (by omega) (by omega) (nL_in (by omega) (by omega) (nL_in (by omega) (by omega) (nL_in (by omega) (by omega) (nL_in (by omega) (by omega) (nL_in (by omega) (by omega) (nL_in (by omega) (by omega) (nL_in (by omega) (by omega) (nL_in (by omega) (by omega) (nL_in (by omega) (by omega) (nL_in (by omega) (by omega) (nL_in (by omega) (by omega) (nL_in (by omega) (by omega) (nL_in (by omega) (by omega) (nL_in (by omega) (by omega) (nL_in (by omega) (by omega) (nL_in (by omega) (by omega) (nL_in (by omega) (by omega) (nL_in (by omega) (by omega) (nL_in (by omega) (by omega) (nL_in (by omega) (by omega) (nL_in (by omega) (by omega) (⟨by rw [nL_k S10.2.1]; exact S10.2.2.1, ?_⟩))))))))))))))))))))))))))⟩
  rw [hm_p]
  rw [show (((toG w10).1 + 1 : Nat) : Int) = ((w.1 + 11 : Nat) : Int) by show ((w10.1 + 1 : Nat) : Int) = _; omega]
  have zz : Zb (w10.1 + 1) (ju (ju (ju (ju (ju (ju (ju (ju (ju (ju (ju (ju (ju (ju (ju (ju (ju (ju (ju (ju (ju (ju (ju (ju (ju (ju σ ((w.1 + 11 : Nat) : Int) 0 0) ((w.1 + 11 : Nat) : Int) 1 1) ((w.1 + 11 : Nat) : Int) 2 2) ((w.1 + 11 : Nat) : Int) 3 3) ((w.1 + 11 : Nat) : Int) 4 4) ((w.1 + 11 : Nat) : Int) 5 5) ((w.1 + 11 : Nat) : Int) 6 6) ((w.1 + 11 : Nat) : Int) 7 7) ((w.1 + 11 : Nat) : Int) 8 8) ((w.1 + 11 : Nat) : Int) 9 9) ((w.1 + 11 : Nat) : Int) 10 10) ((w.1 + 11 : Nat) : Int) 11 11) ((w.1 + 11 : Nat) : Int) 12 12) ((w.1 + 11 : Nat) : Int) 13 13) ((w.1 + 11 : Nat) : Int) 14 14) ((w.1 + 11 : Nat) : Int) 15 15) ((w.1 + 11 : Nat) : Int) 16 16) ((w.1 + 11 : Nat) : Int) 17 17) ((w.1 + 11 : Nat) : Int) 18 18) ((w.1 + 11 : Nat) : Int) 19 19) ((w.1 + 11 : Nat) : Int) 20 20) ((w.1 + 11 : Nat) : Int) 21 21) ((w.1 + 11 : Nat) : Int) 22 22) ((w.1 + 11 : Nat) : Int) 23 23) ((w.1 + 11 : Nat) : Int) 24 24) ((w.1 + 11 : Nat) : Int) 25 25) := zb_ju (by omega) (zb_ju (by omega) (zb_ju (by omega) (zb_ju (by omega) (zb_ju (by omega) (zb_ju (by omega) (zb_ju (by omega) (zb_ju (by omega) (zb_ju (by omega) (zb_ju (by omega) (zb_ju (by omega) (zb_ju (by omega) (zb_ju (by omega) (zb_ju (by omega) (zb_ju (by omega) (zb_ju (by omega) (zb_ju (by omega) (zb_ju (by omega) (zb_ju (by omega) (zb_ju (by omega) (zb_ju (by omega) (zb_ju (by omega) (zb_ju (by omega) (zb_ju (by omega) (zb_ju (by omega) (zb_ju (by omega) (S10.2.2.2.up (Nat.le_succ _)))))))))))))))))))))))))))
  obtain ⟨s1, eS1⟩ : ∃ s : jH, s = ju (ju (ju (ju (ju (ju (ju (ju (ju (ju (ju (ju (ju (ju (ju (ju (ju (ju (ju (ju (ju (ju (ju (ju (ju (ju σ ((w.1 + 11 : Nat) : Int) 0 0) ((w.1 + 11 : Nat) : Int) 1 1) ((w.1 + 11 : Nat) : Int) 2 2) ((w.1 + 11 : Nat) : Int) 3 3) ((w.1 + 11 : Nat) : Int) 4 4) ((w.1 + 11 : Nat) : Int) 5 5) ((w.1 + 11 : Nat) : Int) 6 6) ((w.1 + 11 : Nat) : Int) 7 7) ((w.1 + 11 : Nat) : Int) 8 8) ((w.1 + 11 : Nat) : Int) 9 9) ((w.1 + 11 : Nat) : Int) 10 10) ((w.1 + 11 : Nat) : Int) 11 11) ((w.1 + 11 : Nat) : Int) 12 12) ((w.1 + 11 : Nat) : Int) 13 13) ((w.1 + 11 : Nat) : Int) 14 14) ((w.1 + 11 : Nat) : Int) 15 15) ((w.1 + 11 : Nat) : Int) 16 16) ((w.1 + 11 : Nat) : Int) 17 17) ((w.1 + 11 : Nat) : Int) 18 18) ((w.1 + 11 : Nat) : Int) 19 19) ((w.1 + 11 : Nat) : Int) 20 20) ((w.1 + 11 : Nat) : Int) 21 21) ((w.1 + 11 : Nat) : Int) 22 22) ((w.1 + 11 : Nat) : Int) 23 23) ((w.1 + 11 : Nat) : Int) 24 24) ((w.1 + 11 : Nat) : Int) 25 25 := ⟨_, rfl⟩
  rw [← eS1] at zz ⊢
  rw [show ((w.1 + 11 : Nat) : Int) = ((w10.1 + 1 : Nat) : Int) by omega]
  show Ev _ _ _ _ _ _ _ _ _ (toG (nf w10 o 12 1 26)) _ _ _
  have S11 := (show CS 20 o (nf w10 o 12 1 26) s1 from ⟨S10.1, by have := S10.2.1; show o ≤ ((w10.1 + 1 : Nat) : Int); omega, by rw [nf_k S10.2.1]; exact S10.2.2.1, zz⟩)
  have c11 : (nf w10 o 12 1 26).1 = w.1 + 11 := by show _ = _; exact (show (nf w10 o 12 1 26).1 = w10.1 + 1 from rfl).trans (by omega)
  generalize e11 : nf w10 o 12 1 26 = w11 at S11 c11 ⊢
  clear S10 c10
  refine jwp_sound t_Model_init _ (b_Model_init_241 ?_)
  refine ⟨by omega, by omega, Nat.le_of_ble_eq_true rfl, Nat.le_of_ble_eq_true rfl, S11.nk, ?_⟩
  rw [jnewH_z S11.2.2.2, hm_nf]
  have S12 := cs_nf (o := o) (j := 13) (k := 1) (n := 21) S11
  have c12 : (nf w11 o 13 1 21).1 = w.1 + 12 := by show _ = _; exact (show (nf w11 o 13 1 21).1 = w11.1 + 1 from rfl).trans (by omega)
  generalize e12 : nf w11 o 13 1 21 = w12 at S12 c12 ⊢
  clear S11 c11
  refine jwp_sound t_Model_init _ (b_Model_init_249 ?_)
  refine ⟨by omega, by omega, Nat.le_of_ble_eq_true rfl, Nat.le_of_ble_eq_true rfl, S12.nk, ?_⟩
  rw [jnewH_z S12.2.2.2, hm_nf]
  have S13 := cs_nf (o := o) (j := 14) (k := 2) (n := 400) S12
  have c13 : (nf w12 o 14 2 400).1 = w.1 + 13 := by show _ = _; exact (show (nf w12 o 14 2 400).1 = w12.1 + 1 from rfl).trans (by omega)
  generalize e13 : nf w12 o 14 2 400 = w13 at S13 c13 ⊢
  clear S12 c12
  refine jwp_sound t_Model_init _ (b_Model_init_258 ?_)
  refine ⟨by omega, by omega, Nat.le_of_ble_eq_true rfl, Nat.le_of_ble_eq_true rfl, S13.nk, ?_⟩
  rw [jnewH_z S13.2.2.2, hm_nf]
  have S14 := cs_nf (o := o) (j := 16) (k := 1) (n := 5) S13
  have c14 : (nf w13 o 16 1 5).1 = w.1 + 14 := by show _ = _; exact (show (nf w13 o 16 1 5).1 = w13.1 + 1 from rfl).trans (by omega)
  generalize e14 : nf w13 o 16 1 5 = w14 at S14 c14 ⊢
  clear S13 c13
  refine jwp_sound t_Model_init _ (b_Model_init_265 ?_)
  refine ⟨S14.2.2.1, ?_⟩
  have zz : Zb w14.1 (ju s1 o 23 (-1)) := zb_ju S14.2.1 S14.2.2.2
  obtain ⟨s2, eS2⟩ : ∃ s : jH, s = ju s1 o 23 (-1) := ⟨_, rfl⟩
  rw [← eS2] at zz ⊢
  have S14 : CS 20 o w14 s2 := ⟨S14.1, S14.2.1, S14.2.2.1, zz⟩
  refine jwp_sound t_Model_init _ (b_Model_init_270 ?_)
  refine ⟨by omega, by omega, Nat.le_of_ble_eq_true rfl, Nat.le_of_ble_eq_true rfl, S14.nk, ?_⟩
  rw [jnewH_z S14.2.2.2, hm_nf]
  have S15 := cs_nf (o := o) (j := 24) (k := 1) (n := 2597) S14
  have c15 : (nf w14 o 24 1 2597).1 = w.1 + 15 := by show _ = _; exact (show (nf w14 o 24 1 2597).1 = w14.1 + 1 from rfl).trans (by omega)
  generalize e15 : nf w14 o 24 1 2597 = w15 at S15 c15 ⊢
  clear S14 c14
  refine jwp_sound t_Model_init _ (b_Model_init_279 ?_)
  refine ⟨by omega, by omega, Nat.le_of_ble_eq_true rfl, Nat.le_of_ble_eq_true rfl, S15.nk, ?_⟩
  rw [jnewH_z S15.2.2.2, hm_nf]
  have S16 := cs_nf (o := o) (j := 26) (k := 1) (n := 61) S15
  have c16 : (nf w15 o 26 1 61).1 = w.1 + 16 := by show _ = _; exact (show (nf w15 o 26 1 61).1 = w15.1 + 1 from rfl).trans (by omega)
  generalize e16 : nf w15 o 26 1 61 = w16 at S16 c16 ⊢
  clear S15 c15
  refine jwp_sound t_Model_init _ (b_Model_init_287 ?_)
  refine ⟨by omega, by omega, Nat.le_of_ble_eq_true rfl, Nat.le_of_ble_eq_true rfl, S16.nk, ?_⟩
  rw [jnewH_z S16.2.2.2, hm_nf]
  have S17 := cs_nf (o := o) (j := 27) (k := 1) (n := 60) S16
  have c17 : (nf w16 o 27 1 60).1 = w.1 + 17 := by show _ = _; exact (show (nf w16 o 27 1 60).1 = w16.1 + 1 from rfl).trans (by omega)
  generalize e17 : nf w16 o 27 1 60 = w17 at S17 c17 ⊢
  clear S16 c16
  refine jwp_sound t_Model_init _ (b_Model_init_295 ?_)
  refine ⟨by omega, by omega, by omega, by omega, Nat.le_of_ble_eq_true rfl, Nat.le_of_ble_eq_true rfl, ?_⟩
  rw [jgridH_z S17.2.2.2, hm_g (by omega)]
  refine ⟨by rw [gdL_k S17.2.1]; exact S17.2.2.1, ?_⟩
  rw [hm_p]
  show Ev _ _ _ _ _ _ _ _ _ (toG (gq w17 o 28 7 3 10 340)) _ _ _
  have S18 := cs_ex S17 (ex_gq (o := o) (k := 7) (k2 := 3) (n := 10) (m := 340) (j := 28) (by omega) (ex_rf (o := o) (w := w17))) (S17.2.2.2.up (by show w17.1 ≤ w17.1 + 1 + 10; omega))
  have c18 : (gq w17 o 28 7 3 10 340).1 = w.1 + 28 := by show _ = _; exact (show (gq w17 o 28 7 3 10 340).1 = w17.1 + 11 from rfl).trans (by omega)
  generalize e18 : gq w17 o 28 7 3 10 340 = w18 at S18 c18 ⊢
  clear S17 c17
  refine jwp_sound t_Model_init _ (b_Model_init_308 ?_)
  refine ⟨by omega, by omega, Nat.le_of_ble_eq_true rfl, Nat.le_of_ble_eq_true rfl, S18.nk, ?_⟩
  rw [jnewH_z S18.2.2.2, hm_nf]
  have S19 := cs_nf (o := o) (j := 31) (k := 1) (n := 21) S18
  have c19 : (nf w18 o 31 1 21).1 = w.1 + 29 := by show _ = _; exact (show (nf w18 o 31 1 21).1 = w18.1 + 1 from rfl).trans (by omega)
  generalize e19 : nf w18 o 31 1 21 = w19 at S19 c19 ⊢
  clear S18 c18
  refine jwp_sound t_Model_init _ (b_Model_init_316 ?_)
  refine ⟨by omega, by omega, Nat.le_of_ble_eq_true rfl, Nat.le_of_ble_eq_true rfl, S19.nk, ?_⟩
  rw [jnewH_z S19.2.2.2, hm_nf]
  have S20 := cs_nf (o := o) (j := 32) (k := 1) (n := 1020) S19
  have c20 : (nf w19 o 32 1 1020).1 = w.1 + 30 := by show _ = _; exact (show (nf w19 o 32 1 1020).1 = w19.1 + 1 from rfl).trans (by omega)
  generalize e20 : nf w19 o 32 1 1020 = w20 at S20 c20 ⊢
  clear S19 c19
  refine jwp_sound t_Model_init _ (b_Model_init_325 ?_)
  refine ⟨by omega, by omega, Nat.le_of_ble_eq_true rfl, Nat.le_of_ble_eq_true rfl, S20.nk, ?_⟩
  rw [jnewH_z S20.2.2.2, hm_nf]
  have S21 := cs_nf (o := o) (j := 34) (k := 1) (n := 40) S20
  have c21 : (nf w20 o 34 1 40).1 = w.1 + 31 := by show _ = _; exact (show (nf w20 o 34 1 40).1 = w20.1 + 1 from rfl).trans (by omega)
  generalize e21 : nf w20 o 34 1 40 = w21 at S21 c21 ⊢
  clear S20 c20
  refine jwp_sound t_Model_init _ (b_Model_init_333 ?_)
  refine ⟨by omega, by omega, Nat.le_of_ble_eq_true rfl, Nat.le_of_ble_eq_true rfl, S21.nk, ?_⟩
  rw [jnewH_z S21.2.2.2, hm_nf]
  have S22 := cs_nf (o := o) (j := 35) (k := 1) (n := 8) S21
  have c22 : (nf w21 o 35 1 8).1 = w.1 + 32 := by show _ = _; exact (show (nf w21 o 35 1 8).1 = w21.1 + 1 from rfl).trans (by omega)
  generalize e22 : nf w21 o 35 1 8 = w22 at S22 c22 ⊢
  clear S21 c21
  refine jwp_sound t_Model_init _ (b_Model_init_341 ?_)
  refine ⟨by omega, by omega, Nat.le_of_ble_eq_true rfl, Nat.le_of_ble_eq_true rfl, S22.nk, ?_⟩
  rw [jnewH_z S22.2.2.2, hm_nf]
  have S23 := cs_nf (o := o) (j := 37) (k := 1) (n := 90601) S22
  have c23 : (nf w22 o 37 1 90601).1 = w.1 + 33 := by show _ = _; exact (show (nf w22 o 37 1 90601).1 = w22.1 + 1 from rfl).trans (by omega)
  generalize e23 : nf w22 o 37 1 90601 = w23 at S23 c23 ⊢
  clear S22 c22
  refine jwp_sound t_Model_init _ (b_Model_init_349 ?_)
  refine ⟨by omega, by omega, Nat.le_of_ble_eq_true rfl, Nat.le_of_ble_eq_true rfl, S23.nk, ?_⟩
  rw [jnewH_z S23.2.2.2, hm_nf]
  have S24 := cs_nf (o := o) (j := 38) (k := 3) (n := 680) S23
  have c24 : (nf w23 o 38 3 680).1 = w.1 + 34 := by show _ = _; exact (show (nf w23 o 38 3 680).1 = w23.1 + 1 from rfl).trans (by omega)
  generalize e24 : nf w23 o 38 3 680 = w24 at S24 c24 ⊢
  clear S23 c23
  refine jwp_sound t_Model_init _ (b_Model_init_358 ?_)
  refine ⟨by omega, by omega, Nat.le_of_ble_eq_true rfl, Nat.le_of_ble_eq_true rfl, S24.nk, ?_⟩
  rw [jnewH_z S24.2.2.2, hm_nf]
  have S25 := cs_nf (o := o) (j := 39) (k := 1) (n := 40) S24
  have c25 : (nf w24 o 39 1 40).1 = w.1 + 35 := by show _ = _; exact (show (nf w24 o 39 1 40).1 = w24.1 + 1 from rfl).trans (by omega)
  generalize e25 : nf w24 o 39 1 40 = w25 at S25 c25 ⊢
  clear S24 c24
  refine jwp_sound t_Model_init _ (b_Model_init_366 ?_)
  refine ⟨by omega, by omega, Nat.le_of_ble_eq_true rfl, Nat.le_of_ble_eq_true rfl, S25.nk, ?_⟩
  rw [jnewH_z S25.2.2.2, hm_nf]
  have S26 := cs_nf (o := o) (j := 40) (k := 1) (n := 40) S25
  have c26 : (nf w25 o 40 1 40).1 = w.1 + 36 := by show _ = _; exact (show (nf w25 o 40 1 40).1 = w25.1 + 1 from rfl).trans (by omega)
  generalize e26 : nf w25 o 40 1 40 = w26 at S26 c26 ⊢
  clear S25 c25
  refine jwp_sound t_Model_init _ (b_Model_init_374 ?_)
  refine ⟨by omega, by omega, Nat.le_of_ble_eq_true rfl, Nat.le_of_ble_eq_true rfl, S26.nk, ?_⟩
  rw [jnewH_z S26.2.2.2, hm_nf]
  have S27 := cs_nf (o := o) (j := 42) (k := 1) (n := 680) S26
  have c27 : (nf w26 o 42 1 680).1 = w.1 + 37 := by show _ = _; exact (show (nf w26 o 42 1 680).1 = w26.1 + 1 from rfl).trans (by omega)
  generalize e27 : nf w26 o 42 1 680 = w27 at S27 c27 ⊢
  clear S26 c26
  refine jwp_sound t_Model_init _ (b_Model_init_383 ?_)
  refine ⟨by omega, by omega, Nat.le_of_ble_eq_true rfl, Nat.le_of_ble_eq_true rfl, S27.nk, ?_⟩
  rw [jnewH_z S27.2.2.2, hm_nf]
  have S28 := cs_nf (o := o) (j := 44) (k := 1) (n := 400) S27
  have c28 : (nf w27 o 44 1 400).1 = w.1 + 38 := by show _ = _; exact (show (nf w27 o 44 1 400).1 = w27.1 + 1 from rfl).trans (by omega)
  generalize e28 : nf w27 o 44 1 400 = w28 at S28 c28 ⊢
  clear S27 c27
  refine jwp_sound t_Model_init _ (b_Model_init_392 ?_)
  refine ⟨by omega, by omega, Nat.le_of_ble_eq_true rfl, Nat.le_of_ble_eq_true rfl, S28.nk, ?_⟩
  rw [jnewH_z S28.2.2.2, hm_nf]
  have S29 := cs_nf (o := o) (j := 45) (k := 1) (n := 680) S28
  have c29 : (nf w28 o 45 1 680).1 = w.1 + 39 := by show _ = _; exact (show (nf w28 o 45 1 680).1 = w28.1 + 1 from rfl).trans (by omega)
  generalize e29 : nf w28 o 45 1 680 = w29 at S29 c29 ⊢
  clear S28 c28
  refine jwp_sound t_Model_init _ (b_Model_init_401 ?_)
  rw [jnewH_z S29.2.2.2, hm_n]
  refine ⟨by omega, by omega, Nat.le_of_ble_eq_true rfl, Nat.le_of_ble_eq_true rfl, nL_in (by omega) (by omega) (nL_in (by omega) (by omega) (nL_in (by omega) (by omega) (nL_in (by omega) (by omega) (⟨by rw [nL_k S29.2.1]; exact S29.2.2.1, ?_⟩))))⟩
  rw [hm_p]
  rw [show (((toG w29).1 + 1 : Nat) : Int) = ((w.1 + 40 : Nat) : Int) by show ((w29.1 + 1 : Nat) : Int) = _; omega]
  have zz : Zb (w29.1 + 1) (ju (ju (ju (ju s2 ((w.1 + 40 : Nat) : Int) 0 (-1)) ((w.1 + 40 : Nat) : Int) 1 (-1)) ((w.1 + 40 : Nat) : Int) 2 (-1)) ((w.1 + 40 : Nat) : Int) 3 (-1)) := zb_ju (by omega) (zb_ju (by omega) (zb_ju (by omega) (zb_ju (by omega) (S29.2.2.2.up (Nat.le_succ _)))))
  obtain ⟨s3, eS3⟩ : ∃ s : jH, s = ju (ju (ju (ju s2 ((w.1 + 40 : Nat) : Int) 0 (-1)) ((w.1 + 40 : Nat) : Int) 1 (-1)) ((w.1 + 40 : Nat) : Int) 2 (-1)) ((w.1 + 40 : Nat) : Int) 3 (-1) := ⟨_, rfl⟩
  rw [← eS3] at zz ⊢
  rw [show ((w.1 + 40 : Nat) : Int) = ((w29.1 + 1 : Nat) : Int) by omega]
  show Ev _ _ _ _ _ _ _ _ _ (toG (nf w29 o 47 1 4)) _ _ _
  have S30 := (show CS 20 o (nf w29 o 47 1 4) s3 from ⟨S29.1, by have := S29.2.1; show o ≤ ((w29.1 + 1 : Nat) : Int); omega, by rw [nf_k S29.2.1]; exact S29.2.2.1, zz⟩)
  have c30 : (nf w29 o 47 1 4).1 = w.1 + 40 := by show _ = _; exact (show (nf w29 o 47 1 4).1 = w29.1 + 1 from rfl).trans (by omega)
  generalize e30 : nf w29 o 47 1 4 = w30 at S30 c30 ⊢
  clear S29 c29
  refine jwp_sound t_Model_init _ (b_Model_init_424 ?_)
  refine ⟨by omega, by omega, Nat.le_of_ble_eq_true rfl, Nat.le_of_ble_eq_true rfl, S30.nk, ?_⟩
  rw [jnewH_z S30.2.2.2, hm_nf]
  have S31 := cs_nf (o := o) (j := 48) (k := 1) (n := 4) S30
  have c31 : (nf w30 o 48 1 4).1 = w.1 + 41 := by show _ = _; exact (show (nf w30 o 48 1 4).1 = w30.1 + 1 from rfl).trans (by omega)
  generalize e31 : nf w30 o 48 1 4 = w31 at S31 c31 ⊢
  clear S30 c30
  refine jwp_sound t_Model_init _ (b_Model_init_431 ?_)
  refine ⟨by omega, by omega, Nat.le_of_ble_eq_true rfl, Nat.le_of_ble_eq_true rfl, S31.nk, ?_⟩
  rw [jnewH_z S31.2.2.2, hm_nf]
  have S32 := cs_nf (o := o) (j := 49) (k := 4) (n := 240) S31
  have c32 : (nf w31 o 49 4 240).1 = w.1 + 42 := by show _ = _; exact (show (nf w31 o 49 4 240).1 = w31.1 + 1 from rfl).trans (by omega)
  generalize e32 : nf w31 o 49 4 240 = w32 at S32 c32 ⊢
  clear S31 c31
  refine jwp_sound t_Model_init _ (b_Model_init_440 ?_)
  refine ⟨by omega, by omega, Nat.le_of_ble_eq_true rfl, Nat.le_of_ble_eq_true rfl, S32.nk, ?_⟩
  rw [jnewH_z S32.2.2.2, hm_nf]
  have S33 := cs_nf (o := o) (j := 50) (k := 4) (n := 60) S32
  have c33 : (nf w32 o 50 4 60).1 = w.1 + 43 := by show _ = _; exact (show (nf w32 o 50 4 60).1 = w32.1 + 1 from rfl).trans (by omega)
  generalize e33 : nf w32 o 50 4 60 = w33 at S33 c33 ⊢
  clear S32 c32
  subst e1
  subst e2
  subst e3
  subst e4
  subst e5
  subst e6
  subst e7
  subst e8
  subst e9
  subst e10
  subst e11
  subst e12
  subst e13
  subst e14
  subst e15
  subst e16
  subst e17
  subst e18
  subst e19
  subst e20
  subst e21
  subst e22
  subst e23
  subst e24
  subst e25
  subst e26
  subst e27
  subst e28
  subst e29
  subst e30
  subst e31
  subst e32
  subst e33
  rw [eS3, eS2, eS1]
  exact N _ _
