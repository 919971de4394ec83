/-! Constructors of the class's own objects -/
section CV
variable {w w' : jL} {k K : Nat} {n o j v : Int} {σ τ : jH} {f : Int → jL → jL}
theorem cf_k {q : Int} (hf : EXL ((w.1 + 1 : Nat) : Int) (nL w k n) (f ((w.1 + 1 : Nat) : Int) (nL w k n))) (h : q ≤ w.1) : (toG (cf f w o j k n)).2.1 q = (toG w).2.1 q := (hf.2.1 q (by show q ≤ ((w.1 + 1 : Nat) : Int); omega)).trans (nL_k h)
theorem cf_r {q i : Int} (hf : EXL ((w.1 + 1 : Nat) : Int) (nL w k n) (f ((w.1 + 1 : Nat) : Int) (nL w k n))) (h : q ≤ w.1) (h2 : q ≠ o ∨ i ≠ j) : (toG (cf f w o j k n)).2.2 q i = (toG w).2.2 q i := ((pL_r h2).trans (hf.2.2 q i (by show q ≤ ((w.1 + 1 : Nat) : Int); omega) (by omega))).trans (nL_r h)
theorem CS.z1 (S : CS K o w σ) : ∀ i, σ ((w.1 + 1 : Nat) : Int) i = 0 := fun i => S.2.2.2 _ i (by omega)
def hRu (n : Nat) (σ : jH) : jH := idr (idr σ ((n + 1 : Nat) : Int) 26) ((n + 13 : Nat) : Int) 26
theorem zb_Ru {n : Nat} (h : Zb n σ) : Zb (n + 13) (hRu n σ) := fun c j hc => by
  unfold hRu idr
  rw [if_neg (by omega), if_neg (by omega)]
  exact h c j (by omega)
theorem hRu_o {n : Nat} {q : Int} (h : q ≤ n) : hRu n σ q = σ q := by
  funext j
  unfold hRu idr
  rw [if_neg (by omega), if_neg (by omega)]
end CV

def fKR (n o : Int) (w : jL) : jL := nf (nf w o 0 4 n) o 1 4 n
theorem x_KR {n o : Int} {w : jL} : EXL o w (fKR n o w) := ex_nf (ex_nf ex_rf)
theorem i_KeyRow {l : Launch} {d ms : Nat} {o n : Int} {w : jL} {σ : jH} (hd : 10 ≤ d) (S0 : CS 12 o w σ) (hn : 0 ≤ n) (hn2 : n < 60000000) (hm : n.toNat + n.toNat ≤ ms) : CallG l d 2 ms m_KeyRow_init [vR o, vI n] (toG w) σ (fun _ G' σ' => G' = toG (fKR n o w) ∧ σ' = σ) := by
  refine CG_of o_KeyRow_init rfl (jwp_sound t_KeyRow_init _ (b_KeyRow_init_0 ?_))
  rw [show max 0 n = n by omega]
  refine ⟨by omega, S0.1, by omega, hn, hn2, by omega, by omega, S0.nk, ?_⟩
  rw [jnewH_z S0.2.2.2, hm_nf]
  have S1 := cs_nf (o := o) (j := 0) (k := 4) (n := n) S0
  generalize e1 : nf w o 0 4 n = w1 at S1 ⊢
  refine jwp_sound t_KeyRow_init _ (b_KeyRow_init_17 ?_)
  refine ⟨hn, hn2, by omega, by omega, S1.nk, ?_⟩
  rw [jnewH_z S1.2.2.2, hm_nf]
  refine jwp_sound t_KeyRow_init _ (b_KeyRow_init_24 ?_)
  subst e1
  exact ⟨rfl, rfl⟩
def fKey (o : Int) (w : jL) : jL := w
theorem x_Key {o : Int} {w : jL} : EXL o w (fKey o w) := ex_rf
theorem i_Key {l : Launch} {d : Nat} {o : Int} {w : jL} {σ : jH} (hd : 10 ≤ d) (S0 : CS 11 o w σ) (hz : ∀ j, σ o j = 0) : CallG l d 0 0 m_Key_init [vR o] (toG w) σ (fun _ G' σ' => G' = toG (fKey o w) ∧ σ' = σ) := by
  refine CG_of o_Key_init rfl (jwp_sound t_Key_init _ (b_Key_init_0 ?_))
  refine ⟨by omega, S0.1, S0.2.2.1, ?_⟩
  rw [ju_z (hz 0)]
  refine jwp_sound t_Key_init _ (b_Key_init_9 ?_)
  refine ⟨S0.2.2.1, ?_⟩
  rw [ju_z (hz 1)]
  refine jwp_sound t_Key_init _ (b_Key_init_14 ?_)
  refine ⟨S0.2.2.1, ?_⟩
  rw [ju_z (hz 2)]
  refine jwp_sound t_Key_init _ (b_Key_init_19 ?_)
  exact ⟨rfl, rfl⟩
def fRules (o : Int) (w : jL) : jL := nf (nf (cf (fKR 80) (cf (fKR 20) (cf (fKR 20) (nf (nf (w) o 1 2 26) o 2 2 26) o 4 12 2) o 6 12 2) o 8 12 2) o 9 1 20) o 10 2 26
theorem x_Rules {o : Int} {w : jL} : EXL o w (fRules o w) := ex_nf (ex_nf (ex_cf (ex_cf (ex_cf (ex_nf (ex_nf (ex_rf))) x_KR) x_KR) x_KR))
theorem n_Rules {o : Int} {w : jL} : (fRules o w).1 = w.1 + 13 := rfl
set_option maxHeartbeats 8000000 in
theorem i_Rules {l : Launch} {d : Nat} {o : Int} {w : jL} {σ : jH} (hd : 12 ≤ d) (S0 : CS 15 o w σ) (hz : ∀ j, σ o j = 0) : CallG l d 13 344 m_Rules_init [vR o] (toG w) σ (fun _ G' σ' => G' = toG (fRules o w) ∧ σ' = hRu w.1 σ) := by
  have X0 : EXL o w w := ex_rf
  have c0 : w.1 = w.1 + 0 := rfl
  refine CG_of o_Rules_init rfl (jwp_sound t_Rules_init _ (b_Rules_init_0 ?_))
  refine ⟨by omega, S0.1, S0.2.2.1, ?_⟩
  rw [ju_z (hz 0)]
  refine jwp_sound t_Rules_init _ (b_Rules_init_9 ?_)
  refine ⟨by omega, by omega, Nat.le_of_ble_eq_true rfl, Nat.le_of_ble_eq_true rfl, S0.nk, ?_⟩
  rw [jnewH_z S0.2.2.2, hm_nf]
  have S1 := cs_nf (o := o) (j := 1) (k := 2) (n := 26) S0
  have X1 := ex_nf (j := 1) (k := 2) (n := 26) X0
  have c1 : (nf w o 1 2 26).1 = w.1 + 1 := by show _ = _; exact (show (nf w o 1 2 26).1 = w.1 + 1 from rfl).trans (by omega)
  have r1 : (toG (nf w o 1 2 26)).2.2 o 1 = ((w.1 + 1 : Nat) : Int) := nf_s.trans (by omega)
  have k1 : (toG (nf w o 1 2 26)).2.1 ((w.1 + 1 : Nat) : Int) = (2, 26) := by rw [show ((w.1 + 1 : Nat) : Int) = ((w.1 + 1 : Nat) : Int) by omega]; exact nL_s
  generalize e1 : nf w o 1 2 26 = w1 at S1 X1 c1 r1 k1 ⊢
  refine jwp_sound t_Rules_init _ (b_Rules_init_17 ?_)
  refine ⟨by omega, by omega, Nat.le_of_ble_eq_true rfl, Nat.le_of_ble_eq_true rfl, S1.nk, ?_⟩
  rw [jnewH_z S1.2.2.2, hm_nf]
  have S2 := cs_nf (o := o) (j := 2) (k := 2) (n := 26) S1
  have X2 := ex_nf (j := 2) (k := 2) (n := 26) X1
  have c2 : (nf w1 o 2 2 26).1 = w.1 + 2 := by show _ = _; exact (show (nf w1 o 2 2 26).1 = w1.1 + 1 from rfl).trans (by omega)
  replace r1 := (nf_r (w := w1) (o := o) (j := 2) (k := 2) (n := 26) (q := o) (i := 1) S1.2.1 (Or.inr (by omega))).trans r1
  replace k1 := (nf_k (w := w1) (o := o) (j := 2) (k := 2) (n := 26) (q := ((w.1 + 1 : Nat) : Int)) (by omega)).trans k1
  have r2 : (toG (nf w1 o 2 2 26)).2.2 o 2 = ((w.1 + 2 : Nat) : Int) := nf_s.trans (by omega)
  have k2 : (toG (nf w1 o 2 2 26)).2.1 ((w.1 + 2 : Nat) : Int) = (2, 26) := by rw [show ((w.1 + 2 : Nat) : Int) = ((w1.1 + 1 : Nat) : Int) by omega]; exact nL_s
  generalize e2 : nf w1 o 2 2 26 = w2 at S2 X2 c2 r1 k1 r2 k2 ⊢
  clear S1 X1 c1
  refine jwp_sound t_Rules_init _ (b_Rules_init_25 ?_)
  refine ⟨S2.2.2.1, ?_⟩
  rw [ju_z (hz 3)]
  refine jwp_sound t_Rules_init _ (b_Rules_init_30 ?_)
  rw [jnewH_z S2.2.2.2, hm_n]
  refine ⟨Nat.le_of_ble_eq_true rfl, Nat.le_of_ble_eq_true rfl, by omega, 10, _, by omega, i_KeyRow (n := 20) (by omega) (cs_new S2.2.2.2) (by omega) (by omega) (by decide), Nat.le_of_ble_eq_true rfl, Nat.le_of_ble_eq_true rfl, ?_⟩
  intro G1 σ1 hP
  obtain ⟨eG, eS⟩ := hP
  replace eS := eS.symm
  subst eS
  have xx : EXL ((w2.1 + 1 : Nat) : Int) (nL w2 12 2) (fKR 20 ((w2.1 + 1 : Nat) : Int) (nL w2 12 2)) := x_KR
  have hc := cs_cf (j := 4) S2 xx (S2.2.2.2.up (Nat.le_trans (Nat.le_succ _) xx.1))
  refine ⟨by rw [eG]; exact hc.2.2.1, ?_⟩
  rw [eG, hm_p]
  show Ev _ _ _ _ _ _ _ _ _ (toG (cf (fKR 20) w2 o 4 12 2)) _ _ _
  have S3 := hc
  have X3 := ex_cf (o := o) (j := 4) X2 xx
  have c3 : (cf (fKR 20) w2 o 4 12 2).1 = w.1 + 5 := by show _ = _; exact (show (cf (fKR 20) w2 o 4 12 2).1 = w2.1 + 3 from rfl).trans (by omega)
  replace r1 := (cf_r (w := w2) (o := o) (j := 4) (q := o) (i := 1) xx S2.2.1 (Or.inr (by omega))).trans r1
  replace k1 := (cf_k (w := w2) (o := o) (j := 4) (q := ((w.1 + 1 : Nat) : Int)) xx (by omega)).trans k1
  replace r2 := (cf_r (w := w2) (o := o) (j := 4) (q := o) (i := 2) xx S2.2.1 (Or.inr (by omega))).trans r2
  replace k2 := (cf_k (w := w2) (o := o) (j := 4) (q := ((w.1 + 2 : Nat) : Int)) xx (by omega)).trans k2
  generalize e3 : cf (fKR 20) w2 o 4 12 2 = w3 at S3 X3 c3 r1 k1 r2 k2 ⊢
  clear S2 X2 c2
  refine jwp_sound t_Rules_init _ (b_Rules_init_43 ?_)
  refine ⟨S3.2.2.1, ?_⟩
  rw [ju_z (hz 5)]
  refine jwp_sound t_Rules_init _ (b_Rules_init_48 ?_)
  rw [jnewH_z S3.2.2.2, hm_n]
  refine ⟨Nat.le_of_ble_eq_true rfl, Nat.le_of_ble_eq_true rfl, by omega, 10, _, by omega, i_KeyRow (n := 20) (by omega) (cs_new S3.2.2.2) (by omega) (by omega) (by decide), Nat.le_of_ble_eq_true rfl, Nat.le_of_ble_eq_true rfl, ?_⟩
  intro G1 σ1 hP
  obtain ⟨eG, eS⟩ := hP
  replace eS := eS.symm
  subst eS
  have xx : EXL ((w3.1 + 1 : Nat) : Int) (nL w3 12 2) (fKR 20 ((w3.1 + 1 : Nat) : Int) (nL w3 12 2)) := x_KR
  have hc := cs_cf (j := 6) S3 xx (S3.2.2.2.up (Nat.le_trans (Nat.le_succ _) xx.1))
  refine ⟨by rw [eG]; exact hc.2.2.1, ?_⟩
  rw [eG, hm_p]
  show Ev _ _ _ _ _ _ _ _ _ (toG (cf (fKR 20) w3 o 6 12 2)) _ _ _
  have S4 := hc
  have X4 := ex_cf (o := o) (j := 6) X3 xx
  have c4 : (cf (fKR 20) w3 o 6 12 2).1 = w.1 + 8 := by show _ = _; exact (show (cf (fKR 20) w3 o 6 12 2).1 = w3.1 + 3 from rfl).trans (by omega)
  replace r1 := (cf_r (w := w3) (o := o) (j := 6) (q := o) (i := 1) xx S3.2.1 (Or.inr (by omega))).trans r1
  replace k1 := (cf_k (w := w3) (o := o) (j := 6) (q := ((w.1 + 1 : Nat) : Int)) xx (by omega)).trans k1
  replace r2 := (cf_r (w := w3) (o := o) (j := 6) (q := o) (i := 2) xx S3.2.1 (Or.inr (by omega))).trans r2
  replace k2 := (cf_k (w := w3) (o := o) (j := 6) (q := ((w.1 + 2 : Nat) : Int)) xx (by omega)).trans k2
  generalize e4 : cf (fKR 20) w3 o 6 12 2 = w4 at S4 X4 c4 r1 k1 r2 k2 ⊢
  clear S3 X3 c3
  refine jwp_sound t_Rules_init _ (b_Rules_init_61 ?_)
  refine ⟨S4.2.2.1, ?_⟩
  rw [ju_z (hz 7)]
  refine jwp_sound t_Rules_init _ (b_Rules_init_66 ?_)
  rw [jnewH_z S4.2.2.2, hm_n]
  refine ⟨Nat.le_of_ble_eq_true rfl, Nat.le_of_ble_eq_true rfl, by omega, 10, _, by omega, i_KeyRow (n := 80) (by omega) (cs_new S4.2.2.2) (by omega) (by omega) (by decide), Nat.le_of_ble_eq_true rfl, Nat.le_of_ble_eq_true rfl, ?_⟩
  intro G1 σ1 hP
  obtain ⟨eG, eS⟩ := hP
  replace eS := eS.symm
  subst eS
  have xx : EXL ((w4.1 + 1 : Nat) : Int) (nL w4 12 2) (fKR 80 ((w4.1 + 1 : Nat) : Int) (nL w4 12 2)) := x_KR
  have hc := cs_cf (j := 8) S4 xx (S4.2.2.2.up (Nat.le_trans (Nat.le_succ _) xx.1))
  refine ⟨by rw [eG]; exact hc.2.2.1, ?_⟩
  rw [eG, hm_p]
  show Ev _ _ _ _ _ _ _ _ _ (toG (cf (fKR 80) w4 o 8 12 2)) _ _ _
  have S5 := hc
  have X5 := ex_cf (o := o) (j := 8) X4 xx
  have c5 : (cf (fKR 80) w4 o 8 12 2).1 = w.1 + 11 := by show _ = _; exact (show (cf (fKR 80) w4 o 8 12 2).1 = w4.1 + 3 from rfl).trans (by omega)
  replace r1 := (cf_r (w := w4) (o := o) (j := 8) (q := o) (i := 1) xx S4.2.1 (Or.inr (by omega))).trans r1
  replace k1 := (cf_k (w := w4) (o := o) (j := 8) (q := ((w.1 + 1 : Nat) : Int)) xx (by omega)).trans k1
  replace r2 := (cf_r (w := w4) (o := o) (j := 8) (q := o) (i := 2) xx S4.2.1 (Or.inr (by omega))).trans r2
  replace k2 := (cf_k (w := w4) (o := o) (j := 8) (q := ((w.1 + 2 : Nat) : Int)) xx (by omega)).trans k2
  generalize e5 : cf (fKR 80) w4 o 8 12 2 = w5 at S5 X5 c5 r1 k1 r2 k2 ⊢
  clear S4 X4 c4
  refine jwp_sound t_Rules_init _ (b_Rules_init_79 ?_)
  refine ⟨by omega, by omega, Nat.le_of_ble_eq_true rfl, Nat.le_of_ble_eq_true rfl, S5.nk, ?_⟩
  rw [jnewH_z S5.2.2.2, hm_nf]
  have S6 := cs_nf (o := o) (j := 9) (k := 1) (n := 20) S5
  have X6 := ex_nf (j := 9) (k := 1) (n := 20) X5
  have c6 : (nf w5 o 9 1 20).1 = w.1 + 12 := by show _ = _; exact (show (nf w5 o 9 1 20).1 = w5.1 + 1 from rfl).trans (by omega)
  replace r1 := (nf_r (w := w5) (o := o) (j := 9) (k := 1) (n := 20) (q := o) (i := 1) S5.2.1 (Or.inr (by omega))).trans r1
  replace k1 := (nf_k (w := w5) (o := o) (j := 9) (k := 1) (n := 20) (q := ((w.1 + 1 : Nat) : Int)) (by omega)).trans k1
  replace r2 := (nf_r (w := w5) (o := o) (j := 9) (k := 1) (n := 20) (q := o) (i := 2) S5.2.1 (Or.inr (by omega))).trans r2
  replace k2 := (nf_k (w := w5) (o := o) (j := 9) (k := 1) (n := 20) (q := ((w.1 + 2 : Nat) : Int)) (by omega)).trans k2
  have r9 : (toG (nf w5 o 9 1 20)).2.2 o 9 = ((w.1 + 12 : Nat) : Int) := nf_s.trans (by omega)
  have k9 : (toG (nf w5 o 9 1 20)).2.1 ((w.1 + 12 : Nat) : Int) = (1, 20) := by rw [show ((w.1 + 12 : Nat) : Int) = ((w5.1 + 1 : Nat) : Int) by omega]; exact nL_s
  generalize e6 : nf w5 o 9 1 20 = w6 at S6 X6 c6 r1 k1 r2 k2 r9 k9 ⊢
  clear S5 X5 c5
  refine jwp_sound t_Rules_init _ (b_Rules_init_87 ?_)
  refine ⟨by omega, by omega, Nat.le_of_ble_eq_true rfl, Nat.le_of_ble_eq_true rfl, S6.nk, ?_⟩
  rw [jnewH_z S6.2.2.2, hm_nf]
  have S7 := cs_nf (o := o) (j := 10) (k := 2) (n := 26) S6
  have X7 := ex_nf (j := 10) (k := 2) (n := 26) X6
  have c7 : (nf w6 o 10 2 26).1 = w.1 + 13 := by show _ = _; exact (show (nf w6 o 10 2 26).1 = w6.1 + 1 from rfl).trans (by omega)
  replace r1 := (nf_r (w := w6) (o := o) (j := 10) (k := 2) (n := 26) (q := o) (i := 1) S6.2.1 (Or.inr (by omega))).trans r1
  replace k1 := (nf_k (w := w6) (o := o) (j := 10) (k := 2) (n := 26) (q := ((w.1 + 1 : Nat) : Int)) (by omega)).trans k1
  replace r2 := (nf_r (w := w6) (o := o) (j := 10) (k := 2) (n := 26) (q := o) (i := 2) S6.2.1 (Or.inr (by omega))).trans r2
  replace k2 := (nf_k (w := w6) (o := o) (j := 10) (k := 2) (n := 26) (q := ((w.1 + 2 : Nat) : Int)) (by omega)).trans k2
  replace r9 := (nf_r (w := w6) (o := o) (j := 10) (k := 2) (n := 26) (q := o) (i := 9) S6.2.1 (Or.inr (by omega))).trans r9
  replace k9 := (nf_k (w := w6) (o := o) (j := 10) (k := 2) (n := 26) (q := ((w.1 + 12 : Nat) : Int)) (by omega)).trans k9
  have r10 : (toG (nf w6 o 10 2 26)).2.2 o 10 = ((w.1 + 13 : Nat) : Int) := nf_s.trans (by omega)
  have k10 : (toG (nf w6 o 10 2 26)).2.1 ((w.1 + 13 : Nat) : Int) = (2, 26) := by rw [show ((w.1 + 13 : Nat) : Int) = ((w6.1 + 1 : Nat) : Int) by omega]; exact nL_s
  generalize e7 : nf w6 o 10 2 26 = w7 at S7 X7 c7 r1 k1 r2 k2 r9 k9 r10 k10 ⊢
  clear S6 X6 c6
  refine jwp_sound t_Rules_init _ (b_Rules_init_95 ?_)
  refine ⟨S7.2.2.1, Or.inl rfl, ?_⟩
  rw [ju_z (hz 11)]
  refine jwp_sound t_Rules_init _ (b_Rules_init_100 ?_)
  have so := S0.2.1
  refine ⟨S7.2.2.1, ?_⟩
  refine cN_mk (g_clear (d := 11) (σ := σ) S7.2.2.1 r1 r2 r9 r10 k1 k10 k2 k9 ⟨by omega, by omega, by omega, by omega, by omega⟩ hz (fun i => S0.2.2.2 _ i (by omega)) (fun i => S0.2.2.2 _ i (by omega)) (by omega)) (by omega) (fun _ τ h => ?_)
  subst e1
  subst e2
  subst e3
  subst e4
  subst e5
  subst e6
  subst e7
  exact ⟨rfl, h⟩
def fImage (o : Int) (w : jL) : jL := cf (fKR 1200) (nf (nf (nf (nf (nf (cf (fRules) (w) o 0 15 12) o 1 2 4800) o 2 1 80) o 3 1 80) o 4 2 80) o 5 1 2) o 6 12 2
theorem x_Image {o : Int} {w : jL} : EXL o w (fImage o w) := ex_cf (ex_nf (ex_nf (ex_nf (ex_nf (ex_nf (ex_cf (ex_rf) x_Rules)))))) x_KR
theorem n_Image {o : Int} {w : jL} : (fImage o w).1 = w.1 + 22 := rfl
set_option maxHeartbeats 8000000 in
theorem i_Image {l : Launch} {d : Nat} {o : Int} {w : jL} {σ : jH} (hd : 13 ≤ d) (S0 : CS 10 o w σ) (hz : ∀ j, σ o j = 0) : CallG l d 22 7800 m_Image_init [vR o] (toG w) σ (fun _ G' σ' => G' = toG (fImage o w) ∧ σ' = hRu (w.1 + 1) σ) := by
  have X0 : EXL o w w := ex_rf
  have c0 : w.1 = w.1 + 0 := rfl
  refine CG_of o_Image_init rfl (jwp_sound t_Image_init _ (b_Image_init_0 ?_))
  rw [jnewH_z S0.2.2.2, hm_n]
  refine ⟨by omega, S0.1, Nat.le_of_ble_eq_true rfl, Nat.le_of_ble_eq_true rfl, by omega, 12, _, by omega, i_Rules (by omega) (cs_new S0.2.2.2) (CS.z1 S0), Nat.le_of_ble_eq_true rfl, Nat.le_of_ble_eq_true rfl, ?_⟩
  intro G1 σ1 hP
  obtain ⟨eG, eS⟩ := hP
  replace eS := eS.symm
  subst eS
  have xx : EXL ((w.1 + 1 : Nat) : Int) (nL w 15 12) (fRules ((w.1 + 1 : Nat) : Int) (nL w 15 12)) := x_Rules
  have hc := cs_cf (j := 0) S0 xx (by rw [n_Rules]; exact zb_Ru (S0.2.2.2.up (Nat.le_succ _)))
  refine ⟨by rw [eG]; exact hc.2.2.1, ?_⟩
  rw [eG, hm_p]
  show Ev _ _ _ _ _ _ _ _ _ (toG (cf (fRules) w o 0 15 12)) _ _ _
  have S1 := hc
  have X1 := ex_cf (o := o) (j := 0) X0 xx
  have c1 : (cf (fRules) w o 0 15 12).1 = w.1 + 14 := by show _ = _; exact (show (cf (fRules) w o 0 15 12).1 = w.1 + 14 from rfl).trans (by omega)
  generalize e1 : cf (fRules) w o 0 15 12 = w1 at S1 X1 c1 ⊢
  refine jwp_sound t_Image_init _ (b_Image_init_15 ?_)
  refine ⟨by omega, by omega, Nat.le_of_ble_eq_true rfl, Nat.le_of_ble_eq_true rfl, S1.nk, ?_⟩
  rw [jnewH_z S1.2.2.2, hm_nf]
  have S2 := cs_nf (o := o) (j := 1) (k := 2) (n := 4800) S1
  have X2 := ex_nf (j := 1) (k := 2) (n := 4800) X1
  have c2 : (nf w1 o 1 2 4800).1 = w.1 + 15 := by show _ = _; exact (show (nf w1 o 1 2 4800).1 = w1.1 + 1 from rfl).trans (by omega)
  generalize e2 : nf w1 o 1 2 4800 = w2 at S2 X2 c2 ⊢
  clear S1 X1 c1
  refine jwp_sound t_Image_init _ (b_Image_init_24 ?_)
  refine ⟨by omega, by omega, Nat.le_of_ble_eq_true rfl, Nat.le_of_ble_eq_true rfl, S2.nk, ?_⟩
  rw [jnewH_z S2.2.2.2, hm_nf]
  have S3 := cs_nf (o := o) (j := 2) (k := 1) (n := 80) S2
  have X3 := ex_nf (j := 2) (k := 1) (n := 80) X2
  have c3 : (nf w2 o 2 1 80).1 = w.1 + 16 := by show _ = _; exact (show (nf w2 o 2 1 80).1 = w2.1 + 1 from rfl).trans (by omega)
  generalize e3 : nf w2 o 2 1 80 = w3 at S3 X3 c3 ⊢
  clear S2 X2 c2
  refine jwp_sound t_Image_init _ (b_Image_init_32 ?_)
  refine ⟨by omega, by omega, Nat.le_of_ble_eq_true rfl, Nat.le_of_ble_eq_true rfl, S3.nk, ?_⟩
  rw [jnewH_z S3.2.2.2, hm_nf]
  have S4 := cs_nf (o := o) (j := 3) (k := 1) (n := 80) S3
  have X4 := ex_nf (j := 3) (k := 1) (n := 80) X3
  have c4 : (nf w3 o 3 1 80).1 = w.1 + 17 := by show _ = _; exact (show (nf w3 o 3 1 80).1 = w3.1 + 1 from rfl).trans (by omega)
  generalize e4 : nf w3 o 3 1 80 = w4 at S4 X4 c4 ⊢
  clear S3 X3 c3
  refine jwp_sound t_Image_init _ (b_Image_init_40 ?_)
  refine ⟨by omega, by omega, Nat.le_of_ble_eq_true rfl, Nat.le_of_ble_eq_true rfl, S4.nk, ?_⟩
  rw [jnewH_z S4.2.2.2, hm_nf]
  have S5 := cs_nf (o := o) (j := 4) (k := 2) (n := 80) S4
  have X5 := ex_nf (j := 4) (k := 2) (n := 80) X4
  have c5 : (nf w4 o 4 2 80).1 = w.1 + 18 := by show _ = _; exact (show (nf w4 o 4 2 80).1 = w4.1 + 1 from rfl).trans (by omega)
  generalize e5 : nf w4 o 4 2 80 = w5 at S5 X5 c5 ⊢
  clear S4 X4 c4
  refine jwp_sound t_Image_init _ (b_Image_init_48 ?_)
  refine ⟨by omega, by omega, Nat.le_of_ble_eq_true rfl, Nat.le_of_ble_eq_true rfl, S5.nk, ?_⟩
  rw [jnewH_z S5.2.2.2, hm_nf]
  have S6 := cs_nf (o := o) (j := 5) (k := 1) (n := 2) S5
  have X6 := ex_nf (j := 5) (k := 1) (n := 2) X5
  have c6 : (nf w5 o 5 1 2).1 = w.1 + 19 := by show _ = _; exact (show (nf w5 o 5 1 2).1 = w5.1 + 1 from rfl).trans (by omega)
  generalize e6 : nf w5 o 5 1 2 = w6 at S6 X6 c6 ⊢
  clear S5 X5 c5
  refine jwp_sound t_Image_init _ (b_Image_init_55 ?_)
  rw [jnewH_z S6.2.2.2, hm_n]
  refine ⟨Nat.le_of_ble_eq_true rfl, Nat.le_of_ble_eq_true rfl, by omega, 10, _, by omega, i_KeyRow (n := 1200) (by omega) (cs_new S6.2.2.2) (by omega) (by omega) (by decide), Nat.le_of_ble_eq_true rfl, Nat.le_of_ble_eq_true rfl, ?_⟩
  intro G1 σ1 hP
  obtain ⟨eG, eS⟩ := hP
  replace eS := eS.symm
  subst eS
  have xx : EXL ((w6.1 + 1 : Nat) : Int) (nL w6 12 2) (fKR 1200 ((w6.1 + 1 : Nat) : Int) (nL w6 12 2)) := x_KR
  have hc := cs_cf (j := 6) S6 xx (S6.2.2.2.up (Nat.le_trans (Nat.le_succ _) xx.1))
  refine ⟨by rw [eG]; exact hc.2.2.1, ?_⟩
  rw [eG, hm_p]
  show Ev _ _ _ _ _ _ _ _ _ (toG (cf (fKR 1200) w6 o 6 12 2)) _ _ _
  have S7 := hc
  have X7 := ex_cf (o := o) (j := 6) X6 xx
  have c7 : (cf (fKR 1200) w6 o 6 12 2).1 = w.1 + 22 := by show _ = _; exact (show (cf (fKR 1200) w6 o 6 12 2).1 = w6.1 + 3 from rfl).trans (by omega)
  generalize e7 : cf (fKR 1200) w6 o 6 12 2 = w7 at S7 X7 c7 ⊢
  clear S6 X6 c6
  refine jwp_sound t_Image_init _ (b_Image_init_69 ?_)
  subst e1
  subst e2
  subst e3
  subst e4
  subst e5
  subst e6
  subst e7
  exact ⟨rfl, rfl⟩
def fWords (o : Int) (w : jL) : jL := cf (fKey) (nf (nf (nf (nf (nf (nf (nf (nf (nf (nf (cf (fKR 300) (w) o 1 12 2) o 2 1 300) o 3 1 300) o 4 1 300) o 5 1 300) o 6 1 600) o 7 1 300) o 8 1 600) o 10 1 40) o 11 1 40) o 12 2 600) o 13 11 3
theorem x_Words {o : Int} {w : jL} : EXL o w (fWords o w) := ex_cf (ex_nf (ex_nf (ex_nf (ex_nf (ex_nf (ex_nf (ex_nf (ex_nf (ex_nf (ex_nf (ex_cf (ex_rf) x_KR))))))))))) x_Key
theorem n_Words {o : Int} {w : jL} : (fWords o w).1 = w.1 + 14 := rfl
set_option maxHeartbeats 8000000 in
theorem i_Words {l : Launch} {d : Nat} {o : Int} {w : jL} {σ : jH} (hd : 11 ≤ d) (S0 : CS 18 o w σ) (hz : ∀ j, σ o j = 0) : CallG l d 14 3985 m_Words_init [vR o] (toG w) σ (fun _ G' σ' => G' = toG (fWords o w) ∧ σ' = σ) := by
  have X0 : EXL o w w := ex_rf
  have c0 : w.1 = w.1 + 0 := rfl
  refine CG_of o_Words_init rfl (jwp_sound t_Words_init _ (b_Words_init_0 ?_))
  refine ⟨by omega, S0.1, S0.2.2.1, ?_⟩
  rw [ju_z (hz 0)]
  refine jwp_sound t_Words_init _ (b_Words_init_9 ?_)
  rw [jnewH_z S0.2.2.2, hm_n]
  refine ⟨Nat.le_of_ble_eq_true rfl, Nat.le_of_ble_eq_true rfl, by omega, 10, _, by omega, i_KeyRow (n := 300) (by omega) (cs_new S0.2.2.2) (by omega) (by omega) (by decide), Nat.le_of_ble_eq_true rfl, Nat.le_of_ble_eq_true rfl, ?_⟩
  intro G1 σ1 hP
  obtain ⟨eG, eS⟩ := hP
  replace eS := eS.symm
  subst eS
  have xx : EXL ((w.1 + 1 : Nat) : Int) (nL w 12 2) (fKR 300 ((w.1 + 1 : Nat) : Int) (nL w 12 2)) := x_KR
  have hc := cs_cf (j := 1) S0 xx (S0.2.2.2.up (Nat.le_trans (Nat.le_succ _) xx.1))
  refine ⟨by rw [eG]; exact hc.2.2.1, ?_⟩
  rw [eG, hm_p]
  show Ev _ _ _ _ _ _ _ _ _ (toG (cf (fKR 300) w o 1 12 2)) _ _ _
  have S1 := hc
  have X1 := ex_cf (o := o) (j := 1) X0 xx
  have c1 : (cf (fKR 300) w o 1 12 2).1 = w.1 + 3 := by show _ = _; exact (show (cf (fKR 300) w o 1 12 2).1 = w.1 + 3 from rfl).trans (by omega)
  generalize e1 : cf (fKR 300) w o 1 12 2 = w1 at S1 X1 c1 ⊢
  refine jwp_sound t_Words_init _ (b_Words_init_23 ?_)
  refine ⟨by omega, by omega, Nat.le_of_ble_eq_true rfl, Nat.le_of_ble_eq_true rfl, S1.nk, ?_⟩
  rw [jnewH_z S1.2.2.2, hm_nf]
  have S2 := cs_nf (o := o) (j := 2) (k := 1) (n := 300) S1
  have X2 := ex_nf (j := 2) (k := 1) (n := 300) X1
  have c2 : (nf w1 o 2 1 300).1 = w.1 + 4 := by show _ = _; exact (show (nf w1 o 2 1 300).1 = w1.1 + 1 from rfl).trans (by omega)
  generalize e2 : nf w1 o 2 1 300 = w2 at S2 X2 c2 ⊢
  clear S1 X1 c1
  refine jwp_sound t_Words_init _ (b_Words_init_32 ?_)
  refine ⟨by omega, by omega, Nat.le_of_ble_eq_true rfl, Nat.le_of_ble_eq_true rfl, S2.nk, ?_⟩
  rw [jnewH_z S2.2.2.2, hm_nf]
  have S3 := cs_nf (o := o) (j := 3) (k := 1) (n := 300) S2
  have X3 := ex_nf (j := 3) (k := 1) (n := 300) X2
  have c3 : (nf w2 o 3 1 300).1 = w.1 + 5 := by show _ = _; exact (show (nf w2 o 3 1 300).1 = w2.1 + 1 from rfl).trans (by omega)
  generalize e3 : nf w2 o 3 1 300 = w3 at S3 X3 c3 ⊢
  clear S2 X2 c2
  refine jwp_sound t_Words_init _ (b_Words_init_41 ?_)
  refine ⟨by omega, by omega, Nat.le_of_ble_eq_true rfl, Nat.le_of_ble_eq_true rfl, S3.nk, ?_⟩
  rw [jnewH_z S3.2.2.2, hm_nf]
  have S4 := cs_nf (o := o) (j := 4) (k := 1) (n := 300) S3
  have X4 := ex_nf (j := 4) (k := 1) (n := 300) X3
  have c4 : (nf w3 o 4 1 300).1 = w.1 + 6 := by show _ = _; exact (show (nf w3 o 4 1 300).1 = w3.1 + 1 from rfl).trans (by omega)
  generalize e4 : nf w3 o 4 1 300 = w4 at S4 X4 c4 ⊢
  clear S3 X3 c3
  refine jwp_sound t_Words_init _ (b_Words_init_50 ?_)
  refine ⟨by omega, by omega, Nat.le_of_ble_eq_true rfl, Nat.le_of_ble_eq_true rfl, S4.nk, ?_⟩
  rw [jnewH_z S4.2.2.2, hm_nf]
  have S5 := cs_nf (o := o) (j := 5) (k := 1) (n := 300) S4
  have X5 := ex_nf (j := 5) (k := 1) (n := 300) X4
  have c5 : (nf w4 o 5 1 300).1 = w.1 + 7 := by show _ = _; exact (show (nf w4 o 5 1 300).1 = w4.1 + 1 from rfl).trans (by omega)
  generalize e5 : nf w4 o 5 1 300 = w5 at S5 X5 c5 ⊢
  clear S4 X4 c4
  refine jwp_sound t_Words_init _ (b_Words_init_59 ?_)
  refine ⟨by omega, by omega, Nat.le_of_ble_eq_true rfl, Nat.le_of_ble_eq_true rfl, S5.nk, ?_⟩
  rw [jnewH_z S5.2.2.2, hm_nf]
  have S6 := cs_nf (o := o) (j := 6) (k := 1) (n := 600) S5
  have X6 := ex_nf (j := 6) (k := 1) (n := 600) X5
  have c6 : (nf w5 o 6 1 600).1 = w.1 + 8 := by show _ = _; exact (show (nf w5 o 6 1 600).1 = w5.1 + 1 from rfl).trans (by omega)
  generalize e6 : nf w5 o 6 1 600 = w6 at S6 X6 c6 ⊢
  clear S5 X5 c5
  refine jwp_sound t_Words_init _ (b_Words_init_68 ?_)
  refine ⟨by omega, by omega, Nat.le_of_ble_eq_true rfl, Nat.le_of_ble_eq_true rfl, S6.nk, ?_⟩
  rw [jnewH_z S6.2.2.2, hm_nf]
  have S7 := cs_nf (o := o) (j := 7) (k := 1) (n := 300) S6
  have X7 := ex_nf (j := 7) (k := 1) (n := 300) X6
  have c7 : (nf w6 o 7 1 300).1 = w.1 + 9 := by show _ = _; exact (show (nf w6 o 7 1 300).1 = w6.1 + 1 from rfl).trans (by omega)
  generalize e7 : nf w6 o 7 1 300 = w7 at S7 X7 c7 ⊢
  clear S6 X6 c6
  refine jwp_sound t_Words_init _ (b_Words_init_77 ?_)
  refine ⟨by omega, by omega, Nat.le_of_ble_eq_true rfl, Nat.le_of_ble_eq_true rfl, S7.nk, ?_⟩
  rw [jnewH_z S7.2.2.2, hm_nf]
  have S8 := cs_nf (o := o) (j := 8) (k := 1) (n := 600) S7
  have X8 := ex_nf (j := 8) (k := 1) (n := 600) X7
  have c8 : (nf w7 o 8 1 600).1 = w.1 + 10 := by show _ = _; exact (show (nf w7 o 8 1 600).1 = w7.1 + 1 from rfl).trans (by omega)
  generalize e8 : nf w7 o 8 1 600 = w8 at S8 X8 c8 ⊢
  clear S7 X7 c7
  refine jwp_sound t_Words_init _ (b_Words_init_86 ?_)
  refine ⟨S8.2.2.1, ?_⟩
  rw [ju_z (hz 9)]
  refine jwp_sound t_Words_init _ (b_Words_init_91 ?_)
  refine ⟨by omega, by omega, Nat.le_of_ble_eq_true rfl, Nat.le_of_ble_eq_true rfl, S8.nk, ?_⟩
  rw [jnewH_z S8.2.2.2, hm_nf]
  have S9 := cs_nf (o := o) (j := 10) (k := 1) (n := 40) S8
  have X9 := ex_nf (j := 10) (k := 1) (n := 40) X8
  have c9 : (nf w8 o 10 1 40).1 = w.1 + 11 := by show _ = _; exact (show (nf w8 o 10 1 40).1 = w8.1 + 1 from rfl).trans (by omega)
  generalize e9 : nf w8 o 10 1 40 = w9 at S9 X9 c9 ⊢
  clear S8 X8 c8
  refine jwp_sound t_Words_init _ (b_Words_init_99 ?_)
  refine ⟨by omega, by omega, Nat.le_of_ble_eq_true rfl, Nat.le_of_ble_eq_true rfl, S9.nk, ?_⟩
  rw [jnewH_z S9.2.2.2, hm_nf]
  have S10 := cs_nf (o := o) (j := 11) (k := 1) (n := 40) S9
  have X10 := ex_nf (j := 11) (k := 1) (n := 40) X9
  have c10 : (nf w9 o 11 1 40).1 = w.1 + 12 := by show _ = _; exact (show (nf w9 o 11 1 40).1 = w9.1 + 1 from rfl).trans (by omega)
  generalize e10 : nf w9 o 11 1 40 = w10 at S10 X10 c10 ⊢
  clear S9 X9 c9
  refine jwp_sound t_Words_init _ (b_Words_init_107 ?_)
  refine ⟨by omega, by omega, Nat.le_of_ble_eq_true rfl, Nat.le_of_ble_eq_true rfl, S10.nk, ?_⟩
  rw [jnewH_z S10.2.2.2, hm_nf]
  have S11 := cs_nf (o := o) (j := 12) (k := 2) (n := 600) S10
  have X11 := ex_nf (j := 12) (k := 2) (n := 600) X10
  have c11 : (nf w10 o 12 2 600).1 = w.1 + 13 := by show _ = _; exact (show (nf w10 o 12 2 600).1 = w10.1 + 1 from rfl).trans (by omega)
  generalize e11 : nf w10 o 12 2 600 = w11 at S11 X11 c11 ⊢
  clear S10 X10 c10
  refine jwp_sound t_Words_init _ (b_Words_init_116 ?_)
  rw [jnewH_z S11.2.2.2, hm_n]
  refine ⟨Nat.le_of_ble_eq_true rfl, Nat.le_of_ble_eq_true rfl, by omega, 10, _, by omega, i_Key (by omega) (cs_new S11.2.2.2) (CS.z1 S11), Nat.le_of_ble_eq_true rfl, Nat.le_of_ble_eq_true rfl, ?_⟩
  intro G1 σ1 hP
  obtain ⟨eG, eS⟩ := hP
  replace eS := eS.symm
  subst eS
  have xx : EXL ((w11.1 + 1 : Nat) : Int) (nL w11 11 3) (fKey ((w11.1 + 1 : Nat) : Int) (nL w11 11 3)) := x_Key
  have hc := cs_cf (j := 13) S11 xx (S11.2.2.2.up (Nat.le_trans (Nat.le_succ _) xx.1))
  refine ⟨by rw [eG]; exact hc.2.2.1, ?_⟩
  rw [eG, hm_p]
  show Ev _ _ _ _ _ _ _ _ _ (toG (cf (fKey) w11 o 13 11 3)) _ _ _
  have S12 := hc
  have X12 := ex_cf (o := o) (j := 13) X11 xx
  have c12 : (cf (fKey) w11 o 13 11 3).1 = w.1 + 14 := by show _ = _; exact (show (cf (fKey) w11 o 13 11 3).1 = w11.1 + 1 from rfl).trans (by omega)
  generalize e12 : cf (fKey) w11 o 13 11 3 = w12 at S12 X12 c12 ⊢
  clear S11 X11 c11
  refine jwp_sound t_Words_init _ (b_Words_init_127 ?_)
  subst e1
  subst e2
  subst e3
  subst e4
  subst e5
  subst e6
  subst e7
  subst e8
  subst e9
  subst e10
  subst e11
  subst e12
  exact ⟨rfl, rfl⟩
def fBook (o : Int) (w : jL) : jL := cf (fWords) (cf (fWords) (cf (fKR 600) (nf (cf (fKR 600) (w) o 2 12 2) o 3 1 600) o 4 12 2) o 5 18 14) o 6 18 14
theorem x_Book {o : Int} {w : jL} : EXL o w (fBook o w) := ex_cf (ex_cf (ex_cf (ex_nf (ex_cf (ex_rf) x_KR)) x_KR) x_Words) x_Words
theorem n_Book {o : Int} {w : jL} : (fBook o w).1 = w.1 + 37 := rfl
set_option maxHeartbeats 8000000 in
theorem i_Book {l : Launch} {d : Nat} {o : Int} {w : jL} {σ : jH} (hd : 12 ≤ d) (S0 : CS 9 o w σ) (hz : ∀ j, σ o j = 0) : CallG l d 37 11002 m_Book_init [vR o] (toG w) σ (fun _ G' σ' => G' = toG (fBook o w) ∧ σ' = σ) := by
  have X0 : EXL o w w := ex_rf
  have c0 : w.1 = w.1 + 0 := rfl
  refine CG_of o_Book_init rfl (jwp_sound t_Book_init _ (b_Book_init_0 ?_))
  refine ⟨by omega, S0.1, S0.2.2.1, Or.inl rfl, ?_⟩
  rw [ju_z (hz 0)]
  refine jwp_sound t_Book_init _ (b_Book_init_9 ?_)
  refine ⟨S0.2.2.1, ?_⟩
  rw [ju_z (hz 1)]
  refine jwp_sound t_Book_init _ (b_Book_init_14 ?_)
  rw [jnewH_z S0.2.2.2, hm_n]
  refine ⟨Nat.le_of_ble_eq_true rfl, Nat.le_of_ble_eq_true rfl, by omega, 10, _, by omega, i_KeyRow (n := 600) (by omega) (cs_new S0.2.2.2) (by omega) (by omega) (by decide), Nat.le_of_ble_eq_true rfl, Nat.le_of_ble_eq_true rfl, ?_⟩
  intro G1 σ1 hP
  obtain ⟨eG, eS⟩ := hP
  replace eS := eS.symm
  subst eS
  have xx : EXL ((w.1 + 1 : Nat) : Int) (nL w 12 2) (fKR 600 ((w.1 + 1 : Nat) : Int) (nL w 12 2)) := x_KR
  have hc := cs_cf (j := 2) S0 xx (S0.2.2.2.up (Nat.le_trans (Nat.le_succ _) xx.1))
  refine ⟨by rw [eG]; exact hc.2.2.1, ?_⟩
  rw [eG, hm_p]
  show Ev _ _ _ _ _ _ _ _ _ (toG (cf (fKR 600) w o 2 12 2)) _ _ _
  have S1 := hc
  have X1 := ex_cf (o := o) (j := 2) X0 xx
  have c1 : (cf (fKR 600) w o 2 12 2).1 = w.1 + 3 := by show _ = _; exact (show (cf (fKR 600) w o 2 12 2).1 = w.1 + 3 from rfl).trans (by omega)
  generalize e1 : cf (fKR 600) w o 2 12 2 = w1 at S1 X1 c1 ⊢
  refine jwp_sound t_Book_init _ (b_Book_init_28 ?_)
  refine ⟨by omega, by omega, Nat.le_of_ble_eq_true rfl, Nat.le_of_ble_eq_true rfl, S1.nk, ?_⟩
  rw [jnewH_z S1.2.2.2, hm_nf]
  have S2 := cs_nf (o := o) (j := 3) (k := 1) (n := 600) S1
  have X2 := ex_nf (j := 3) (k := 1) (n := 600) X1
  have c2 : (nf w1 o 3 1 600).1 = w.1 + 4 := by show _ = _; exact (show (nf w1 o 3 1 600).1 = w1.1 + 1 from rfl).trans (by omega)
  generalize e2 : nf w1 o 3 1 600 = w2 at S2 X2 c2 ⊢
  clear S1 X1 c1
  refine jwp_sound t_Book_init _ (b_Book_init_37 ?_)
  rw [jnewH_z S2.2.2.2, hm_n]
  refine ⟨Nat.le_of_ble_eq_true rfl, Nat.le_of_ble_eq_true rfl, by omega, 10, _, by omega, i_KeyRow (n := 600) (by omega) (cs_new S2.2.2.2) (by omega) (by omega) (by decide), Nat.le_of_ble_eq_true rfl, Nat.le_of_ble_eq_true rfl, ?_⟩
  intro G1 σ1 hP
  obtain ⟨eG, eS⟩ := hP
  replace eS := eS.symm
  subst eS
  have xx : EXL ((w2.1 + 1 : Nat) : Int) (nL w2 12 2) (fKR 600 ((w2.1 + 1 : Nat) : Int) (nL w2 12 2)) := x_KR
  have hc := cs_cf (j := 4) S2 xx (S2.2.2.2.up (Nat.le_trans (Nat.le_succ _) xx.1))
  refine ⟨by rw [eG]; exact hc.2.2.1, ?_⟩
  rw [eG, hm_p]
  show Ev _ _ _ _ _ _ _ _ _ (toG (cf (fKR 600) w2 o 4 12 2)) _ _ _
  have S3 := hc
  have X3 := ex_cf (o := o) (j := 4) X2 xx
  have c3 : (cf (fKR 600) w2 o 4 12 2).1 = w.1 + 7 := by show _ = _; exact (show (cf (fKR 600) w2 o 4 12 2).1 = w2.1 + 3 from rfl).trans (by omega)
  generalize e3 : cf (fKR 600) w2 o 4 12 2 = w3 at S3 X3 c3 ⊢
  clear S2 X2 c2
  refine jwp_sound t_Book_init _ (b_Book_init_51 ?_)
  rw [jnewH_z S3.2.2.2, hm_n]
  refine ⟨Nat.le_of_ble_eq_true rfl, Nat.le_of_ble_eq_true rfl, by omega, 11, _, by omega, i_Words (by omega) (cs_new S3.2.2.2) (CS.z1 S3), Nat.le_of_ble_eq_true rfl, Nat.le_of_ble_eq_true rfl, ?_⟩
  intro G1 σ1 hP
  obtain ⟨eG, eS⟩ := hP
  replace eS := eS.symm
  subst eS
  have xx : EXL ((w3.1 + 1 : Nat) : Int) (nL w3 18 14) (fWords ((w3.1 + 1 : Nat) : Int) (nL w3 18 14)) := x_Words
  have hc := cs_cf (j := 5) S3 xx (S3.2.2.2.up (Nat.le_trans (Nat.le_succ _) xx.1))
  refine ⟨by rw [eG]; exact hc.2.2.1, ?_⟩
  rw [eG, hm_p]
  show Ev _ _ _ _ _ _ _ _ _ (toG (cf (fWords) w3 o 5 18 14)) _ _ _
  have S4 := hc
  have X4 := ex_cf (o := o) (j := 5) X3 xx
  have c4 : (cf (fWords) w3 o 5 18 14).1 = w.1 + 22 := by show _ = _; exact (show (cf (fWords) w3 o 5 18 14).1 = w3.1 + 15 from rfl).trans (by omega)
  generalize e4 : cf (fWords) w3 o 5 18 14 = w4 at S4 X4 c4 ⊢
  clear S3 X3 c3
  refine jwp_sound t_Book_init _ (b_Book_init_62 ?_)
  rw [jnewH_z S4.2.2.2, hm_n]
  refine ⟨Nat.le_of_ble_eq_true rfl, Nat.le_of_ble_eq_true rfl, by omega, 11, _, by omega, i_Words (by omega) (cs_new S4.2.2.2) (CS.z1 S4), Nat.le_of_ble_eq_true rfl, Nat.le_of_ble_eq_true rfl, ?_⟩
  intro G1 σ1 hP
  obtain ⟨eG, eS⟩ := hP
  replace eS := eS.symm
  subst eS
  have xx : EXL ((w4.1 + 1 : Nat) : Int) (nL w4 18 14) (fWords ((w4.1 + 1 : Nat) : Int) (nL w4 18 14)) := x_Words
  have hc := cs_cf (j := 6) S4 xx (S4.2.2.2.up (Nat.le_trans (Nat.le_succ _) xx.1))
  refine ⟨by rw [eG]; exact hc.2.2.1, ?_⟩
  rw [eG, hm_p]
  show Ev _ _ _ _ _ _ _ _ _ (toG (cf (fWords) w4 o 6 18 14)) _ _ _
  have S5 := hc
  have X5 := ex_cf (o := o) (j := 6) X4 xx
  have c5 : (cf (fWords) w4 o 6 18 14).1 = w.1 + 37 := by show _ = _; exact (show (cf (fWords) w4 o 6 18 14).1 = w4.1 + 15 from rfl).trans (by omega)
  generalize e5 : cf (fWords) w4 o 6 18 14 = w5 at S5 X5 c5 ⊢
  clear S4 X4 c4
  refine jwp_sound t_Book_init _ (b_Book_init_73 ?_)
  subst e1
  subst e2
  subst e3
  subst e4
  subst e5
  exact ⟨rfl, rfl⟩
