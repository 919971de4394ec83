/-! Constructors of the class's own objects: likeness, tokens, readers, slots -/
section CW
variable {w w' : jL} {k k2 : Nat} {n m o j : Int} {σ : jH} {l : Launch} {d : Nat} {G : jG}
def gq (w : jL) (o j : Int) (k k2 : Nat) (n m : Int) : jL := pL (gdL w k k2 n m) o j ((w.1 + 1 : Nat) : Int)
theorem ex_gq (hn : 0 ≤ n) (h : EXL o w w') : EXL o w (gq w' o j k k2 n m) := ex_gd hn h
theorem g_wordsOf {x : Int} (hk : (G.2.1 x).1 = 9) : CallN l d m_Book_wordsOf [vR x, vI 0] G σ (fun r τ => r = G.2.2 x 5 ∧ τ = σ) := by
  refine CN_of o_Book_wordsOf rfl (jwp_sound t_Book_wordsOf _ (b_Book_wordsOf_0 ?_))
  exact ⟨fun q => absurd rfl q, fun _ => ⟨hk, rfl, rfl, rfl⟩⟩
end CW

def fLikeness (o : Int) (w : jL) : jL := nL (nL (nf (nf (w) o 2 1 300) o 3 4 1500) 1 301) 1 301
theorem x_Likeness {o : Int} {w : jL} : EXL o w (fLikeness o w) := ex_n (ex_n (ex_nf (ex_nf (ex_rf))))
theorem n_Likeness {o : Int} {w : jL} : (fLikeness o w).1 = w.1 + 4 := rfl
set_option maxHeartbeats 8000000 in
theorem i_Likeness {l : Launch} {d : Nat} {o : Int} {w : jL} {σ : jH} (hd : 10 ≤ d) (S0 : CS 13 o w σ) (hz : ∀ j, σ o j = 0) : CallG l d 4 2402 m_Likeness_init [vR o] (toG w) σ (fun _ G' σ' => G' = toG (fLikeness o w) ∧ σ' = ju (ju σ o 4 ((w.1 + 3 : Nat) : Int)) o 5 ((w.1 + 4 : Nat) : Int)) := by
  have X0 : EXL o w w := ex_rf
  have c0 : w.1 = w.1 + 0 := rfl
  refine CG_of o_Likeness_init rfl (jwp_sound t_Likeness_init _ (b_Likeness_init_0 ?_))
  refine ⟨by omega, S0.1, S0.2.2.1, Or.inl rfl, ?_⟩
  rw [ju_z (hz 0)]
  refine jwp_sound t_Likeness_init _ (b_Likeness_init_9 ?_)
  refine ⟨S0.2.2.1, ?_⟩
  rw [ju_z (hz 1)]
  refine jwp_sound t_Likeness_init _ (b_Likeness_init_14 ?_)
  refine ⟨by omega, by omega, Nat.le_of_ble_eq_true rfl, Nat.le_of_ble_eq_true rfl, S0.nk, ?_⟩
  rw [jnewH_z S0.2.2.2, hm_nf]
  have S1 := cs_nf (o := o) (j := 2) (k := 1) (n := 300) S0
  have X1 := ex_nf (j := 2) (k := 1) (n := 300) X0
  have c1 : (nf w o 2 1 300).1 = w.1 + 1 := by show _ = _; exact (show (nf w o 2 1 300).1 = w.1 + 1 from rfl).trans (by omega)
  generalize e1 : nf w o 2 1 300 = w1 at S1 X1 c1 ⊢
  refine jwp_sound t_Likeness_init _ (b_Likeness_init_23 ?_)
  refine ⟨by omega, by omega, Nat.le_of_ble_eq_true rfl, Nat.le_of_ble_eq_true rfl, S1.nk, ?_⟩
  rw [jnewH_z S1.2.2.2, hm_nf]
  have S2 := cs_nf (o := o) (j := 3) (k := 4) (n := 1500) S1
  have X2 := ex_nf (j := 3) (k := 4) (n := 1500) X1
  have c2 : (nf w1 o 3 4 1500).1 = w.1 + 2 := by show _ = _; exact (show (nf w1 o 3 4 1500).1 = w1.1 + 1 from rfl).trans (by omega)
  generalize e2 : nf w1 o 3 4 1500 = w2 at S2 X2 c2 ⊢
  clear S1 X1 c1
  refine jwp_sound t_Likeness_init _ (b_Likeness_init_32 ?_)
  refine ⟨by omega, by omega, Nat.le_of_ble_eq_true rfl, Nat.le_of_ble_eq_true rfl, S2.nk, ?_⟩
  rw [jnewH_z S2.2.2.2, hm_n]
  have hj : Zb w2.1 (ju σ o 4 ((w2.1 + 1 : Nat) : Int)) := fun c j hc => by rw [ju_ne (by have := S2.2.1; omega)]; exact S2.2.2.2 c j hc
  have ea : ((w2.1 + 1 : Nat) : Int) = ((w.1 + 3 : Nat) : Int) := by omega
  rw [ea] at hj
  show Ev _ _ _ _ _ _ _ _ _ (toG (nL w2 1 301)) (ju σ o 4 ((w2.1 + 1 : Nat) : Int)) _ _
  rw [ea]
  have S3 := cs_nL (o := o) (k := 1) (n := 301) (⟨S2.1, S2.2.1, S2.2.2.1, hj⟩ : CS 13 o w2 _)
  have X3 := ex_n (k := 1) (n := 301) X2
  have c3 : (nL w2 1 301).1 = w.1 + 3 := by show _ = _; exact (show (nL w2 1 301).1 = w2.1 + 1 from rfl).trans (by omega)
  generalize e3 : nL w2 1 301 = w3 at S3 X3 c3 ⊢
  clear S2 X2 c2
  refine jwp_sound t_Likeness_init _ (b_Likeness_init_41 ?_)
  refine ⟨by omega, by omega, Nat.le_of_ble_eq_true rfl, Nat.le_of_ble_eq_true rfl, S3.nk, ?_⟩
  rw [jnewH_z S3.2.2.2, hm_n]
  have hj : Zb w3.1 (ju (ju σ o 4 ((w.1 + 3 : Nat) : Int)) o 5 ((w3.1 + 1 : Nat) : Int)) := fun c j hc => by rw [ju_ne (by have := S3.2.1; omega)]; exact S3.2.2.2 c j hc
  have ea : ((w3.1 + 1 : Nat) : Int) = ((w.1 + 4 : Nat) : Int) := by omega
  rw [ea] at hj
  show Ev _ _ _ _ _ _ _ _ _ (toG (nL w3 1 301)) (ju (ju σ o 4 ((w.1 + 3 : Nat) : Int)) o 5 ((w3.1 + 1 : Nat) : Int)) _ _
  rw [ea]
  have S4 := cs_nL (o := o) (k := 1) (n := 301) (⟨S3.1, S3.2.1, S3.2.2.1, hj⟩ : CS 13 o w3 _)
  have X4 := ex_n (k := 1) (n := 301) X3
  have c4 : (nL w3 1 301).1 = w.1 + 4 := by show _ = _; exact (show (nL w3 1 301).1 = w3.1 + 1 from rfl).trans (by omega)
  generalize e4 : nL w3 1 301 = w4 at S4 X4 c4 ⊢
  clear S3 X3 c3
  refine jwp_sound t_Likeness_init _ (b_Likeness_init_50 ?_)
  subst e1
  subst e2
  subst e3
  subst e4
  exact ⟨rfl, rfl⟩
def fTokens (x1 o : Int) (w : jL) : jL := pL (w) o 0 x1
theorem x_Tokens {x1 o : Int} {w : jL} : EXL o w (fTokens x1 o w) := ex_pL (ex_rf)
theorem n_Tokens {x1 o : Int} {w : jL} : (fTokens x1 o w).1 = w.1 + 0 := rfl
set_option maxHeartbeats 8000000 in
theorem i_Tokens {l : Launch} {d : Nat} {o x1 : Int} {w : jL} {σ : jH} (hd : 10 ≤ d) (S0 : CS 17 o w σ) (hz : ∀ j, σ o j = 0) : CallG l d 0 0 m_Tokens_init [vR o, vR x1] (toG w) σ (fun _ G' σ' => G' = toG (fTokens x1 o w) ∧ σ' = ju σ o 7 (-1)) := by
  have X0 : EXL o w w := ex_rf
  have c0 : w.1 = w.1 + 0 := rfl
  refine CG_of o_Tokens_init rfl (jwp_sound t_Tokens_init _ (b_Tokens_init_0 ?_))
  refine ⟨by omega, S0.1, S0.2.2.1, ?_⟩
  rw [ju_z (hz 1)]
  refine jwp_sound t_Tokens_init _ (b_Tokens_init_9 ?_)
  refine ⟨S0.2.2.1, ?_⟩
  rw [ju_z (hz 2)]
  refine jwp_sound t_Tokens_init _ (b_Tokens_init_14 ?_)
  refine ⟨S0.2.2.1, ?_⟩
  rw [ju_z (hz 3)]
  refine jwp_sound t_Tokens_init _ (b_Tokens_init_19 ?_)
  refine ⟨S0.2.2.1, ?_⟩
  rw [ju_z (hz 4)]
  refine jwp_sound t_Tokens_init _ (b_Tokens_init_24 ?_)
  refine ⟨S0.2.2.1, ?_⟩
  rw [ju_z (hz 5)]
  refine jwp_sound t_Tokens_init _ (b_Tokens_init_29 ?_)
  refine ⟨S0.2.2.1, ?_⟩
  rw [ju_z (hz 6)]
  refine jwp_sound t_Tokens_init _ (b_Tokens_init_34 ?_)
  refine ⟨S0.2.2.1, ?_⟩
  have S0 : CS 17 o w (ju σ o 7 (-1)) := ⟨S0.1, S0.2.1, S0.2.2.1, fun c j hc => by rw [ju_ne (by have := S0.2.1; omega)]; exact S0.2.2.2 c j hc⟩
  refine jwp_sound t_Tokens_init _ (b_Tokens_init_39 ?_)
  refine ⟨S0.2.2.1, ?_⟩
  rw [hm_p]
  have S1 := cs_pL (a := o) (j := 0) (v := x1) S0
  have X1 := ex_pL (j := 0) (v := x1) X0
  have c1 : (pL w o 0 x1).1 = w.1 + 0 := by show _ = _; exact (show (pL w o 0 x1).1 = w.1 + 0 from rfl).trans (by omega)
  generalize e1 : pL w o 0 x1 = w1 at S1 X1 c1 ⊢
  refine jwp_sound t_Tokens_init _ (b_Tokens_init_44 ?_)
  subst e1
  exact ⟨rfl, rfl⟩
def fRuleReader (x1 o : Int) (w : jL) : jL := pL (cf (fKey) (cf (fRules) (w) o 0 15 12) o 2 11 3) o 1 x1
theorem x_RuleReader {x1 o : Int} {w : jL} : EXL o w (fRuleReader x1 o w) := ex_pL (ex_cf (ex_cf (ex_rf) x_Rules) x_Key)
theorem n_RuleReader {x1 o : Int} {w : jL} : (fRuleReader x1 o w).1 = w.1 + 15 := rfl
set_option maxHeartbeats 8000000 in
theorem i_RuleReader {l : Launch} {d : Nat} {o x1 : Int} {w : jL} {σ : jH} (hd : 13 ≤ d) (S0 : CS 14 o w σ) (hz : ∀ j, σ o j = 0) : CallG l d 15 359 m_RuleReader_init [vR o, vR x1] (toG w) σ (fun _ G' σ' => G' = toG (fRuleReader x1 o w) ∧ σ' = hRu (w.1 + 1) σ) := by
  have X0 : EXL o w w := ex_rf
  have c0 : w.1 = w.1 + 0 := rfl
  refine CG_of o_RuleReader_init rfl (jwp_sound t_RuleReader_init _ (b_RuleReader_init_0 ?_))
  rw [jnewH_z S0.2.2.2, hm_n]
  refine ⟨by omega, S0.1, Nat.le_of_ble_eq_true rfl, Nat.le_of_ble_eq_true rfl, by omega, 12, _, by omega, i_Rules (by omega) (cs_new S0.2.2.2) (CS.z1 S0), Nat.le_of_ble_eq_true rfl, Nat.le_of_ble_eq_true rfl, ?_⟩
  intro G1 σ1 hP
  obtain ⟨eG, eS⟩ := hP
  replace eS := eS.symm
  subst eS
  have xx : EXL ((w.1 + 1 : Nat) : Int) (nL w 15 12) (fRules ((w.1 + 1 : Nat) : Int) (nL w 15 12)) := x_Rules
  have hc := cs_cf (j := 0) S0 xx (by rw [n_Rules]; exact zb_Ru (S0.2.2.2.up (Nat.le_succ _)))
  refine ⟨by rw [eG]; exact hc.2.2.1, ?_⟩
  rw [eG, hm_p]
  show Ev _ _ _ _ _ _ _ _ _ (toG (cf (fRules) w o 0 15 12)) _ _ _
  have S1 := hc
  have X1 := ex_cf (o := o) (j := 0) X0 xx
  have c1 : (cf (fRules) w o 0 15 12).1 = w.1 + 14 := by show _ = _; exact (show (cf (fRules) w o 0 15 12).1 = w.1 + 14 from rfl).trans (by omega)
  generalize e1 : cf (fRules) w o 0 15 12 = w1 at S1 X1 c1 ⊢
  refine jwp_sound t_RuleReader_init _ (b_RuleReader_init_15 ?_)
  rw [jnewH_z S1.2.2.2, hm_n]
  refine ⟨Nat.le_of_ble_eq_true rfl, Nat.le_of_ble_eq_true rfl, by omega, 10, _, by omega, i_Key (by omega) (cs_new S1.2.2.2) (CS.z1 S1), Nat.le_of_ble_eq_true rfl, Nat.le_of_ble_eq_true rfl, ?_⟩
  intro G1 σ1 hP
  obtain ⟨eG, eS⟩ := hP
  replace eS := eS.symm
  subst eS
  have xx : EXL ((w1.1 + 1 : Nat) : Int) (nL w1 11 3) (fKey ((w1.1 + 1 : Nat) : Int) (nL w1 11 3)) := x_Key
  have hc := cs_cf (j := 2) S1 xx (S1.2.2.2.up (Nat.le_trans (Nat.le_succ _) xx.1))
  refine ⟨by rw [eG]; exact hc.2.2.1, ?_⟩
  rw [eG, hm_p]
  show Ev _ _ _ _ _ _ _ _ _ (toG (cf (fKey) w1 o 2 11 3)) _ _ _
  have S2 := hc
  have X2 := ex_cf (o := o) (j := 2) X1 xx
  have c2 : (cf (fKey) w1 o 2 11 3).1 = w.1 + 15 := by show _ = _; exact (show (cf (fKey) w1 o 2 11 3).1 = w1.1 + 1 from rfl).trans (by omega)
  generalize e2 : cf (fKey) w1 o 2 11 3 = w2 at S2 X2 c2 ⊢
  clear S1 X1 c1
  refine jwp_sound t_RuleReader_init _ (b_RuleReader_init_26 ?_)
  refine ⟨S2.2.2.1, ?_⟩
  rw [hm_p]
  have S3 := cs_pL (a := o) (j := 1) (v := x1) S2
  have X3 := ex_pL (j := 1) (v := x1) X2
  have c3 : (pL w2 o 1 x1).1 = w.1 + 15 := by show _ = _; exact (show (pL w2 o 1 x1).1 = w2.1 + 0 from rfl).trans (by omega)
  generalize e3 : pL w2 o 1 x1 = w3 at S3 X3 c3 ⊢
  clear S2 X2 c2
  refine jwp_sound t_RuleReader_init _ (b_RuleReader_init_31 ?_)
  subst e1
  subst e2
  subst e3
  exact ⟨rfl, rfl⟩
def fAsker (x1 x2 x3 o : Int) (w : jL) : jL := pL (pL (pL (nf (nf (nf (nf (nf (gq (cf (fKey) (w) o 3 11 3) o 6 6 2 14 300) o 7 2 300) o 8 2 40) o 10 1 300) o 11 1 300) o 12 1 300) o 0 x1) o 1 x2) o 2 x3
theorem x_Asker {x1 x2 x3 o : Int} {w : jL} : EXL o w (fAsker x1 x2 x3 o w) := ex_pL (ex_pL (ex_pL (ex_nf (ex_nf (ex_nf (ex_nf (ex_nf (ex_gq (by omega) (ex_cf (ex_rf) x_Key)))))))))
theorem n_Asker {x1 x2 x3 o : Int} {w : jL} : (fAsker x1 x2 x3 o w).1 = w.1 + 21 := rfl
set_option maxHeartbeats 8000000 in
theorem i_Asker {l : Launch} {d : Nat} {o x1 x2 x3 : Int} {w : jL} {σ : jH} (hd : 11 ≤ d) (S0 : CS 8 o w σ) (hz : ∀ j, σ o j = 0) {W5 : Int} (h3 : x3 ≤ w.1) (n3 : x3 ≠ o) (k3 : ((toG w).2.1 x3).1 = 9) (r3 : (toG w).2.2 x3 5 = W5) : CallG l d 21 5457 m_Asker_init [vR o, vR x1, vR x2, vR x3] (toG w) σ (fun _ G' σ' => G' = toG (fAsker x1 x2 x3 o w) ∧ σ' = ju σ o 4 W5) := by
  have X0 : EXL o w w := ex_rf
  have c0 : w.1 = w.1 + 0 := rfl
  refine CG_of o_Asker_init rfl (jwp_sound t_Asker_init _ (b_Asker_init_0 ?_))
  rw [jnewH_z S0.2.2.2, hm_n]
  refine ⟨by omega, S0.1, Nat.le_of_ble_eq_true rfl, Nat.le_of_ble_eq_true rfl, by omega, 10, _, by omega, i_Key (by omega) (cs_new S0.2.2.2) (CS.z1 S0), Nat.le_of_ble_eq_true rfl, Nat.le_of_ble_eq_true rfl, ?_⟩
  intro G1 σ1 hP
  obtain ⟨eG, eS⟩ := hP
  replace eS := eS.symm
  subst eS
  have xx : EXL ((w.1 + 1 : Nat) : Int) (nL w 11 3) (fKey ((w.1 + 1 : Nat) : Int) (nL w 11 3)) := x_Key
  have hc := cs_cf (j := 3) S0 xx (S0.2.2.2.up (Nat.le_trans (Nat.le_succ _) xx.1))
  refine ⟨by rw [eG]; exact hc.2.2.1, ?_⟩
  rw [eG, hm_p]
  show Ev _ _ _ _ _ _ _ _ _ (toG (cf (fKey) w o 3 11 3)) _ _ _
  have S1 := hc
  have X1 := ex_cf (o := o) (j := 3) X0 xx
  have c1 : (cf (fKey) w o 3 11 3).1 = w.1 + 1 := by show _ = _; exact (show (cf (fKey) w o 3 11 3).1 = w.1 + 1 from rfl).trans (by omega)
  generalize e1 : cf (fKey) w o 3 11 3 = w1 at S1 X1 c1 ⊢
  refine jwp_sound t_Asker_init _ (b_Asker_init_15 ?_)
  refine ⟨S1.2.2.1, ?_⟩
  rw [ju_z (hz 5)]
  refine jwp_sound t_Asker_init _ (b_Asker_init_20 ?_)
  refine ⟨by omega, by omega, by omega, by omega, Nat.le_of_ble_eq_true rfl, Nat.le_of_ble_eq_true rfl, ?_⟩
  rw [jgridH_z S1.2.2.2, hm_g (by omega)]
  refine ⟨by rw [gdL_k S1.2.1]; exact S1.2.2.1, ?_⟩
  rw [hm_p]
  show Ev _ _ _ _ _ _ _ _ _ (toG (pL (gdL w1 6 2 14 300) o 6 ((w1.1 + 1 : Nat) : Int))) _ _ _
  have S2 := cs_ex S1 (ex_gd (o := o) (k := 6) (k2 := 2) (n := 14) (m := 300) (j := 6) (v := ((w1.1 + 1 : Nat) : Int)) (by omega) (ex_rf (o := o) (w := w1))) (S1.2.2.2.up (by show w1.1 ≤ w1.1 + 1 + 14; omega))
  have X2 := ex_gd (o := o) (k := 6) (k2 := 2) (n := 14) (m := 300) (j := 6) (v := ((w1.1 + 1 : Nat) : Int)) (by omega) X1
  have c2 : (pL (gdL w1 6 2 14 300) o 6 ((w1.1 + 1 : Nat) : Int)).1 = w.1 + 16 := by show _ = _; exact (show (pL (gdL w1 6 2 14 300) o 6 ((w1.1 + 1 : Nat) : Int)).1 = w1.1 + 15 from rfl).trans (by omega)
  generalize e2 : pL (gdL w1 6 2 14 300) o 6 ((w1.1 + 1 : Nat) : Int) = w2 at S2 X2 c2 ⊢
  clear S1 X1 c1
  refine jwp_sound t_Asker_init _ (b_Asker_init_33 ?_)
  refine ⟨by omega, by omega, Nat.le_of_ble_eq_true rfl, Nat.le_of_ble_eq_true rfl, S2.nk, ?_⟩
  rw [jnewH_z S2.2.2.2, hm_nf]
  have S3 := cs_nf (o := o) (j := 7) (k := 2) (n := 300) S2
  have X3 := ex_nf (j := 7) (k := 2) (n := 300) X2
  have c3 : (nf w2 o 7 2 300).1 = w.1 + 17 := by show _ = _; exact (show (nf w2 o 7 2 300).1 = w2.1 + 1 from rfl).trans (by omega)
  generalize e3 : nf w2 o 7 2 300 = w3 at S3 X3 c3 ⊢
  clear S2 X2 c2
  refine jwp_sound t_Asker_init _ (b_Asker_init_42 ?_)
  refine ⟨by omega, by omega, Nat.le_of_ble_eq_true rfl, Nat.le_of_ble_eq_true rfl, S3.nk, ?_⟩
  rw [jnewH_z S3.2.2.2, hm_nf]
  have S4 := cs_nf (o := o) (j := 8) (k := 2) (n := 40) S3
  have X4 := ex_nf (j := 8) (k := 2) (n := 40) X3
  have c4 : (nf w3 o 8 2 40).1 = w.1 + 18 := by show _ = _; exact (show (nf w3 o 8 2 40).1 = w3.1 + 1 from rfl).trans (by omega)
  generalize e4 : nf w3 o 8 2 40 = w4 at S4 X4 c4 ⊢
  clear S3 X3 c3
  refine jwp_sound t_Asker_init _ (b_Asker_init_50 ?_)
  refine ⟨S4.2.2.1, ?_⟩
  rw [ju_z (hz 9)]
  refine jwp_sound t_Asker_init _ (b_Asker_init_55 ?_)
  refine ⟨by omega, by omega, Nat.le_of_ble_eq_true rfl, Nat.le_of_ble_eq_true rfl, S4.nk, ?_⟩
  rw [jnewH_z S4.2.2.2, hm_nf]
  have S5 := cs_nf (o := o) (j := 10) (k := 1) (n := 300) S4
  have X5 := ex_nf (j := 10) (k := 1) (n := 300) X4
  have c5 : (nf w4 o 10 1 300).1 = w.1 + 19 := by show _ = _; exact (show (nf w4 o 10 1 300).1 = w4.1 + 1 from rfl).trans (by omega)
  generalize e5 : nf w4 o 10 1 300 = w5 at S5 X5 c5 ⊢
  clear S4 X4 c4
  refine jwp_sound t_Asker_init _ (b_Asker_init_64 ?_)
  refine ⟨by omega, by omega, Nat.le_of_ble_eq_true rfl, Nat.le_of_ble_eq_true rfl, S5.nk, ?_⟩
  rw [jnewH_z S5.2.2.2, hm_nf]
  have S6 := cs_nf (o := o) (j := 11) (k := 1) (n := 300) S5
  have X6 := ex_nf (j := 11) (k := 1) (n := 300) X5
  have c6 : (nf w5 o 11 1 300).1 = w.1 + 20 := by show _ = _; exact (show (nf w5 o 11 1 300).1 = w5.1 + 1 from rfl).trans (by omega)
  generalize e6 : nf w5 o 11 1 300 = w6 at S6 X6 c6 ⊢
  clear S5 X5 c5
  refine jwp_sound t_Asker_init _ (b_Asker_init_73 ?_)
  refine ⟨by omega, by omega, Nat.le_of_ble_eq_true rfl, Nat.le_of_ble_eq_true rfl, S6.nk, ?_⟩
  rw [jnewH_z S6.2.2.2, hm_nf]
  have S7 := cs_nf (o := o) (j := 12) (k := 1) (n := 300) S6
  have X7 := ex_nf (j := 12) (k := 1) (n := 300) X6
  have c7 : (nf w6 o 12 1 300).1 = w.1 + 21 := by show _ = _; exact (show (nf w6 o 12 1 300).1 = w6.1 + 1 from rfl).trans (by omega)
  generalize e7 : nf w6 o 12 1 300 = w7 at S7 X7 c7 ⊢
  clear S6 X6 c6
  refine jwp_sound t_Asker_init _ (b_Asker_init_82 ?_)
  refine ⟨S7.2.2.1, ?_⟩
  rw [hm_p]
  have S8 := cs_pL (a := o) (j := 0) (v := x1) S7
  have X8 := ex_pL (j := 0) (v := x1) X7
  have c8 : (pL w7 o 0 x1).1 = w.1 + 21 := by show _ = _; exact (show (pL w7 o 0 x1).1 = w7.1 + 0 from rfl).trans (by omega)
  generalize e8 : pL w7 o 0 x1 = w8 at S8 X8 c8 ⊢
  clear S7 X7 c7
  refine jwp_sound t_Asker_init _ (b_Asker_init_87 ?_)
  refine ⟨S8.2.2.1, ?_⟩
  rw [hm_p]
  have S9 := cs_pL (a := o) (j := 1) (v := x2) S8
  have X9 := ex_pL (j := 1) (v := x2) X8
  have c9 : (pL w8 o 1 x2).1 = w.1 + 21 := by show _ = _; exact (show (pL w8 o 1 x2).1 = w8.1 + 0 from rfl).trans (by omega)
  generalize e9 : pL w8 o 1 x2 = w9 at S9 X9 c9 ⊢
  clear S8 X8 c8
  refine jwp_sound t_Asker_init _ (b_Asker_init_92 ?_)
  refine ⟨S9.2.2.1, ?_⟩
  rw [hm_p]
  have S10 := cs_pL (a := o) (j := 2) (v := x3) S9
  have X10 := ex_pL (j := 2) (v := x3) X9
  have c10 : (pL w9 o 2 x3).1 = w.1 + 21 := by show _ = _; exact (show (pL w9 o 2 x3).1 = w9.1 + 0 from rfl).trans (by omega)
  generalize e10 : pL w9 o 2 x3 = w10 at S10 X10 c10 ⊢
  clear S9 X9 c9
  refine jwp_sound t_Asker_init _ (b_Asker_init_97 ?_)
  refine ⟨by rw [X10.2.1 x3 h3]; exact k3, ?_⟩
  refine cN_mk (g_wordsOf (d := 10) (by rw [X10.2.1 x3 h3]; exact k3)) (by omega) (fun r τ h => ?_)
  obtain ⟨hr, rfl⟩ := h
  rw [X10.2.2 x3 5 h3 n3, r3] at hr
  rw [hr]
  refine ⟨S10.2.2.1, ?_⟩
  refine jwp_sound t_Asker_init _ (b_Asker_init_106 ?_)
  subst e1
  subst e2
  subst e3
  subst e4
  subst e5
  subst e6
  subst e7
  subst e8
  subst e9
  subst e10
  exact ⟨rfl, rfl⟩
def fSlots (o : Int) (w : jL) : jL := nf (nf (nf (nf (w) o 0 4 240) o 1 1 4) o 2 1 4) o 3 2 60
theorem x_Slots {o : Int} {w : jL} : EXL o w (fSlots o w) := ex_nf (ex_nf (ex_nf (ex_nf (ex_rf))))
theorem n_Slots {o : Int} {w : jL} : (fSlots o w).1 = w.1 + 4 := rfl
set_option maxHeartbeats 8000000 in
theorem i_Slots {l : Launch} {d : Nat} {o : Int} {w : jL} {σ : jH} (hd : 11 ≤ d) (S0 : CS 16 o w σ) (hz : ∀ j, σ o j = 0) : CallG l d 4 308 m_Slots_init [vR o] (toG w) σ (fun _ G' σ' => G' = toG (fSlots o w) ∧ σ' = jfill σ ((w.1 + 3 : Nat) : Int) 0 4 (-1)) := by
  have X0 : EXL o w w := ex_rf
  have c0 : w.1 = w.1 + 0 := rfl
  refine CG_of o_Slots_init rfl (jwp_sound t_Slots_init _ (b_Slots_init_0 ?_))
  refine ⟨by omega, S0.1, by omega, by omega, Nat.le_of_ble_eq_true rfl, Nat.le_of_ble_eq_true rfl, S0.nk, ?_⟩
  rw [jnewH_z S0.2.2.2, hm_nf]
  have S1 := cs_nf (o := o) (j := 0) (k := 4) (n := 240) S0
  have X1 := ex_nf (j := 0) (k := 4) (n := 240) X0
  have c1 : (nf w o 0 4 240).1 = w.1 + 1 := by show _ = _; exact (show (nf w o 0 4 240).1 = w.1 + 1 from rfl).trans (by omega)
  generalize e1 : nf w o 0 4 240 = w1 at S1 X1 c1 ⊢
  refine jwp_sound t_Slots_init _ (b_Slots_init_13 ?_)
  refine ⟨by omega, by omega, Nat.le_of_ble_eq_true rfl, Nat.le_of_ble_eq_true rfl, S1.nk, ?_⟩
  rw [jnewH_z S1.2.2.2, hm_nf]
  have S2 := cs_nf (o := o) (j := 1) (k := 1) (n := 4) S1
  have X2 := ex_nf (j := 1) (k := 1) (n := 4) X1
  have c2 : (nf w1 o 1 1 4).1 = w.1 + 2 := by show _ = _; exact (show (nf w1 o 1 1 4).1 = w1.1 + 1 from rfl).trans (by omega)
  generalize e2 : nf w1 o 1 1 4 = w2 at S2 X2 c2 ⊢
  clear S1 X1 c1
  refine jwp_sound t_Slots_init _ (b_Slots_init_20 ?_)
  refine ⟨by omega, by omega, Nat.le_of_ble_eq_true rfl, Nat.le_of_ble_eq_true rfl, S2.nk, ?_⟩
  rw [jnewH_z S2.2.2.2, hm_nf]
  have S3 := cs_nf (o := o) (j := 2) (k := 1) (n := 4) S2
  have X3 := ex_nf (j := 2) (k := 1) (n := 4) X2
  have c3 : (nf w2 o 2 1 4).1 = w.1 + 3 := by show _ = _; exact (show (nf w2 o 2 1 4).1 = w2.1 + 1 from rfl).trans (by omega)
  have r2 : (toG (nf w2 o 2 1 4)).2.2 o 2 = ((w.1 + 3 : Nat) : Int) := nf_s.trans (by omega)
  have k2 : (toG (nf w2 o 2 1 4)).2.1 ((w.1 + 3 : Nat) : Int) = (1, 4) := by rw [show ((w.1 + 3 : Nat) : Int) = ((w2.1 + 1 : Nat) : Int) by omega]; exact nL_s
  generalize e3 : nf w2 o 2 1 4 = w3 at S3 X3 c3 r2 k2 ⊢
  clear S2 X2 c2
  refine jwp_sound t_Slots_init _ (b_Slots_init_27 ?_)
  refine ⟨by omega, by omega, Nat.le_of_ble_eq_true rfl, Nat.le_of_ble_eq_true rfl, S3.nk, ?_⟩
  rw [jnewH_z S3.2.2.2, hm_nf]
  have S4 := cs_nf (o := o) (j := 3) (k := 2) (n := 60) S3
  have X4 := ex_nf (j := 3) (k := 2) (n := 60) X3
  have c4 : (nf w3 o 3 2 60).1 = w.1 + 4 := by show _ = _; exact (show (nf w3 o 3 2 60).1 = w3.1 + 1 from rfl).trans (by omega)
  replace r2 := (nf_r (w := w3) (o := o) (j := 3) (k := 2) (n := 60) (q := o) (i := 2) S3.2.1 (Or.inr (by omega))).trans r2
  replace k2 := (nf_k (w := w3) (o := o) (j := 3) (k := 2) (n := 60) (q := ((w.1 + 3 : Nat) : Int)) (by omega)).trans k2
  generalize e4 : nf w3 o 3 2 60 = w4 at S4 X4 c4 r2 k2 ⊢
  clear S3 X3 c3
  refine jwp_sound t_Slots_init _ (b_Slots_init_35 ?_)
  refine ⟨S4.2.2.1, ?_⟩
  rw [r2]
  refine cN_mk (g_fill (d := 10) (σ := σ) (-1) k2 (by omega) (by omega)) (by omega) (fun _ τ h => ?_)
  subst e1
  subst e2
  subst e3
  subst e4
  exact ⟨rfl, h⟩
