/-! The law from its entry -/
section L7
variable {l : Launch} {S : Int → Int} {L : Int}
theorem law_Ev (hS : ∀ j, r32 (S j)) (hL : 0 ≤ L ∧ L ≤ 3072) : Ev (l, S, L) 2048 600000 7302250 m_law RTl 0 [some (vS), none, none, none] [] (toG w00) hz0 0 0 := by
  have z0 : Zb w00.1 hz0 := fun _ _ _ => rfl
  refine jwp_sound t_law _ (b_law_0 ?_)
  dsimp only
  rw [jnewH_z z0, hm_n]
  refine ⟨by omega, by omega, by omega, 14, _, by omega, i_WordPlaces (Nat.le_refl _) (cs_new z0) (fun i => rfl), by omega, by omega, ?_⟩
  intro G1 σ1 hP
  obtain ⟨eG, eS⟩ := hP
  replace eG : G1 = toG (fWP 1 w19) := eG
  replace eS : σ1 = hC := eS
  subst eG
  subst eS
  have o188 : (((toG (fWP 1 w19)).1 + 1 : Nat) : Int) = 189 := by
    show (((fWP 1 w19).1 + 1 : Nat) : Int) = 189
    rw [n188]
    rfl
  have zC : Zb (fWP 1 w19).1 hC := by
    rw [n188]
    exact hC_z
  have S3 : CS 20 189 w20 hC := by
    have := cs_new (k := 20) (n := 51) zC
    rw [show (((fWP 1 w19).1 + 1 : Nat) : Int) = 189 from o188] at this
    exact this
  rw [o188, jnewH_z zC, hm_n]
  refine ⟨by omega, by omega, by omega, 16, _, by omega, i_Model (Post := fun _ G' τ => G' = gW ∧ MI0 hM τ) S3 (fun j => hC_0 (by omega) j) (by omega) (fun cs ss => ?_), by omega, by omega, ?_⟩
  · rw [show fMo 189 (nL (fWP 1 w19) 20 51) = wLit from wLit_eq]
    exact Model_end (Nat.le_refl _) (fun j => by rw [hM_lo (by omega)]; exact hC_0 (by omega) j) (fun x a b => hM_200 a b)
  · intro G2 σ2 hP
    obtain ⟨eG, hM0⟩ := hP
    subst eG
    exact l_law (by omega) hS hL 600 0 σ2 (by omega) (by omega) (by omega) (inv_0 hM0)
end L7
