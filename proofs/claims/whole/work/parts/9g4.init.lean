/-! The law: what stands behind both constructors -/
def hz0 : jH := fun _ _ => 0
def w19 : jL := nL w00 19 20
def w20 : jL := nL (fWP 1 w19) 20 51
theorem n188 : (fWP 1 w19).1 = 188 := by decide +kernel
theorem n189 : w20.1 = 189 := by decide +kernel
def hC : jH := hWP w19 hz0
def hM : jH := hMo 189 w20 hC
theorem hC_eq : hC = fun c j => if c = 183 ∧ 0 ≤ j ∧ j < 600 then -1 else if c = 187 ∧ 0 ≤ j ∧ j < 4 then -1 else if c = 157 ∧ j = 4 then 105 else if c = 155 ∧ 0 ≤ j ∧ j < 26 then j else if c = 143 ∧ 0 ≤ j ∧ j < 26 then j else if c = 140 ∧ j = 7 then -1 else if c = 135 ∧ j = 5 then 139 else if c = 135 ∧ j = 4 then 138 else if c = 87 ∧ 0 ≤ j ∧ j < 26 then j else if c = 75 ∧ 0 ≤ j ∧ j < 26 then j else if c = 64 ∧ 0 ≤ j ∧ j < 26 then j else if c = 52 ∧ 0 ≤ j ∧ j < 26 then j else if c = 41 ∧ 0 ≤ j ∧ j < 26 then j else if c = 29 ∧ 0 ≤ j ∧ j < 26 then j else if c = 17 ∧ 0 ≤ j ∧ j < 26 then j else if c = 5 ∧ 0 ≤ j ∧ j < 26 then j else 0 := rfl
theorem hC_0 {c : Int} (h : c ≠ 183 ∧ c ≠ 187 ∧ c ≠ 157 ∧ c ≠ 155 ∧ c ≠ 143 ∧ c ≠ 140 ∧ c ≠ 135 ∧ c ≠ 87 ∧ c ≠ 75 ∧ c ≠ 64 ∧ c ≠ 52 ∧ c ≠ 41 ∧ c ≠ 29 ∧ c ≠ 17 ∧ c ≠ 5) (j : Int) : hC c j = 0 := by
  rw [hC_eq]
  show (if _ then _ else _) = _
  repeat rw [if_neg (by omega)]
theorem hC_z : Zb 188 hC := fun c j hc => hC_0 (by omega) j
theorem hM_lo {c : Int} (h : c ≠ 189 ∧ c ≠ 200 ∧ c ≠ 229) : hM c = hC c := by
  funext j
  unfold hM hMo
  rw [n189]
  repeat rw [ju_ne (by omega)]
theorem hM_200 {x : Int} (a : 0 ≤ x) (b : x < 26) : hM 200 x = x := by
  unfold hM hMo
  rw [n189]
  repeat rw [ju_ne (show (200 : Int) ≠ ((189 + 40 : Nat) : Int) by omega)]
  rw [ju_ne (show (200 : Int) ≠ 189 by omega)]
  unfold ju
  repeat' split
  all_goals omega
theorem hM_229 {x : Int} (a : 0 ≤ x) (b : x < 4) : hM 229 x = -1 := by
  unfold hM hMo
  rw [n189]
  unfold ju
  repeat' split
  all_goals omega
theorem hM_189 (j : Int) : hM 189 j = if j = 23 then -1 else 0 := by
  unfold hM hMo
  rw [n189]
  repeat rw [ju_ne (show (189 : Int) ≠ ((189 + 40 : Nat) : Int) by omega)]
  by_cases q : j = 23
  · rw [q, ju_self, if_pos rfl]
  · rw [ju_ne2 q, if_neg q]
    repeat rw [ju_ne (by omega)]
    exact hC_0 (by omega) j
theorem inv_0 {τ : jH} (M : MI0 hM τ) : INV τ := by
  obtain ⟨R, AL, F, F9⟩ := M
  have lo : ∀ c, c < 189 → τ c = hC c := fun c h => by rw [F c (by omega), hM_lo (by omega)]
  have lo0 : ∀ c, c < 189 → (c ≠ 183 ∧ c ≠ 187 ∧ c ≠ 157 ∧ c ≠ 155 ∧ c ≠ 143 ∧ c ≠ 140 ∧ c ≠ 135 ∧ c ≠ 87 ∧ c ≠ 75 ∧ c ≠ 64 ∧ c ≠ 52 ∧ c ≠ 41 ∧ c ≠ 29 ∧ c ≠ 17 ∧ c ≠ 5) → ∀ j, τ c j = 0 := fun c h h2 j => by rw [lo c h]; exact hC_0 h2 j
  have nine : ∀ j, j ≠ 10 → j ≠ 23 → τ 189 j = 0 := fun j h h2 => by rw [F9 j h, hM_189, if_neg h2]
  have rw0 : ∀ j, 0 ≤ j → j < 26 → τ 5 j = j ∧ τ 17 j = j := fun j a b => by
    rw [lo 5 (by omega), lo 17 (by omega), hC_eq]
    refine ⟨?_, ?_⟩
    · show (if _ then _ else _) = _
      repeat rw [if_neg (by omega)]
      rw [if_pos (by omega)]
    · show (if _ then _ else _) = _
      repeat rw [if_neg (by omega)]
      rw [if_pos (by omega)]
  have r135 : ∀ j, τ 135 j = if j = 5 then 139 else if j = 4 then 138 else 0 := fun j => by
    rw [lo 135 (by omega), hC_eq]
    show (if _ then _ else _) = _
    by_cases q : j = 5
    · repeat rw [if_neg (show ¬ _ by omega)]
      rw [if_pos ⟨rfl, q⟩, if_pos q]
    · rw [if_neg q]
      by_cases q2 : j = 4
      · rw [if_pos q2]
        repeat rw [if_neg (show ¬ _ by omega)]
        rw [if_pos ⟨rfl, q2⟩]
      · rw [if_neg q2]
        repeat rw [if_neg (show ¬ _ by omega)]
  have i1 : IML τ 3 om0 := ⟨⟨by rw [lo0 22 (by omega) (by omega), om0_in (by omega)], fun i a b => by rw [om0_in (by omega)] at b; omega⟩, ⟨by rw [lo0 22 (by omega) (by omega), om0_in (by omega)], fun i a b => by rw [om0_in (by omega)] at b; omega⟩, fun x a b => by rw [om0_fo a b]; exact (rw0 x a b).1, fun x a b => by unfold rnk; rw [om0_r a b]; exact (rw0 x a b).2⟩
  have img : IMG τ 3 om0 := by
    refine ⟨i1, ⟨⟨?_, ?_, ?_, ?_⟩, fun s a b => ?_, fun s a b => ?_⟩, fun q a b => ?_, Or.inl (lo0 4 (by omega) (by omega) 11)⟩
    · rw [lo0 4 (by omega) (by omega), om0_in (by omega)]
    · rw [lo0 4 (by omega) (by omega), fcnt_0 (fun x a b => om0_f a b) 26 (by omega)]
    · rw [lo0 4 (by omega) (by omega), om0_in (by omega)]
    · rw [lo0 4 (by omega) (by omega), om0_in (by omega)]
    · rw [om0_in (by omega)] at b
      omega
    · rw [om0_in (by omega)] at b
      omega
    · have : rk om0 (7477 + 21 * q) = 0 := rk_0 (om0_in (by omega))
      rw [this]
      exact ⟨lo0 24 (by omega) (by omega) q, lo0 25 (by omega) (by omega) q⟩
  have m1 : ∀ s, 0 ≤ s → s < 4 → τ 187 s = -1 := fun s a b => by
    rw [lo 187 (by omega), hC_eq]
    show (if _ then _ else _) = _
    rw [if_neg (by omega), if_pos (by omega)]
  have pg1 : ∀ f, 0 ≤ f → f < 600 → τ 183 f = -1 := fun f a b => by
    rw [lo 183 (by omega), hC_eq]
    show (if _ then _ else _) = _
    rw [if_pos (by omega)]
  have f140 : τ 140 6 = 0 ∧ τ 140 7 = -1 := by
    rw [lo 140 (by omega), hC_eq]
    exact ⟨rfl, rfl⟩
  have f157 : τ 157 9 = 0 := by
    rw [lo 157 (by omega), hC_eq]
    rfl
  refine ⟨om0, 0, fun _ => 0, fun _ => -1, fun _ => 0, fun _ => 0, fun _ => false, fun _ _ => 0, ⟨om0_g, fun j hj => om0_in (by omega), fun j => by omega, fun s a b => ⟨by omega, by omega, fun i c e => by omega⟩, fun k a b q => by cases q⟩, ⟨⟨om0_g.1, i1, fun q => absurd (lo0 97 (by omega) (by omega) 0) q⟩, img, tpc_0 (lo0 1 (by omega) (by omega) 1), fun s a b => ⟨m1 s a b, lo0 186 (by omega) (by omega) s, fun i c e => by omega⟩, fun k a b => ⟨lo0 96 (by omega) (by omega) k, Or.inl (lo0 _ (by omega) (by omega) 11), fun q => by cases q⟩, fun c j hc => ?_, ⟨fun q => absurd ?_ q, 138, 139, ?_, ?_, Or.inl ⟨rfl, rfl⟩⟩⟩, ⟨R, AL, tpr_0 (nine 15 (by omega) (by omega)), fun s a b => ⟨?_, ?_, fun i c e => by omega⟩, fun k a b => ⟨?_, fun q => by cases q⟩⟩, ?_⟩
  · rw [lo0 c (by omega) (by omega)]
    omega
  · rw [r135, if_neg (by omega), if_neg (by omega)]
  · rw [r135, if_neg (by omega), if_pos rfl]
  · rw [r135, if_pos rfl]
  · rw [F 229 (by omega)]
    exact hM_229 a b
  · rw [F 230 (by omega), hM_lo (by omega)]
    exact hC_0 (by omega) s
  · rw [F 192 (by omega), hM_lo (by omega)]
    exact hC_0 (by omega) k
  · refine ⟨⟨0, fun _ => 0, ⟨lo0 1 (by omega) (by omega) 12, by omega, fun i a b => by omega⟩, ⟨nine 36 (by omega) (by omega), by omega, fun i a b => by omega⟩⟩, ⟨0, fun _ => 0, fun _ => 0, ⟨lo0 1 (by omega) (by omega) 15, by omega, fun i a b => by omega⟩, ⟨nine 41 (by omega) (by omega), by omega, fun i a b => by omega⟩⟩, ⟨0, 0, ⟨lo0 1 (by omega) (by omega) 16, lo0 1 (by omega) (by omega) 17, by omega, by omega⟩, ⟨nine 43 (by omega) (by omega), by omega, fun i a b => by omega⟩⟩, ⟨fun _ => -1, 0, pg1, ⟨nine 46 (by omega) (by omega), by omega, fun f a b => by omega, fun f _ => rfl⟩, by omega⟩, ⟨0, fun _ => 0, fun _ => 0, fun _ => 0, ⟨f157, by omega, fun i a b => by omega⟩, ⟨nine 33 (by omega) (by omega), by omega, fun i a b => by omega⟩⟩, ?_, ?_⟩
    · rw [f140.1, nine 22 (by omega) (by omega)]
    · rw [f140.2, F9 23 (by omega), hM_189, if_pos rfl]
/-! The law from its entry -/
section L7
variable {l : Launch} {S : Int → Int} {L : Int}
theorem law_Ev (hS : ∀ j, r32 (S j)) (hL : 0 ≤ L ∧ L ≤ 3072) : Ev (l, S, L) 2048 600000 7302250 m_law RTl 0 [some (vS), none, none, none] [] (toG w00) hz0 0 0 := by
  have z0 : Zb w00.1 hz0 := fun _ _ _ => rfl
  refine jwp_sound t_law _ (b_law_0 ?_)
  dsimp only
  rw [jnewH_z z0, hm_n]
  refine ⟨by omega, by omega, by omega, 14, _, by omega, i_WordPlaces (Nat.le_refl _) (cs_new z0) (fun i => rfl), by omega, by omega, ?_⟩
  intro G1 σ1 hP
  obtain ⟨eG, eS⟩ := hP
  replace eG : G1 = toG (fWP 1 w19) := eG
  replace eS : σ1 = hC := eS
  subst eG
  subst eS
  have o188 : (((toG (fWP 1 w19)).1 + 1 : Nat) : Int) = 189 := by
    show (((fWP 1 w19).1 + 1 : Nat) : Int) = 189
    rw [n188]
    rfl
  have zC : Zb (fWP 1 w19).1 hC := by
    rw [n188]
    exact hC_z
  have S3 : CS 20 189 w20 hC := by
    have := cs_new (k := 20) (n := 51) zC
    rw [show (((fWP 1 w19).1 + 1 : Nat) : Int) = 189 from o188] at this
    exact this
  rw [o188, jnewH_z zC, hm_n]
  refine ⟨by omega, by omega, by omega, 16, _, by omega, i_Model (Post := fun _ G' τ => G' = gW ∧ MI0 hM τ) S3 (fun j => hC_0 (by omega) j) (by omega) (fun cs ss => ?_), by omega, by omega, ?_⟩
  · rw [show fMo 189 (nL (fWP 1 w19) 20 51) = wLit from wLit_eq]
    exact Model_end (Nat.le_refl _) (fun j => by rw [show hMo 189 (nL (fWP 1 w19) 20 51) hC = hM from rfl, hM_lo (by omega)]; exact hC_0 (by omega) j) (fun x a b => hM_200 a b)
  · intro G2 σ2 hP
    obtain ⟨eG, hM0⟩ := hP
    subst eG
    exact l_law (by omega) hS hL 600 0 σ2 (by omega) (by omega) (by omega) (inv_0 hM0)
end L7
