/-! The invariant behind both constructors -/
theorem inv_0 {τ : jH} (M : MI0 hM τ) : INV τ := by
  obtain ⟨R, AL, F, F9⟩ := M
  have lo : ∀ c, c < 189 → τ c = hC c := fun c h => by rw [F c (by omega), hM_lo (by omega)]
  have lo0 : ∀ c, c < 189 → (c ≠ 183 ∧ c ≠ 187 ∧ c ≠ 157 ∧ c ≠ 155 ∧ c ≠ 143 ∧ c ≠ 140 ∧ c ≠ 135 ∧ c ≠ 87 ∧ c ≠ 75 ∧ c ≠ 64 ∧ c ≠ 52 ∧ c ≠ 41 ∧ c ≠ 29 ∧ c ≠ 17 ∧ c ≠ 5) → ∀ j, τ c j = 0 := fun c h h2 j => by rw [lo c h]; exact hC_0 h2 j
  have nine : ∀ j, j ≠ 10 → j ≠ 23 → τ 189 j = 0 := fun j h h2 => by rw [F9 j h, hM_189, if_neg h2]
  have rw0 : ∀ j, 0 ≤ j → j < 26 → τ 5 j = j ∧ τ 17 j = j := fun j a b => by
    rw [lo 5 (by omega), lo 17 (by omega), hC_eq]
    refine ⟨?_, ?_⟩
    · show (if _ then _ else _) = _
      repeat rw [if_neg (by omega)]
      rw [if_pos (by omega)]
    · show (if _ then _ else _) = _
      repeat rw [if_neg (by omega)]
      rw [if_pos (by omega)]
  have r135 : ∀ j, τ 135 j = if j = 5 then 139 else if j = 4 then 138 else 0 := fun j => by
    rw [lo 135 (by omega), hC_eq]
    show (if _ then _ else _) = _
    by_cases q : j = 5
    · repeat rw [if_neg (show ¬ _ by omega)]
      rw [if_pos ⟨rfl, q⟩, if_pos q]
    · rw [if_neg q]
      by_cases q2 : j = 4
      · rw [if_pos q2]
        repeat rw [if_neg (show ¬ _ by omega)]
        rw [if_pos ⟨rfl, q2⟩]
      · rw [if_neg q2]
        repeat rw [if_neg (show ¬ _ by omega)]
  have i1 : IML τ 3 om0 := ⟨⟨by show τ 22 0 = om0 3; rw [lo0 22 (by omega) (by omega), om0_in (by omega)], fun i a b => by rw [om0_in (by omega)] at b; omega⟩, ⟨by show τ 22 1 = om0 4; rw [lo0 22 (by omega) (by omega), om0_in (by omega)], fun i a b => by rw [om0_in (by omega)] at b; omega⟩, fun x a b => by rw [om0_fo a b]; exact (rw0 x a b).1, fun x a b => by unfold rnk; rw [om0_r a b]; exact (rw0 x a b).2⟩
  have img : IMG τ 3 om0 := by
    refine ⟨i1, ⟨⟨?_, ?_, ?_, ?_⟩, fun s a b => ?_, fun s a b => ?_⟩, fun q a b => ?_, Or.inl (lo0 4 (by omega) (by omega) 11)⟩
    · show τ 4 0 = _
      rw [lo0 4 (by omega) (by omega), om0_in (by omega)]
    · show τ 4 3 = _
      rw [lo0 4 (by omega) (by omega), fcnt_0 (fun x a b => om0_f a b) 26 (by omega)]
    · show τ 4 5 = _
      rw [lo0 4 (by omega) (by omega), om0_in (by omega)]
    · show τ 4 7 = _
      rw [lo0 4 (by omega) (by omega), om0_in (by omega)]
    · rw [om0_in (by omega)] at b
      omega
    · rw [om0_in (by omega)] at b
      omega
    · have : rk om0 (7477 + 21 * q) = 0 := rk_0 (om0_in (by omega))
      rw [this]
      exact ⟨lo0 24 (by omega) (by omega) q, lo0 25 (by omega) (by omega) q⟩
  have m1 : ∀ s, 0 ≤ s → s < 4 → τ 187 s = -1 := fun s a b => by
    rw [lo 187 (by omega), hC_eq]
    show (if _ then _ else _) = _
    rw [if_neg (by omega), if_pos (by omega)]
  have pg1 : ∀ f, 0 ≤ f → f < 600 → τ 183 f = -1 := fun f a b => by
    rw [lo 183 (by omega), hC_eq]
    show (if _ then _ else _) = _
    rw [if_pos (by omega)]
  have f140 : τ 140 6 = 0 ∧ τ 140 7 = -1 := by
    rw [lo 140 (by omega), hC_eq]
    exact ⟨rfl, rfl⟩
  have f157 : τ 157 9 = 0 := by
    rw [lo 157 (by omega), hC_eq]
    rfl
  refine ⟨om0, 0, fun _ => 0, fun _ => -1, fun _ => 0, fun _ => 0, fun _ => false, fun _ _ => 0, ⟨om0_g, fun j hj => om0_in (by omega), fun j => by dsimp only; omega, fun s a b => ⟨by dsimp only; omega, by dsimp only; omega, fun i c e => by dsimp only at e; omega⟩, fun k a b q => by cases q⟩, ⟨⟨om0_g.1, i1, fun q => absurd (lo0 97 (by omega) (by omega) 0) q⟩, img, tpc_0 (lo0 1 (by omega) (by omega) 1), fun s a b => ⟨m1 s a b, lo0 186 (by omega) (by omega) s, fun i c e => by dsimp only at e; omega⟩, fun k a b => ⟨lo0 96 (by omega) (by omega) k, Or.inl (lo0 _ (by omega) (by omega) 11), fun q => by cases q⟩, fun c j hc => ?_, ⟨fun q => absurd ?_ q, 138, 139, ?_, ?_, Or.inl ⟨rfl, rfl⟩⟩⟩, ⟨R, AL, tpr_0 (nine 15 (by omega) (by omega)), fun s a b => ⟨?_, ?_, fun i c e => by dsimp only at e; omega⟩, fun k a b => ⟨?_, fun q => by cases q⟩⟩, ?_⟩
  · rw [lo0 c (by omega) (by omega)]
    omega
  · rw [r135, if_neg (by omega), if_neg (by omega)]
  · rw [r135, if_neg (by omega), if_pos rfl]
  · rw [r135, if_pos rfl]
  · rw [F 229 (by omega)]
    exact hM_229 a b
  · rw [F 230 (by omega), hM_lo (by omega)]
    exact hC_0 (by omega) s
  · rw [F 192 (by omega), hM_lo (by omega)]
    exact hC_0 (by omega) k
  · refine ⟨⟨0, fun _ => 0, ⟨lo0 1 (by omega) (by omega) 12, by omega, fun i a b => by omega⟩, ⟨nine 36 (by omega) (by omega), by omega, fun i a b => by omega⟩⟩, ⟨0, fun _ => 0, fun _ => 0, ⟨lo0 1 (by omega) (by omega) 15, by omega, fun i a b => by omega⟩, ⟨nine 41 (by omega) (by omega), by omega, fun i a b => by omega⟩⟩, ⟨0, 0, ⟨lo0 1 (by omega) (by omega) 16, lo0 1 (by omega) (by omega) 17, by omega, by omega⟩, ⟨nine 43 (by omega) (by omega), by omega, fun i a b => by omega⟩⟩, ⟨fun _ => -1, 0, pg1, ⟨nine 46 (by omega) (by omega), by omega, fun f a b => by omega, fun f _ => rfl⟩, by omega⟩, ⟨0, fun _ => 0, fun _ => 0, fun _ => 0, ⟨f157, by omega, fun i a b => by omega⟩, ⟨nine 33 (by omega) (by omega), by omega, fun i a b => by omega⟩⟩, ?_, ?_⟩
    · rw [f140.1, nine 22 (by omega) (by omega)]
    · rw [f140.2, F9 23 (by omega), hM_189, if_pos rfl]
