/-! The law: each call, and the loop -/
section L6
variable {l : Launch} {d mc ms cs ss : Nat} {S : Int → Int} {L : Int} {σ : jH}
def RTl : Int → jG → jH → Prop := fun x _ _ => x = 1
theorem cN_k {m : jM} {as : List jV} {K K' : Int → jH → Prop} (h : cN l d m as gW σ K) (hk : ∀ z τ, K z τ → K' z τ) : cN l d m as gW σ K' := by
  obtain ⟨d', P, h1, h2, h3⟩ := h
  exact ⟨d', P, h1, h2, fun x τ q => hk x τ (h3 x τ q)⟩
theorem jor64_r (x y : Int) : r64 (jor64 x y) := i64_r _
theorem k19 : (gW.2.1 1).1 = 19 := congrArg Prod.fst gt_1
theorem k20 : (gW.2.1 189).1 = 20 := congrArg Prod.fst gt_189
set_option maxRecDepth 20000 in
theorem g_feed {i : Int} (hd : 70 ≤ d) (hS : ∀ j, r32 (S j)) (hi : 0 ≤ i ∧ i + 6 ≤ L ∧ L ≤ 3072) (I : INV σ) (N : ∀ υ, INV υ → Ev (l, S, L) d mc ms m_law RTl 1300 [some (vS), some (vR 1), some (vR 189), some (vI i)] [] gW υ cs ss) : Ev (l, S, L) d mc ms m_law RTl 192 [some (vS), some (vR 1), some (vR 189), some (vI i)] [] gW σ cs ss := by
  refine jwp_sound t_law _ (b_law_192 ?_)
  dsimp only
  rw [w32_of (x := i + 1) (by omega) (by omega), w32_of (x := i + 2) (by omega) (by omega), w32_of (x := i + 3) (by omega) (by omega), w32_of (x := i + 4) (by omega) (by omega), w32_of (x := i + 5) (by omega) (by omega)]
  refine ⟨by omega, by omega, by omega, by omega, by omega, by omega, by omega, by omega, by omega, by omega, k19, cN_k (k_feed hd I (S (i + 1)) (S (i + 2)) (S (i + 3)) (S (i + 4)) (S (i + 5))) (fun z τ h => ⟨by omega, by omega, by omega, by omega, by omega, by omega, by omega, by omega, by omega, by omega, k20, cN_k h (fun y υ h2 => ⟨fun _ => N υ h2.2, fun q => absurd h2.1.symm q⟩)⟩)⟩
set_option maxRecDepth 20000 in
theorem g_end {i : Int} (hd : 70 ≤ d) (hS : ∀ j, r32 (S j)) (hi : 0 ≤ i ∧ i + 6 ≤ L ∧ L ≤ 3072) (I : INV σ) (N : ∀ υ, INV υ → Ev (l, S, L) d mc ms m_law RTl 1300 [some (vS), some (vR 1), some (vR 189), some (vI i)] [] gW υ cs ss) : Ev (l, S, L) d mc ms m_law RTl 255 [some (vS), some (vR 1), some (vR 189), some (vI i)] [] gW σ cs ss := by
  refine jwp_sound t_law _ (b_law_255 ?_)
  dsimp only
  rw [w32_of (x := i + 1) (by omega) (by omega)]
  refine ⟨by omega, by omega, k19, cN_k (k_end hd I (S (i + 1))) (fun z τ h => ⟨by omega, by omega, k20, cN_k h (fun y υ h2 => ⟨fun _ => N υ h2.2, fun q => absurd h2.1.symm q⟩)⟩)⟩
set_option maxRecDepth 20000 in
theorem g_rules {i : Int} (hd : 70 ≤ d) (hS : ∀ j, r32 (S j)) (hi : 0 ≤ i ∧ i + 6 ≤ L ∧ L ≤ 3072) (I : INV σ) (N : ∀ υ, INV υ → Ev (l, S, L) d mc ms m_law RTl 1300 [some (vS), some (vR 1), some (vR 189), some (vI i)] [] gW υ cs ss) : Ev (l, S, L) d mc ms m_law RTl 278 [some (vS), some (vR 1), some (vR 189), some (vI i)] [] gW σ cs ss := by
  refine jwp_sound t_law _ (b_law_278 ?_)
  dsimp only
  refine ⟨k19, cN_k (k_rules hd I ) (fun z τ h => ⟨k20, cN_k h (fun y υ h2 => ⟨fun _ => N υ h2.2, fun q => absurd h2.1.symm q⟩)⟩)⟩
set_option maxRecDepth 20000 in
theorem g_fault {i : Int} (hd : 70 ≤ d) (hS : ∀ j, r32 (S j)) (hi : 0 ≤ i ∧ i + 6 ≤ L ∧ L ≤ 3072) (I : INV σ) (N : ∀ υ, INV υ → Ev (l, S, L) d mc ms m_law RTl 1300 [some (vS), some (vR 1), some (vR 189), some (vI i)] [] gW υ cs ss) : Ev (l, S, L) d mc ms m_law RTl 291 [some (vS), some (vR 1), some (vR 189), some (vI i)] [] gW σ cs ss := by
  refine jwp_sound t_law _ (b_law_291 ?_)
  dsimp only
  rw [w32_of (x := i + 1) (by omega) (by omega)]
  refine ⟨by omega, by omega, k19, cN_k (k_fault hd I (S (i + 1))) (fun z τ h => ⟨by omega, by omega, k20, cN_k h (fun y υ h2 => ⟨fun _ => N υ h2.2, fun q => absurd h2.1.symm q⟩)⟩)⟩
set_option maxRecDepth 20000 in
theorem g_line {i : Int} (hd : 70 ≤ d) (hS : ∀ j, r32 (S j)) (hi : 0 ≤ i ∧ i + 6 ≤ L ∧ L ≤ 3072) (I : INV σ) (N : ∀ υ, INV υ → Ev (l, S, L) d mc ms m_law RTl 1300 [some (vS), some (vR 1), some (vR 189), some (vI i)] [] gW υ cs ss) : Ev (l, S, L) d mc ms m_law RTl 314 [some (vS), some (vR 1), some (vR 189), some (vI i)] [] gW σ cs ss := by
  refine jwp_sound t_law _ (b_law_314 ?_)
  dsimp only
  rw [w32_of (x := i + 1) (by omega) (by omega)]
  refine ⟨by omega, by omega, k19, cN_k (k_line hd I (S (i + 1))) (fun z τ h => ⟨by omega, by omega, k20, cN_k h (fun y υ h2 => ⟨fun _ => N υ h2.2, fun q => absurd h2.1.symm q⟩)⟩)⟩
set_option maxRecDepth 20000 in
theorem g_right {i : Int} (hd : 70 ≤ d) (hS : ∀ j, r32 (S j)) (hi : 0 ≤ i ∧ i + 6 ≤ L ∧ L ≤ 3072) (I : INV σ) (N : ∀ υ, INV υ → Ev (l, S, L) d mc ms m_law RTl 1300 [some (vS), some (vR 1), some (vR 189), some (vI i)] [] gW υ cs ss) : Ev (l, S, L) d mc ms m_law RTl 337 [some (vS), some (vR 1), some (vR 189), some (vI i)] [] gW σ cs ss := by
  refine jwp_sound t_law _ (b_law_337 ?_)
  dsimp only
  rw [w32_of (x := i + 1) (by omega) (by omega), w32_of (x := i + 2) (by omega) (by omega)]
  refine ⟨by omega, by omega, by omega, by omega, k19, cN_k (k_right hd I (S (i + 1)) (S (i + 2))) (fun z τ h => ⟨by omega, by omega, by omega, by omega, k20, cN_k h (fun y υ h2 => ⟨fun _ => N υ h2.2, fun q => absurd h2.1.symm q⟩)⟩)⟩
set_option maxRecDepth 20000 in
theorem g_lineOf {i : Int} (hd : 70 ≤ d) (hS : ∀ j, r32 (S j)) (hi : 0 ≤ i ∧ i + 6 ≤ L ∧ L ≤ 3072) (I : INV σ) (N : ∀ υ, INV υ → Ev (l, S, L) d mc ms m_law RTl 1300 [some (vS), some (vR 1), some (vR 189), some (vI i)] [] gW υ cs ss) : Ev (l, S, L) d mc ms m_law RTl 370 [some (vS), some (vR 1), some (vR 189), some (vI i)] [] gW σ cs ss := by
  refine jwp_sound t_law _ (b_law_370 ?_)
  dsimp only
  rw [w32_of (x := i + 1) (by omega) (by omega), w32_of (x := i + 2) (by omega) (by omega)]
  refine ⟨by omega, by omega, by omega, by omega, k19, cN_k (k_lineOf hd I (S (i + 1)) (S (i + 2))) (fun z τ h => ⟨by omega, by omega, by omega, by omega, k20, cN_k h (fun y υ h2 => ⟨fun _ => N υ h2.2, fun q => absurd h2.1.symm q⟩)⟩)⟩
set_option maxRecDepth 20000 in
theorem g_edition {i : Int} (hd : 70 ≤ d) (hS : ∀ j, r32 (S j)) (hi : 0 ≤ i ∧ i + 6 ≤ L ∧ L ≤ 3072) (I : INV σ) (N : ∀ υ, INV υ → Ev (l, S, L) d mc ms m_law RTl 1300 [some (vS), some (vR 1), some (vR 189), some (vI i)] [] gW υ cs ss) : Ev (l, S, L) d mc ms m_law RTl 403 [some (vS), some (vR 1), some (vR 189), some (vI i)] [] gW σ cs ss := by
  refine jwp_sound t_law _ (b_law_403 ?_)
  dsimp only
  rw [w32_of (x := i + 1) (by omega) (by omega), w32_of (x := i + 2) (by omega) (by omega)]
  refine ⟨by omega, by omega, by omega, by omega, k19, cN_k (k_edition hd I (S (i + 1)) (S (i + 2))) (fun z τ h => ⟨by omega, by omega, by omega, by omega, k20, cN_k h (fun y υ h2 => ⟨fun _ => N υ h2.2, fun q => absurd h2.1.symm q⟩)⟩)⟩
set_option maxRecDepth 20000 in
theorem g_word {i : Int} (hd : 70 ≤ d) (hS : ∀ j, r32 (S j)) (hi : 0 ≤ i ∧ i + 6 ≤ L ∧ L ≤ 3072) (I : INV σ) (N : ∀ υ, INV υ → Ev (l, S, L) d mc ms m_law RTl 1300 [some (vS), some (vR 1), some (vR 189), some (vI i)] [] gW υ cs ss) : Ev (l, S, L) d mc ms m_law RTl 436 [some (vS), some (vR 1), some (vR 189), some (vI i)] [] gW σ cs ss := by
  refine jwp_sound t_law _ (b_law_436 ?_)
  dsimp only
  rw [w32_of (x := i + 1) (by omega) (by omega), w32_of (x := i + 2) (by omega) (by omega), w32_of (x := i + 3) (by omega) (by omega)]
  refine ⟨by omega, by omega, by omega, by omega, by omega, by omega, k19, cN_k (k_word hd I (S (i + 1)) (S (i + 2)) (S (i + 3))) (fun z τ h => ⟨by omega, by omega, by omega, by omega, by omega, by omega, k20, cN_k h (fun y υ h2 => ⟨fun _ => N υ h2.2, fun q => absurd h2.1.symm q⟩)⟩)⟩
set_option maxRecDepth 20000 in
theorem g_forms {i : Int} (hd : 70 ≤ d) (hS : ∀ j, r32 (S j)) (hi : 0 ≤ i ∧ i + 6 ≤ L ∧ L ≤ 3072) (I : INV σ) (N : ∀ υ, INV υ → Ev (l, S, L) d mc ms m_law RTl 1300 [some (vS), some (vR 1), some (vR 189), some (vI i)] [] gW υ cs ss) : Ev (l, S, L) d mc ms m_law RTl 479 [some (vS), some (vR 1), some (vR 189), some (vI i)] [] gW σ cs ss := by
  refine jwp_sound t_law _ (b_law_479 ?_)
  dsimp only
  refine ⟨k19, cN_k (k_forms hd I ) (fun z τ h => ⟨k20, cN_k h (fun y υ h2 => ⟨fun _ => N υ h2.2, fun q => absurd h2.1.symm q⟩)⟩)⟩
set_option maxRecDepth 20000 in
theorem g_form {i : Int} (hd : 70 ≤ d) (hS : ∀ j, r32 (S j)) (hi : 0 ≤ i ∧ i + 6 ≤ L ∧ L ≤ 3072) (I : INV σ) (N : ∀ υ, INV υ → Ev (l, S, L) d mc ms m_law RTl 1300 [some (vS), some (vR 1), some (vR 189), some (vI i)] [] gW υ cs ss) : Ev (l, S, L) d mc ms m_law RTl 492 [some (vS), some (vR 1), some (vR 189), some (vI i)] [] gW σ cs ss := by
  refine jwp_sound t_law _ (b_law_492 ?_)
  dsimp only
  rw [w32_of (x := i + 1) (by omega) (by omega), w32_of (x := i + 2) (by omega) (by omega)]
  refine ⟨by omega, by omega, by omega, by omega, k19, cN_k (k_form hd I (S (i + 1)) (S (i + 2)) (hS _)) (fun z τ h => ⟨by omega, by omega, by omega, by omega, k20, cN_k h (fun y υ h2 => ⟨fun _ => N υ h2.2, fun q => absurd h2.1.symm q⟩)⟩)⟩
set_option maxRecDepth 20000 in
theorem g_ordered {i : Int} (hd : 70 ≤ d) (hS : ∀ j, r32 (S j)) (hi : 0 ≤ i ∧ i + 6 ≤ L ∧ L ≤ 3072) (I : INV σ) (N : ∀ υ, INV υ → Ev (l, S, L) d mc ms m_law RTl 1300 [some (vS), some (vR 1), some (vR 189), some (vI i)] [] gW υ cs ss) : Ev (l, S, L) d mc ms m_law RTl 525 [some (vS), some (vR 1), some (vR 189), some (vI i)] [] gW σ cs ss := by
  refine jwp_sound t_law _ (b_law_525 ?_)
  dsimp only
  rw [w32_of (x := i + 1) (by omega) (by omega)]
  refine ⟨by omega, by omega, k19, cN_k (k_ordered hd I (S (i + 1))) (fun z τ h => ⟨by omega, by omega, k20, cN_k h (fun y υ h2 => ⟨fun _ => N υ h2.2, fun q => absurd h2.1.symm q⟩)⟩)⟩
set_option maxRecDepth 20000 in
theorem g_ask {i : Int} (hd : 70 ≤ d) (hS : ∀ j, r32 (S j)) (hi : 0 ≤ i ∧ i + 6 ≤ L ∧ L ≤ 3072) (I : INV σ) (N : ∀ υ, INV υ → Ev (l, S, L) d mc ms m_law RTl 1300 [some (vS), some (vR 1), some (vR 189), some (vI i)] [] gW υ cs ss) : Ev (l, S, L) d mc ms m_law RTl 548 [some (vS), some (vR 1), some (vR 189), some (vI i)] [] gW σ cs ss := by
  refine jwp_sound t_law _ (b_law_548 ?_)
  dsimp only
  rw [w32_of (x := i + 1) (by omega) (by omega)]
  refine ⟨by omega, by omega, k19, cN_k (k_ask hd I (S (i + 1))) (fun z τ h => ⟨by omega, by omega, k20, cN_k h (fun y υ h2 => ⟨fun _ => N υ h2.2, fun q => absurd h2.1.symm q⟩)⟩)⟩
set_option maxRecDepth 20000 in
theorem g_answer {i : Int} (hd : 70 ≤ d) (hS : ∀ j, r32 (S j)) (hi : 0 ≤ i ∧ i + 6 ≤ L ∧ L ≤ 3072) (I : INV σ) (N : ∀ υ, INV υ → Ev (l, S, L) d mc ms m_law RTl 1300 [some (vS), some (vR 1), some (vR 189), some (vI i)] [] gW υ cs ss) : Ev (l, S, L) d mc ms m_law RTl 571 [some (vS), some (vR 1), some (vR 189), some (vI i)] [] gW σ cs ss := by
  refine jwp_sound t_law _ (b_law_571 ?_)
  dsimp only
  rw [w32_of (x := i + 1) (by omega) (by omega), w32_of (x := i + 2) (by omega) (by omega)]
  refine ⟨by omega, by omega, by omega, by omega, k19, cN_k (k_answer hd I (S (i + 1)) (S (i + 2))) (fun z τ h => ⟨by omega, by omega, by omega, by omega, k20, cN_k h (fun y υ h2 => ⟨fun _ => N υ h2.2, fun q => absurd h2.1.symm q⟩)⟩)⟩
set_option maxRecDepth 20000 in
theorem g_stands {i : Int} (hd : 70 ≤ d) (hS : ∀ j, r32 (S j)) (hi : 0 ≤ i ∧ i + 6 ≤ L ∧ L ≤ 3072) (I : INV σ) (N : ∀ υ, INV υ → Ev (l, S, L) d mc ms m_law RTl 1300 [some (vS), some (vR 1), some (vR 189), some (vI i)] [] gW υ cs ss) : Ev (l, S, L) d mc ms m_law RTl 604 [some (vS), some (vR 1), some (vR 189), some (vI i)] [] gW σ cs ss := by
  refine jwp_sound t_law _ (b_law_604 ?_)
  dsimp only
  rw [w32_of (x := i + 1) (by omega) (by omega), w32_of (x := i + 2) (by omega) (by omega), w32_of (x := i + 3) (by omega) (by omega)]
  refine ⟨by omega, by omega, by omega, by omega, by omega, by omega, k19, cN_k (k_stands hd I (S (i + 1)) (S (i + 2)) (S (i + 3)) (hS _).2) (fun z τ h => ⟨by omega, by omega, by omega, by omega, by omega, by omega, k20, cN_k h (fun y υ h2 => ⟨fun _ => N υ h2.2, fun q => absurd h2.1.symm q⟩)⟩)⟩
set_option maxRecDepth 20000 in
theorem g_pack {i : Int} (hd : 70 ≤ d) (hS : ∀ j, r32 (S j)) (hi : 0 ≤ i ∧ i + 6 ≤ L ∧ L ≤ 3072) (I : INV σ) (N : ∀ υ, INV υ → Ev (l, S, L) d mc ms m_law RTl 1300 [some (vS), some (vR 1), some (vR 189), some (vI i)] [] gW υ cs ss) : Ev (l, S, L) d mc ms m_law RTl 647 [some (vS), some (vR 1), some (vR 189), some (vI i)] [] gW σ cs ss := by
  refine jwp_sound t_law _ (b_law_647 ?_)
  dsimp only
  rw [w32_of (x := i + 1) (by omega) (by omega), w32_of (x := i + 2) (by omega) (by omega), w32_of (x := i + 3) (by omega) (by omega)]
  refine ⟨by omega, by omega, by omega, by omega, by omega, by omega, k19, cN_k (k_pack hd I (S (i + 1)) (S (i + 2)) (S (i + 3))) (fun z τ h => ⟨by omega, by omega, by omega, by omega, by omega, by omega, k20, cN_k h (fun y υ h2 => ⟨fun _ => N υ h2.2, fun q => absurd h2.1.symm q⟩)⟩)⟩
set_option maxRecDepth 20000 in
theorem g_room {i : Int} (hd : 70 ≤ d) (hS : ∀ j, r32 (S j)) (hi : 0 ≤ i ∧ i + 6 ≤ L ∧ L ≤ 3072) (I : INV σ) (N : ∀ υ, INV υ → Ev (l, S, L) d mc ms m_law RTl 1300 [some (vS), some (vR 1), some (vR 189), some (vI i)] [] gW υ cs ss) : Ev (l, S, L) d mc ms m_law RTl 690 [some (vS), some (vR 1), some (vR 189), some (vI i)] [] gW σ cs ss := by
  refine jwp_sound t_law _ (b_law_690 ?_)
  dsimp only
  rw [w32_of (x := i + 1) (by omega) (by omega)]
  refine ⟨by omega, by omega, k19, cN_k (k_room hd I (S (i + 1))) (fun z τ h => ⟨by omega, by omega, k20, cN_k h (fun y υ h2 => ⟨fun _ => N υ h2.2, fun q => absurd h2.1.symm q⟩)⟩)⟩
set_option maxRecDepth 20000 in
theorem g_shares {i : Int} (hd : 70 ≤ d) (hS : ∀ j, r32 (S j)) (hi : 0 ≤ i ∧ i + 6 ≤ L ∧ L ≤ 3072) (I : INV σ) (N : ∀ υ, INV υ → Ev (l, S, L) d mc ms m_law RTl 1300 [some (vS), some (vR 1), some (vR 189), some (vI i)] [] gW υ cs ss) : Ev (l, S, L) d mc ms m_law RTl 713 [some (vS), some (vR 1), some (vR 189), some (vI i)] [] gW σ cs ss := by
  refine jwp_sound t_law _ (b_law_713 ?_)
  dsimp only
  rw [w32_of (x := i + 1) (by omega) (by omega), w32_of (x := i + 2) (by omega) (by omega)]
  refine ⟨by omega, by omega, by omega, by omega, k19, cN_k (k_shares hd I (S (i + 1)) (S (i + 2))) (fun z τ h => ⟨by omega, by omega, by omega, by omega, k20, cN_k h (fun y υ h2 => ⟨fun _ => N υ h2.2, fun q => absurd h2.1.symm q⟩)⟩)⟩
set_option maxRecDepth 20000 in
theorem g_share {i : Int} (hd : 70 ≤ d) (hS : ∀ j, r32 (S j)) (hi : 0 ≤ i ∧ i + 6 ≤ L ∧ L ≤ 3072) (I : INV σ) (N : ∀ υ, INV υ → Ev (l, S, L) d mc ms m_law RTl 1300 [some (vS), some (vR 1), some (vR 189), some (vI i)] [] gW υ cs ss) : Ev (l, S, L) d mc ms m_law RTl 746 [some (vS), some (vR 1), some (vR 189), some (vI i)] [] gW σ cs ss := by
  refine jwp_sound t_law _ (b_law_746 ?_)
  dsimp only
  rw [w32_of (x := i + 1) (by omega) (by omega)]
  refine ⟨by omega, by omega, k19, cN_k (k_share hd I (S (i + 1))) (fun z τ h => ⟨by omega, by omega, k20, cN_k h (fun y υ h2 => ⟨fun _ => N υ h2.2, fun q => absurd h2.1.symm q⟩)⟩)⟩
set_option maxRecDepth 20000 in
theorem g_alike {i : Int} (hd : 70 ≤ d) (hS : ∀ j, r32 (S j)) (hi : 0 ≤ i ∧ i + 6 ≤ L ∧ L ≤ 3072) (I : INV σ) (N : ∀ υ, INV υ → Ev (l, S, L) d mc ms m_law RTl 1300 [some (vS), some (vR 1), some (vR 189), some (vI i)] [] gW υ cs ss) : Ev (l, S, L) d mc ms m_law RTl 769 [some (vS), some (vR 1), some (vR 189), some (vI i)] [] gW σ cs ss := by
  refine jwp_sound t_law _ (b_law_769 ?_)
  dsimp only
  refine ⟨k19, cN_k (k_alike hd I ) (fun z τ h => ⟨k20, cN_k h (fun y υ h2 => ⟨fun _ => N υ h2.2, fun q => absurd h2.1.symm q⟩)⟩)⟩
set_option maxRecDepth 20000 in
theorem g_matched {i : Int} (hd : 70 ≤ d) (hS : ∀ j, r32 (S j)) (hi : 0 ≤ i ∧ i + 6 ≤ L ∧ L ≤ 3072) (I : INV σ) (N : ∀ υ, INV υ → Ev (l, S, L) d mc ms m_law RTl 1300 [some (vS), some (vR 1), some (vR 189), some (vI i)] [] gW υ cs ss) : Ev (l, S, L) d mc ms m_law RTl 782 [some (vS), some (vR 1), some (vR 189), some (vI i)] [] gW σ cs ss := by
  refine jwp_sound t_law _ (b_law_782 ?_)
  dsimp only
  rw [w32_of (x := i + 1) (by omega) (by omega)]
  refine ⟨by omega, by omega, k19, cN_k (k_matched hd I (S (i + 1))) (fun z τ h => ⟨by omega, by omega, k20, cN_k h (fun y υ h2 => ⟨fun _ => N υ h2.2, fun q => absurd h2.1.symm q⟩)⟩)⟩
set_option maxRecDepth 20000 in
theorem g_slip {i : Int} (hd : 70 ≤ d) (hS : ∀ j, r32 (S j)) (hi : 0 ≤ i ∧ i + 6 ≤ L ∧ L ≤ 3072) (I : INV σ) (N : ∀ υ, INV υ → Ev (l, S, L) d mc ms m_law RTl 1300 [some (vS), some (vR 1), some (vR 189), some (vI i)] [] gW υ cs ss) : Ev (l, S, L) d mc ms m_law RTl 805 [some (vS), some (vR 1), some (vR 189), some (vI i)] [] gW σ cs ss := by
  refine jwp_sound t_law _ (b_law_805 ?_)
  dsimp only
  rw [w32_of (x := i + 1) (by omega) (by omega), w32_of (x := i + 2) (by omega) (by omega)]
  refine ⟨by omega, by omega, by omega, by omega, k19, cN_k (k_slip hd I (S (i + 1)) (S (i + 2))) (fun z τ h => ⟨by omega, by omega, by omega, by omega, k20, cN_k h (fun y υ h2 => ⟨fun _ => N υ h2.2, fun q => absurd h2.1.symm q⟩)⟩)⟩
set_option maxRecDepth 20000 in
theorem g_hand {i : Int} (hd : 70 ≤ d) (hS : ∀ j, r32 (S j)) (hi : 0 ≤ i ∧ i + 6 ≤ L ∧ L ≤ 3072) (I : INV σ) (N : ∀ υ, INV υ → Ev (l, S, L) d mc ms m_law RTl 1300 [some (vS), some (vR 1), some (vR 189), some (vI i)] [] gW υ cs ss) : Ev (l, S, L) d mc ms m_law RTl 838 [some (vS), some (vR 1), some (vR 189), some (vI i)] [] gW σ cs ss := by
  refine jwp_sound t_law _ (b_law_838 ?_)
  dsimp only
  rw [w32_of (x := i + 1) (by omega) (by omega), w32_of (x := i + 2) (by omega) (by omega)]
  refine ⟨by omega, by omega, by omega, by omega, k19, cN_k (k_hand hd I (S (i + 1)) (S (i + 2))) (fun z τ h => ⟨by omega, by omega, by omega, by omega, k20, cN_k h (fun y υ h2 => ⟨fun _ => N υ h2.2, fun q => absurd h2.1.symm q⟩)⟩)⟩
set_option maxRecDepth 20000 in
theorem g_copied {i : Int} (hd : 70 ≤ d) (hS : ∀ j, r32 (S j)) (hi : 0 ≤ i ∧ i + 6 ≤ L ∧ L ≤ 3072) (I : INV σ) (N : ∀ υ, INV υ → Ev (l, S, L) d mc ms m_law RTl 1300 [some (vS), some (vR 1), some (vR 189), some (vI i)] [] gW υ cs ss) : Ev (l, S, L) d mc ms m_law RTl 871 [some (vS), some (vR 1), some (vR 189), some (vI i)] [] gW σ cs ss := by
  refine jwp_sound t_law _ (b_law_871 ?_)
  dsimp only
  rw [w32_of (x := i + 1) (by omega) (by omega), w32_of (x := i + 2) (by omega) (by omega)]
  refine ⟨by omega, by omega, by omega, by omega, k19, cN_k (k_copied hd I (S (i + 1)) (S (i + 2))) (fun z τ h => ⟨by omega, by omega, by omega, by omega, k20, cN_k h (fun y υ h2 => ⟨fun _ => N υ h2.2, fun q => absurd h2.1.symm q⟩)⟩)⟩
set_option maxRecDepth 20000 in
theorem g_rank {i : Int} (hd : 70 ≤ d) (hS : ∀ j, r32 (S j)) (hi : 0 ≤ i ∧ i + 6 ≤ L ∧ L ≤ 3072) (I : INV σ) (N : ∀ υ, INV υ → Ev (l, S, L) d mc ms m_law RTl 1300 [some (vS), some (vR 1), some (vR 189), some (vI i)] [] gW υ cs ss) : Ev (l, S, L) d mc ms m_law RTl 904 [some (vS), some (vR 1), some (vR 189), some (vI i)] [] gW σ cs ss := by
  refine jwp_sound t_law _ (b_law_904 ?_)
  dsimp only
  rw [w32_of (x := i + 1) (by omega) (by omega)]
  refine ⟨by omega, by omega, k19, cN_k (k_rank hd I (S (i + 1))) (fun z τ h => ⟨by omega, by omega, k20, cN_k h (fun y υ h2 => ⟨fun _ => N υ h2.2, fun q => absurd h2.1.symm q⟩)⟩)⟩
set_option maxRecDepth 20000 in
theorem g_ranked {i : Int} (hd : 70 ≤ d) (hS : ∀ j, r32 (S j)) (hi : 0 ≤ i ∧ i + 6 ≤ L ∧ L ≤ 3072) (I : INV σ) (N : ∀ υ, INV υ → Ev (l, S, L) d mc ms m_law RTl 1300 [some (vS), some (vR 1), some (vR 189), some (vI i)] [] gW υ cs ss) : Ev (l, S, L) d mc ms m_law RTl 927 [some (vS), some (vR 1), some (vR 189), some (vI i)] [] gW σ cs ss := by
  refine jwp_sound t_law _ (b_law_927 ?_)
  dsimp only
  rw [w32_of (x := i + 1) (by omega) (by omega), w32_of (x := i + 2) (by omega) (by omega)]
  refine ⟨by omega, by omega, by omega, by omega, k19, cN_k (k_ranked hd I (S (i + 1)) (S (i + 2))) (fun z τ h => ⟨by omega, by omega, by omega, by omega, k20, cN_k h (fun y υ h2 => ⟨fun _ => N υ h2.2, fun q => absurd h2.1.symm q⟩)⟩)⟩
set_option maxRecDepth 20000 in
theorem g_begins {i : Int} (hd : 70 ≤ d) (hS : ∀ j, r32 (S j)) (hi : 0 ≤ i ∧ i + 6 ≤ L ∧ L ≤ 3072) (I : INV σ) (N : ∀ υ, INV υ → Ev (l, S, L) d mc ms m_law RTl 1300 [some (vS), some (vR 1), some (vR 189), some (vI i)] [] gW υ cs ss) : Ev (l, S, L) d mc ms m_law RTl 960 [some (vS), some (vR 1), some (vR 189), some (vI i)] [] gW σ cs ss := by
  refine jwp_sound t_law _ (b_law_960 ?_)
  dsimp only
  refine ⟨k19, cN_k (k_begins hd I ) (fun z τ h => ⟨k20, cN_k h (fun y υ h2 => ⟨fun _ => N υ h2.2, fun q => absurd h2.1.symm q⟩)⟩)⟩
set_option maxRecDepth 20000 in
theorem g_begun {i : Int} (hd : 70 ≤ d) (hS : ∀ j, r32 (S j)) (hi : 0 ≤ i ∧ i + 6 ≤ L ∧ L ≤ 3072) (I : INV σ) (N : ∀ υ, INV υ → Ev (l, S, L) d mc ms m_law RTl 1300 [some (vS), some (vR 1), some (vR 189), some (vI i)] [] gW υ cs ss) : Ev (l, S, L) d mc ms m_law RTl 973 [some (vS), some (vR 1), some (vR 189), some (vI i)] [] gW σ cs ss := by
  refine jwp_sound t_law _ (b_law_973 ?_)
  dsimp only
  rw [w32_of (x := i + 1) (by omega) (by omega)]
  refine ⟨by omega, by omega, k19, cN_k (k_begun hd I (S (i + 1))) (fun z τ h => ⟨by omega, by omega, k20, cN_k h (fun y υ h2 => ⟨fun _ => N υ h2.2, fun q => absurd h2.1.symm q⟩)⟩)⟩
set_option maxRecDepth 20000 in
theorem g_print {i : Int} (hd : 70 ≤ d) (hS : ∀ j, r32 (S j)) (hi : 0 ≤ i ∧ i + 6 ≤ L ∧ L ≤ 3072) (I : INV σ) (N : ∀ υ, INV υ → Ev (l, S, L) d mc ms m_law RTl 1300 [some (vS), some (vR 1), some (vR 189), some (vI i)] [] gW υ cs ss) : Ev (l, S, L) d mc ms m_law RTl 996 [some (vS), some (vR 1), some (vR 189), some (vI i)] [] gW σ cs ss := by
  refine jwp_sound t_law _ (b_law_996 ?_)
  dsimp only
  rw [w32_of (x := i + 1) (by omega) (by omega), w32_of (x := i + 2) (by omega) (by omega)]
  refine ⟨by omega, by omega, by omega, by omega, k19, cN_k (k_print hd I (S (i + 1)) (S (i + 2))) (fun z τ h => ⟨by omega, by omega, by omega, by omega, k20, cN_k h (fun y υ h2 => ⟨fun _ => N υ h2.2, fun q => absurd h2.1.symm q⟩)⟩)⟩
set_option maxRecDepth 20000 in
theorem g_page {i : Int} (hd : 70 ≤ d) (hS : ∀ j, r32 (S j)) (hi : 0 ≤ i ∧ i + 6 ≤ L ∧ L ≤ 3072) (I : INV σ) (N : ∀ υ, INV υ → Ev (l, S, L) d mc ms m_law RTl 1300 [some (vS), some (vR 1), some (vR 189), some (vI i)] [] gW υ cs ss) : Ev (l, S, L) d mc ms m_law RTl 1029 [some (vS), some (vR 1), some (vR 189), some (vI i)] [] gW σ cs ss := by
  refine jwp_sound t_law _ (b_law_1029 ?_)
  dsimp only
  rw [w32_of (x := i + 1) (by omega) (by omega)]
  refine ⟨by omega, by omega, k19, cN_k (k_page hd I (S (i + 1))) (fun z τ h => ⟨by omega, by omega, k20, cN_k h (fun y υ h2 => ⟨fun _ => N υ h2.2, fun q => absurd h2.1.symm q⟩)⟩)⟩
set_option maxRecDepth 20000 in
theorem g_count {i : Int} (hd : 70 ≤ d) (hS : ∀ j, r32 (S j)) (hi : 0 ≤ i ∧ i + 6 ≤ L ∧ L ≤ 3072) (I : INV σ) (N : ∀ υ, INV υ → Ev (l, S, L) d mc ms m_law RTl 1300 [some (vS), some (vR 1), some (vR 189), some (vI i)] [] gW υ cs ss) : Ev (l, S, L) d mc ms m_law RTl 1052 [some (vS), some (vR 1), some (vR 189), some (vI i)] [] gW σ cs ss := by
  refine jwp_sound t_law _ (b_law_1052 ?_)
  dsimp only
  rw [w32_of (x := i + 1) (by omega) (by omega)]
  refine ⟨by omega, by omega, k19, cN_k (k_count hd I (S (i + 1))) (fun z τ h => ⟨by omega, by omega, k20, cN_k h (fun y υ h2 => ⟨fun _ => N υ h2.2, fun q => absurd h2.1.symm q⟩)⟩)⟩
set_option maxRecDepth 20000 in
theorem g_keep {i : Int} (hd : 70 ≤ d) (hS : ∀ j, r32 (S j)) (hi : 0 ≤ i ∧ i + 6 ≤ L ∧ L ≤ 3072) (I : INV σ) (N : ∀ υ, INV υ → Ev (l, S, L) d mc ms m_law RTl 1300 [some (vS), some (vR 1), some (vR 189), some (vI i)] [] gW υ cs ss) : Ev (l, S, L) d mc ms m_law RTl 1075 [some (vS), some (vR 1), some (vR 189), some (vI i)] [] gW σ cs ss := by
  refine jwp_sound t_law _ (b_law_1075 ?_)
  dsimp only
  rw [w32_of (x := i + 1) (by omega) (by omega)]
  refine ⟨by omega, by omega, k19, cN_k (k_keep hd I (S (i + 1))) (fun z τ h => ⟨by omega, by omega, k20, cN_k h (fun y υ h2 => ⟨fun _ => N υ h2.2, fun q => absurd h2.1.symm q⟩)⟩)⟩
set_option maxRecDepth 20000 in
theorem g_back {i : Int} (hd : 70 ≤ d) (hS : ∀ j, r32 (S j)) (hi : 0 ≤ i ∧ i + 6 ≤ L ∧ L ≤ 3072) (I : INV σ) (N : ∀ υ, INV υ → Ev (l, S, L) d mc ms m_law RTl 1300 [some (vS), some (vR 1), some (vR 189), some (vI i)] [] gW υ cs ss) : Ev (l, S, L) d mc ms m_law RTl 1098 [some (vS), some (vR 1), some (vR 189), some (vI i)] [] gW σ cs ss := by
  refine jwp_sound t_law _ (b_law_1098 ?_)
  dsimp only
  rw [w32_of (x := i + 1) (by omega) (by omega)]
  refine ⟨by omega, by omega, k19, cN_k (k_back hd I (S (i + 1))) (fun z τ h => ⟨by omega, by omega, k20, cN_k h (fun y υ h2 => ⟨fun _ => N υ h2.2, fun q => absurd h2.1.symm q⟩)⟩)⟩
set_option maxRecDepth 20000 in
theorem g_row {i : Int} (hd : 70 ≤ d) (hS : ∀ j, r32 (S j)) (hi : 0 ≤ i ∧ i + 6 ≤ L ∧ L ≤ 3072) (I : INV σ) (N : ∀ υ, INV υ → Ev (l, S, L) d mc ms m_law RTl 1300 [some (vS), some (vR 1), some (vR 189), some (vI i)] [] gW υ cs ss) : Ev (l, S, L) d mc ms m_law RTl 1121 [some (vS), some (vR 1), some (vR 189), some (vI i)] [] gW σ cs ss := by
  refine jwp_sound t_law _ (b_law_1121 ?_)
  dsimp only
  rw [w32_of (x := i + 1) (by omega) (by omega), w32_of (x := i + 2) (by omega) (by omega), w32_of (x := i + 3) (by omega) (by omega)]
  refine ⟨by omega, by omega, by omega, by omega, by omega, by omega, k19, cN_k (k_row hd I (S (i + 1)) (S (i + 2)) (S (i + 3))) (fun z τ h => ⟨by omega, by omega, by omega, by omega, by omega, by omega, k20, cN_k h (fun y υ h2 => ⟨fun _ => N υ h2.2, fun q => absurd h2.1.symm q⟩)⟩)⟩
set_option maxRecDepth 20000 in
theorem g_write {i : Int} (hd : 70 ≤ d) (hS : ∀ j, r32 (S j)) (hi : 0 ≤ i ∧ i + 6 ≤ L ∧ L ≤ 3072) (I : INV σ) (N : ∀ υ, INV υ → Ev (l, S, L) d mc ms m_law RTl 1300 [some (vS), some (vR 1), some (vR 189), some (vI i)] [] gW υ cs ss) : Ev (l, S, L) d mc ms m_law RTl 1164 [some (vS), some (vR 1), some (vR 189), some (vI i)] [] gW σ cs ss := by
  refine jwp_sound t_law _ (b_law_1164 ?_)
  dsimp only
  rw [w32_of (x := i + 1) (by omega) (by omega), w32_of (x := i + 2) (by omega) (by omega), w32_of (x := i + 3) (by omega) (by omega), w32_of (x := i + 4) (by omega) (by omega)]
  refine ⟨by omega, by omega, by omega, by omega, by omega, by omega, by omega, by omega, k19, cN_k (k_write hd I (S (i + 1)) (S (i + 2)) _ (jor64_r _ _)) (fun z τ h => ⟨by omega, by omega, by omega, by omega, by omega, by omega, by omega, by omega, k20, cN_k h (fun y υ h2 => ⟨fun _ => N υ h2.2, fun q => absurd h2.1.symm q⟩)⟩)⟩
set_option maxRecDepth 20000 in
theorem g_paste {i : Int} (hd : 70 ≤ d) (hS : ∀ j, r32 (S j)) (hi : 0 ≤ i ∧ i + 6 ≤ L ∧ L ≤ 3072) (I : INV σ) (N : ∀ υ, INV υ → Ev (l, S, L) d mc ms m_law RTl 1300 [some (vS), some (vR 1), some (vR 189), some (vI i)] [] gW υ cs ss) : Ev (l, S, L) d mc ms m_law RTl 1237 [some (vS), some (vR 1), some (vR 189), some (vI i)] [] gW σ cs ss := by
  refine jwp_sound t_law _ (b_law_1237 ?_)
  dsimp only
  rw [w32_of (x := i + 1) (by omega) (by omega), w32_of (x := i + 2) (by omega) (by omega), w32_of (x := i + 3) (by omega) (by omega), w32_of (x := i + 4) (by omega) (by omega), w32_of (x := i + 5) (by omega) (by omega)]
  refine ⟨by omega, by omega, by omega, by omega, by omega, by omega, by omega, by omega, by omega, by omega, k19, cN_k (k_paste hd I (S (i + 1)) (S (i + 2)) (S (i + 3)) (S (i + 4)) (S (i + 5)) ⟨hS _, hS _, hS _⟩) (fun z τ h => ⟨by omega, by omega, by omega, by omega, by omega, by omega, by omega, by omega, by omega, by omega, k20, cN_k h (fun y υ h2 => ⟨fun _ => N υ h2.2, fun q => absurd h2.1.symm q⟩)⟩)⟩
set_option maxRecDepth 20000 in
theorem l_law (hd : 70 ≤ d) (hS : ∀ j, r32 (S j)) (hL : 0 ≤ L ∧ L ≤ 3072) : ∀ (k : Nat) (i : Int) (σ : jH), 0 ≤ i → i ≤ L + 6 → L ≤ i + 6 * k → INV σ → Ev (l, S, L) d mc ms m_law RTl 18 [some (vS), some (vR 1), some (vR 189), some (vI i)] [] gW σ cs ss
  | 0, i, σ, h0, h1, h2, I => by
    refine jwp_sound t_law _ (b_law_18 ?_)
    dsimp only
    rw [w32_of (x := L - 6) (by omega) (by omega)]
    exact ⟨fun _ => ⟨Or.inr rfl, rfl⟩, fun q => absurd q (by omega)⟩
  | k + 1, i, σ, h0, h1, h2, I => by
    refine jwp_sound t_law _ (b_law_18 ?_)
    dsimp only
    rw [w32_of (x := L - 6) (by omega) (by omega)]
    refine ⟨fun _ => ⟨Or.inr rfl, rfl⟩, fun q => ?_⟩
    have hi : 0 ≤ i ∧ i + 6 ≤ L ∧ L ≤ 3072 := by
      have q' : i ≤ L - 6 := q
      omega
    have N : ∀ υ, INV υ → Ev (l, S, L) d mc ms m_law RTl 1300 [some (vS), some (vR 1), some (vR 189), some (vI i)] [] gW υ cs ss := fun υ J => by
      refine jwp_sound t_law _ (b_law_1300 ?_)
      rw [w32_of (x := i + 6) (by omega) (by omega)]
      exact l_law hd hS hL k (i + 6) υ (by omega) (by omega) (by omega) J
    refine ⟨by omega, by show i < L; omega, fun _ => ?_, fun _ => g_feed hd hS hi I N, fun _ => g_end hd hS hi I N, fun _ => g_rules hd hS hi I N, fun _ => g_fault hd hS hi I N, fun _ => g_line hd hS hi I N, fun _ => g_right hd hS hi I N, fun _ => g_lineOf hd hS hi I N, fun _ => g_edition hd hS hi I N, fun _ => g_word hd hS hi I N, fun _ => g_forms hd hS hi I N, fun _ => g_form hd hS hi I N, fun _ => g_ordered hd hS hi I N, fun _ => g_ask hd hS hi I N, fun _ => g_answer hd hS hi I N, fun _ => g_stands hd hS hi I N, fun _ => g_pack hd hS hi I N, fun _ => g_room hd hS hi I N, fun _ => g_shares hd hS hi I N, fun _ => g_share hd hS hi I N, fun _ => g_alike hd hS hi I N, fun _ => g_matched hd hS hi I N, fun _ => g_slip hd hS hi I N, fun _ => g_hand hd hS hi I N, fun _ => g_copied hd hS hi I N, fun _ => g_rank hd hS hi I N, fun _ => g_ranked hd hS hi I N, fun _ => g_begins hd hS hi I N, fun _ => g_begun hd hS hi I N, fun _ => g_print hd hS hi I N, fun _ => g_page hd hS hi I N, fun _ => g_count hd hS hi I N, fun _ => g_keep hd hS hi I N, fun _ => g_back hd hS hi I N, fun _ => g_row hd hS hi I N, fun _ => g_write hd hS hi I N, fun _ => g_paste hd hS hi I N, trivial⟩
    exact N σ I
end L6
