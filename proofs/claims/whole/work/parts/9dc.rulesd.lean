/-! RULES are read: the reference, the plain row and FOLD -/
def EQR (f ρ : Int → Int) : Prop := ∀ j, 0 ≤ j → j < 2597 → j ≠ 3 → j ≠ 4 → f j = ρ j
theorem EQR.wd {f ρ t : Int → Int} {n p A : Int} (E : EQR f ρ) : EQR (wrd f A t n p) (wrd ρ A t n p) := fun j a b c e => by
  unfold wrd slw
  rw [E j a b c e]
theorem EQR.upd {f ρ : Int → Int} {A v : Int} (E : EQR f ρ) : EQR (up f A v) (up ρ A v) := fun j a b c e => by
  unfold up
  rw [E j a b c e]
theorem ju_upr {σ : jH} {c a v : Int} : ju σ c a v c = up (σ c) a v := by
  funext j
  unfold up
  by_cases q : j = a
  · rw [if_pos q, q, ju_self]
  · rw [if_neg q, ju_ne2 q]
def FMR (σ τ : jH) : Prop := (∀ c, c ≠ 189 → c ≠ 204 → τ c = σ c) ∧ ∀ j, (j < 18 ∨ 25 < j ∨ j = 24) → τ 189 j = σ 189 j
theorem FMR.tr {σ τ υ : jH} (h : FMR σ τ) (h' : FMR τ υ) : FMR σ υ := ⟨fun c a b => (h'.1 c a b).trans (h.1 c a b), fun j hj => (h'.2 j hj).trans (h.2 j hj)⟩
theorem FTR2.fmr {σ τ : jH} (h : FTR2 σ τ) : FMR σ τ := ⟨fun c a _ => h.1 c a, fun j hj => h.2 j (by omega) (by omega) (by omega) (by omega)⟩
def MRS (σ τ : jH) (t : Int → Int) (n : Int) (R : RS) : Prop := FMR σ τ ∧ ((R.1 = 0 ∧ τ 189 22 = 0 ∧ τ 189 23 = σ 189 23 ∧ (0 ≤ R.2.2.1 ∧ R.2.2.1 ≤ n) ∧ TKR τ t n R.2.2.1 ∧ EQR (τ 204) R.2.2.2.1 ∧ τ 189 25 = b2i R.2.2.2.2) ∨ (R.1 ≠ 0 ∧ τ 189 22 = R.1 ∧ τ 189 23 = R.2.1))
section RE
variable {l : Launch} {d : Nat} {t : Int → Int} {σ : jH} {n p : Int} {ρ : Int → Int} {ho : Bool}
theorem wr_22 {x s : Int} : WR σ x s 189 22 = x := by
  unfold WR
  rw [ju_ne2 (by omega), ju_self]
theorem wr_23 {x s : Int} : WR σ x s 189 23 = s := by
  unfold WR
  rw [ju_self]
theorem wr_fmr {x s : Int} : FMR σ (WR σ x s) := ⟨fun c a _ => WR_row a, fun j hj => by
  unfold WR
  rw [ju_ne2 (by omega), ju_ne2 (by omega)]⟩
theorem mrs_wr {x s : Int} (hx : x ≠ 0) : MRS σ (WR σ x s) t n (rBD x s) := ⟨wr_fmr, Or.inr ⟨hx, wr_22, wr_23⟩⟩
theorem MRS.pre {σ' τ : jH} {R : RS} (F : FMR σ σ') (h : σ' 189 23 = σ 189 23) (M : MRS σ' τ t n R) : MRS σ τ t n R := by
  obtain ⟨a, b⟩ := M
  rw [h] at b
  exact ⟨F.tr a, b⟩
theorem TP2.fmr {τ : jH} (T : TP2 σ t n) (F : FMR σ τ) : TP2 τ t n := by
  unfold TP2
  rw [F.1 202 (by omega) (by omega)]
  exact T
theorem l_mpl_37 (hd : 10 ≤ d) (ω : Int → Int) (V0 : ∀ j, 0 ≤ j → j < 2597 → j ≠ 3 → j ≠ 4 → σ 204 j = 0) : ∀ (k i : Nat) (τ : jH), i + k = 26 → (∀ c, c ≠ 204 → τ c = σ c) → (∀ j, τ 204 j = if 5 ≤ j ∧ j < 5 + (i : Int) then -1 else if 31 ≤ j ∧ j < 31 + (i : Int) then j - 31 else σ 204 j) →
    Ev (l, (fun _ => 0), 0) d 0 0 m_Model_plain (RW fun _ τ => (∀ c, c ≠ 204 → τ c = σ c) ∧ EQR (τ 204) (plainR ω)) 37 [some (vR 204), some (vI i)] [] gW τ 0 0
  | 0, i, τ, hk, F, V => by
    have e : i = 26 := by omega
    subst e
    refine jwp_sound t_Model_plain _ (b_Model_plain_37 ?_)
    refine ⟨fun _ => ⟨rfl, F, fun j a b c e => ?_⟩, fun x => absurd x (by omega)⟩
    rw [V j]
    unfold plainR
    by_cases q : 5 ≤ j ∧ j < 31
    · rw [if_pos q, if_pos (by omega)]
    · rw [if_neg q, if_neg (by omega)]
      by_cases q2 : 31 ≤ j ∧ j < 57
      · rw [if_pos q2, if_pos (by omega)]
      · rw [if_neg q2, if_neg (by omega), if_pos ⟨a, b⟩, if_neg (by omega)]
        exact V0 j a b c e
  | k + 1, i, τ, hk, F, V => by
    refine jwp_sound t_Model_plain _ (b_Model_plain_37 ?_)
    simp only [RW, true_and, and_true, and_self, true_or, or_true, Nat.reduceLeDiff, Nat.reduceEqDiff, Nat.reduceAdd, Int.reduceLE, Int.reduceLT, Int.reduceEq, Int.reduceNeg, Int.reduceNe, Nat.reduceSub, reduceIte, implies_true, gt_204]
    rw [w32_of (x := 5 + (i : Int)) (by omega) (by omega), w32_of (x := 31 + (i : Int)) (by omega) (by omega), w32_of (x := (i : Int) + 1) (by omega) (by omega)]
    refine ⟨fun x => absurd x (by omega), fun _ => ?_⟩
    repeat (refine And.intro (by omega) ?_)
    have IH := l_mpl_37 hd ω V0 k (i + 1) (ju (ju τ 204 (5 + i) (-1)) 204 (31 + i) i) (by omega) (fun c hc => by rw [ju_row hc, ju_row hc, F c hc]) (fun j => by
      by_cases q : j = 31 + i
      · rw [q, ju_self, if_neg (by omega), if_pos (by omega)]
        omega
      · rw [ju_ne2 q]
        by_cases q2 : j = 5 + i
        · rw [q2, ju_self, if_pos (by omega)]
        · rw [ju_ne2 q2, V j]
          by_cases x : 5 ≤ j ∧ j < 5 + (i : Int)
          · rw [if_pos x, if_pos (by omega)]
          · rw [if_neg x, if_neg (show ¬ (5 ≤ j ∧ j < 5 + ((i + 1 : Nat) : Int)) by omega)]
            by_cases y : 31 ≤ j ∧ j < 31 + (i : Int)
            · rw [if_pos y, if_pos (by omega)]
            · rw [if_neg y, if_neg (by omega)])
    rw [show ((i + 1 : Nat) : Int) = (i : Int) + 1 by omega] at IH
    exact IH
theorem l_mpl_2 (hd : 10 ≤ d) (ω : Int → Int) : ∀ (k i : Nat) (τ : jH), i + k = 2597 → (∀ c, c ≠ 204 → τ c = σ c) → (∀ j : Int, 0 ≤ j → j < i → j ≠ 3 → j ≠ 4 → τ 204 j = 0) →
    Ev (l, (fun _ => 0), 0) d 0 0 m_Model_plain (RW fun _ τ => (∀ c, c ≠ 204 → τ c = σ c) ∧ EQR (τ 204) (plainR ω)) 2 [some (vR 204), some (vI i)] [] gW τ 0 0
  | 0, i, τ, hk, F, V => by
    have e : i = 2597 := by omega
    subst e
    refine jwp_sound t_Model_plain _ (b_Model_plain_2 ?_)
    refine ⟨fun _ => ?_, fun x => absurd x (by omega)⟩
    have go := l_mpl_37 (l := l) (σ := τ) hd ω (fun j a b c e => V j a (by omega) c e) 26 0 τ rfl (fun _ _ => rfl) (fun j => by rw [if_neg (by omega), if_neg (by omega)])
    exact Ev_post go (fun _ υ h => ⟨fun c hc => (h.1 c hc).trans (F c hc), h.2⟩)
  | k + 1, i, τ, hk, F, V => by
    have go : ∀ v, (3 ≤ (i : Int) ∧ (i : Int) < 5) ∨ v = 0 → Ev (l, (fun _ => 0), 0) d 0 0 m_Model_plain (RW fun _ τ => (∀ c, c ≠ 204 → τ c = σ c) ∧ EQR (τ 204) (plainR ω)) 2 [some (vR 204), some (vI (i + 1))] [] gW (ju τ 204 i v) 0 0 := fun v hv => by
      have IH := l_mpl_2 hd ω k (i + 1) (ju τ 204 i v) (by omega) (fun c hc => by rw [ju_row hc, F c hc]) (fun j a b c e => by
        by_cases q : j = i
        · rw [q, ju_self]
          omega
        · rw [ju_ne2 q]
          exact V j a (by omega) c e)
      rw [show ((i + 1 : Nat) : Int) = (i : Int) + 1 by omega] at IH
      exact IH
    refine jwp_sound t_Model_plain _ (b_Model_plain_2 ?_)
    simp only [RW, true_and, and_true, and_self, true_or, or_true, Nat.reduceLeDiff, Nat.reduceEqDiff, Nat.reduceAdd, Int.reduceLE, Int.reduceLT, Int.reduceEq, Int.reduceNeg, Int.reduceNe, Nat.reduceSub, reduceIte, implies_true, gt_204]
    rw [w32_of (x := (i : Int) + 1) (by omega) (by omega)]
    refine ⟨fun x => absurd x (by omega), fun _ => ⟨fun a => ⟨by omega, by omega, go 0 (Or.inr rfl)⟩, fun a => ⟨fun b => ⟨by omega, by omega, go 0 (Or.inr rfl)⟩, fun b => ⟨by omega, by omega, by omega, by omega, go _ (Or.inl ⟨a, b⟩)⟩⟩⟩⟩
theorem c_Model_plain (ω : Int → Int) (σ : jH) : Cw 10 m_Model_plain [vR 204] σ (fun _ τ => (∀ c, c ≠ 204 → τ c = σ c) ∧ EQR (τ 204) (plainR ω)) := by
  refine Cw_of o_Model_plain rfl fun l d hd => jwp_sound t_Model_plain _ (b_Model_plain_0 ?_)
  exact l_mpl_2 hd ω 2597 0 σ rfl (fun _ _ => rfl) (fun j a b => by omega)
end RE
