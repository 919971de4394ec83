/-! Constructors: worlds that grow, as lists -/
abbrev jL : Type := Nat × List (Int × Int × Nat × Int) × List (Nat × Int × Int × Int)
def lkK : List (Int × Int × Nat × Int) → Int → Nat × Int
  | [], _ => (0, 0)
  | e :: ks, o => if e.1 ≤ o ∧ o ≤ e.2.1 then e.2.2 else lkK ks o
def lkR : List (Nat × Int × Int × Int) → Int → Int → Int
  | [], _, _ => 0
  | e :: rs, o, j => if e.1 = 0 then (if e.2.1 ≤ o ∧ o ≤ e.2.2.1 then 0 else lkR rs o j) else if e.1 = 1 then (if o = e.2.1 ∧ j = e.2.2.1 then e.2.2.2 else lkR rs o j) else (if o = e.2.1 then e.2.2.2 + j else lkR rs o j)
def toG (w : jL) : jG := (w.1, lkK w.2.1, lkR w.2.2)
def nL (w : jL) (k : Nat) (n : Int) : jL := (w.1 + 1, (((w.1 + 1 : Nat) : Int), ((w.1 + 1 : Nat) : Int), k, n) :: w.2.1, (0, ((w.1 + 1 : Nat) : Int), ((w.1 + 1 : Nat) : Int), 0) :: w.2.2)
def pL (w : jL) (o j v : Int) : jL := (w.1, w.2.1, (1, o, j, v) :: w.2.2)
def gdL (w : jL) (k k2 : Nat) (n m : Int) : jL := (w.1 + 1 + n.toNat, (((w.1 + 1 : Nat) : Int), ((w.1 + 1 : Nat) : Int), k, n) :: (((w.1 + 1 : Nat) : Int) + 1, ((w.1 + 1 : Nat) : Int) + n, k2, m) :: w.2.1, (2, ((w.1 + 1 : Nat) : Int), 0, ((w.1 + 1 : Nat) : Int) + 1) :: (0, ((w.1 + 1 : Nat) : Int) + 1, ((w.1 + 1 : Nat) : Int) + n, 0) :: w.2.2)
def nf (w : jL) (o j : Int) (k : Nat) (n : Int) : jL := pL (nL w k n) o j ((w.1 + 1 : Nat) : Int)
def cf (f : Int → jL → jL) (w : jL) (o j : Int) (k : Nat) (n : Int) : jL := pL (f ((w.1 + 1 : Nat) : Int) (nL w k n)) o j ((w.1 + 1 : Nat) : Int)
def Zb (n : Nat) (σ : jH) : Prop := ∀ c j : Int, (n : Int) < c → σ c j = 0
/-- an object of a kind under construction -/
def CS (K : Nat) (o : Int) (w : jL) (σ : jH) : Prop := 0 < o ∧ o ≤ w.1 ∧ ((toG w).2.1 o).1 = K ∧ Zb w.1 σ
def EXL (o : Int) (w w' : jL) : Prop := w.1 ≤ w'.1 ∧ (∀ q : Int, q ≤ w.1 → (toG w').2.1 q = (toG w).2.1 q) ∧ ∀ q j : Int, q ≤ w.1 → q ≠ o → (toG w').2.2 q j = (toG w).2.2 q j
section CT
variable {w w' : jL} {k k2 K : Nat} {n m o j v : Int} {σ τ : jH} {f : Int → jL → jL}
theorem hm_n : jnewG (toG w) k n = toG (nL w k n) := by
  have h1 : (fun q : Int => if q = ((w.1 + 1 : Nat) : Int) then (k, n) else lkK w.2.1 q) = lkK (nL w k n).2.1 := by
    funext q
    show _ = if ((w.1 + 1 : Nat) : Int) ≤ q ∧ q ≤ ((w.1 + 1 : Nat) : Int) then (k, n) else lkK w.2.1 q
    by_cases g : q = ((w.1 + 1 : Nat) : Int)
    · rw [if_pos g, if_pos (by omega)]
    · rw [if_neg g, if_neg (by omega)]
  have h2 : (fun q i : Int => if q = ((w.1 + 1 : Nat) : Int) then 0 else lkR w.2.2 q i) = lkR (nL w k n).2.2 := by
    funext q i
    show _ = if ((w.1 + 1 : Nat) : Int) ≤ q ∧ q ≤ ((w.1 + 1 : Nat) : Int) then 0 else lkR w.2.2 q i
    by_cases g : q = ((w.1 + 1 : Nat) : Int)
    · rw [if_pos g, if_pos (by omega)]
    · rw [if_neg g, if_neg (by omega)]
  show ((w.1 + 1, _, _) : jG) = (w.1 + 1, _, _)
  rw [← h1, ← h2]
  rfl
theorem hm_p : (((toG w).1, (toG w).2.1, ju (toG w).2.2 o j v) : jG) = toG (pL w o j v) := by
  have h : ju (lkR w.2.2) o j v = lkR (pL w o j v).2.2 := by
    funext q i
    rfl
  show ((w.1, lkK w.2.1, ju (lkR w.2.2) o j v) : jG) = (w.1, lkK w.2.1, _)
  rw [h]
theorem hm_nf : (((jnewG (toG w) k n).1, (jnewG (toG w) k n).2.1, ju (jnewG (toG w) k n).2.2 o j (((toG w).1 + 1 : Nat) : Int)) : jG) = toG (nf w o j k n) := by
  rw [hm_n, hm_p]
  rfl
theorem hm_g (hn : 0 ≤ n) : jgridG (toG w) k k2 n m = toG (gdL w k k2 n m) := by
  have h1 : (fun q : Int => if q = ((w.1 + 1 : Nat) : Int) then (k, n) else if ((w.1 + 1 : Nat) : Int) < q ∧ q ≤ ((w.1 + 1 : Nat) : Int) + n then (k2, m) else lkK w.2.1 q) = lkK (gdL w k k2 n m).2.1 := by
    funext q
    show _ = if ((w.1 + 1 : Nat) : Int) ≤ q ∧ q ≤ ((w.1 + 1 : Nat) : Int) then (k, n) else if ((w.1 + 1 : Nat) : Int) + 1 ≤ q ∧ q ≤ ((w.1 + 1 : Nat) : Int) + n then (k2, m) else lkK w.2.1 q
    by_cases g : q = ((w.1 + 1 : Nat) : Int)
    · rw [if_pos g, if_pos (by omega)]
    · rw [if_neg g, if_neg (show ¬ (((w.1 + 1 : Nat) : Int) ≤ q ∧ q ≤ ((w.1 + 1 : Nat) : Int)) by omega)]
      by_cases g2 : ((w.1 + 1 : Nat) : Int) < q ∧ q ≤ ((w.1 + 1 : Nat) : Int) + n
      · rw [if_pos g2, if_pos (by omega)]
      · rw [if_neg g2, if_neg (by omega)]
  have h2 : (fun q i : Int => if q = ((w.1 + 1 : Nat) : Int) then ((w.1 + 1 : Nat) : Int) + 1 + i else if ((w.1 + 1 : Nat) : Int) < q ∧ q ≤ ((w.1 + 1 : Nat) : Int) + n then 0 else lkR w.2.2 q i) = lkR (gdL w k k2 n m).2.2 := by
    funext q i
    show _ = if q = ((w.1 + 1 : Nat) : Int) then ((w.1 + 1 : Nat) : Int) + 1 + i else if ((w.1 + 1 : Nat) : Int) + 1 ≤ q ∧ q ≤ ((w.1 + 1 : Nat) : Int) + n then 0 else lkR w.2.2 q i
    by_cases g : q = ((w.1 + 1 : Nat) : Int)
    · rw [if_pos g, if_pos g]
    · rw [if_neg g, if_neg g]
      by_cases g2 : ((w.1 + 1 : Nat) : Int) < q ∧ q ≤ ((w.1 + 1 : Nat) : Int) + n
      · rw [if_pos g2, if_pos (by omega)]
      · rw [if_neg g2, if_neg (by omega)]
  show ((w.1 + 1 + n.toNat, _, _) : jG) = (w.1 + 1 + n.toNat, _, _)
  rw [← h1, ← h2]
  rfl
theorem Zb.up {a b : Nat} (h : Zb a σ) (hab : a ≤ b) : Zb b σ := fun c j hc => h c j (by omega)
theorem jnewH_z (h : Zb w.1 σ) : jnewH (toG w) σ = σ := by
  funext q i
  unfold jnewH
  by_cases g : q = (((toG w).1 + 1 : Nat) : Int)
  · rw [if_pos g]
    exact (h q i (by
      have e : (toG w).1 = w.1 := rfl
      omega)).symm
  · rw [if_neg g]
theorem jgridH_z (h : Zb w.1 σ) : jgridH (toG w) σ n = σ := by
  funext q i
  unfold jgridH
  by_cases g : (((toG w).1 + 1 : Nat) : Int) ≤ q ∧ q ≤ (((toG w).1 + 1 : Nat) : Int) + n
  · rw [if_pos g]
    exact (h q i (by
      have e : (toG w).1 = w.1 := rfl
      omega)).symm
  · rw [if_neg g]
theorem ju_z (h : σ o j = 0) : ju σ o j 0 = σ := by
  funext q i
  unfold ju
  by_cases g : q = o ∧ i = j
  · rw [if_pos g, g.1, g.2, h]
  · rw [if_neg g]
theorem nL_k {q : Int} (h : q ≤ w.1) : (toG (nL w k n)).2.1 q = (toG w).2.1 q := by
  show (if ((w.1 + 1 : Nat) : Int) ≤ q ∧ q ≤ ((w.1 + 1 : Nat) : Int) then (k, n) else lkK w.2.1 q) = lkK w.2.1 q
  rw [if_neg (by omega)]
theorem nL_s : (toG (nL w k n)).2.1 ((w.1 + 1 : Nat) : Int) = (k, n) := by
  show (if ((w.1 + 1 : Nat) : Int) ≤ ((w.1 + 1 : Nat) : Int) ∧ ((w.1 + 1 : Nat) : Int) ≤ ((w.1 + 1 : Nat) : Int) then (k, n) else lkK w.2.1 _) = (k, n)
  rw [if_pos (by omega)]
theorem nL_r {q i : Int} (h : q ≤ w.1) : (toG (nL w k n)).2.2 q i = (toG w).2.2 q i := by
  show (if ((w.1 + 1 : Nat) : Int) ≤ q ∧ q ≤ ((w.1 + 1 : Nat) : Int) then 0 else lkR w.2.2 q i) = lkR w.2.2 q i
  rw [if_neg (by omega)]
theorem pL_r {q i : Int} (h : q ≠ o ∨ i ≠ j) : (toG (pL w o j v)).2.2 q i = (toG w).2.2 q i := by
  show (if q = o ∧ i = j then v else lkR w.2.2 q i) = lkR w.2.2 q i
  rw [if_neg (by omega)]
theorem pL_s : (toG (pL w o j v)).2.2 o j = v := by
  show (if o = o ∧ j = j then v else lkR w.2.2 o j) = v
  rw [if_pos ⟨rfl, rfl⟩]
theorem pL_k {q : Int} : (toG (pL w o j v)).2.1 q = (toG w).2.1 q := rfl
theorem gdL_k {q : Int} (h : q ≤ w.1) : (toG (gdL w k k2 n m)).2.1 q = (toG w).2.1 q := by
  show (if ((w.1 + 1 : Nat) : Int) ≤ q ∧ q ≤ ((w.1 + 1 : Nat) : Int) then (k, n) else if ((w.1 + 1 : Nat) : Int) + 1 ≤ q ∧ q ≤ ((w.1 + 1 : Nat) : Int) + n then (k2, m) else lkK w.2.1 q) = lkK w.2.1 q
  rw [if_neg (by omega), if_neg (by omega)]
theorem gdL_r {q i : Int} (h : q ≤ w.1) : (toG (gdL w k k2 n m)).2.2 q i = (toG w).2.2 q i := by
  show (if q = ((w.1 + 1 : Nat) : Int) then ((w.1 + 1 : Nat) : Int) + 1 + i else if ((w.1 + 1 : Nat) : Int) + 1 ≤ q ∧ q ≤ ((w.1 + 1 : Nat) : Int) + n then 0 else lkR w.2.2 q i) = lkR w.2.2 q i
  rw [if_neg (by omega), if_neg (by omega)]
theorem nf_k {q : Int} (h : q ≤ w.1) : (toG (nf w o j k n)).2.1 q = (toG w).2.1 q := nL_k h
theorem nf_r {q i : Int} (h : q ≤ w.1) (h2 : q ≠ o ∨ i ≠ j) : (toG (nf w o j k n)).2.2 q i = (toG w).2.2 q i := (pL_r h2).trans (nL_r h)
theorem nf_s : (toG (nf w o j k n)).2.2 o j = ((w.1 + 1 : Nat) : Int) := pL_s
theorem ex_rf : EXL o w w := ⟨Nat.le_refl _, fun _ _ => rfl, fun _ _ _ _ => rfl⟩
theorem ex_pL (h : EXL o w w') : EXL o w (pL w' o j v) := ⟨h.1, h.2.1, fun q i a b => (pL_r (Or.inl b)).trans (h.2.2 q i a b)⟩
theorem ex_nf (h : EXL o w w') : EXL o w (nf w' o j k n) := ⟨Nat.le_trans h.1 (Nat.le_succ _), fun q a => (nf_k (by have := h.1; omega)).trans (h.2.1 q a), fun q i a b => (nf_r (by have := h.1; omega) (Or.inl b)).trans (h.2.2 q i a b)⟩
theorem ex_gd (hn : 0 ≤ n) (h : EXL o w w') : EXL o w (pL (gdL w' k k2 n m) o j v) := ⟨Nat.le_trans h.1 (by show w'.1 ≤ w'.1 + 1 + n.toNat; omega), fun q a => (gdL_k (by have := h.1; omega)).trans (h.2.1 q a), fun q i a b => ((pL_r (Or.inl b)).trans (gdL_r (by have := h.1; omega))).trans (h.2.2 q i a b)⟩
theorem ex_n (h : EXL o w w') : EXL o w (nL w' k n) := ⟨Nat.le_trans h.1 (Nat.le_succ _), fun q a => (nL_k (by have := h.1; omega)).trans (h.2.1 q a), fun q i a b => (nL_r (by have := h.1; omega)).trans (h.2.2 q i a b)⟩
/-- behind a call -/
theorem ex_in (h : EXL o w w') (hf : EXL ((w'.1 + 1 : Nat) : Int) (nL w' k n) (f ((w'.1 + 1 : Nat) : Int) (nL w' k n))) : EXL o w (f ((w'.1 + 1 : Nat) : Int) (nL w' k n)) := by
  have h1 := h.1
  have h2 : w'.1 + 1 ≤ (f ((w'.1 + 1 : Nat) : Int) (nL w' k n)).1 := hf.1
  refine ⟨by omega, fun q a => ?_, fun q i a b => ?_⟩
  · rw [hf.2.1 q (by show q ≤ ((w'.1 + 1 : Nat) : Int); omega), nL_k (by omega)]
    exact h.2.1 q a
  · rw [hf.2.2 q i (by show q ≤ ((w'.1 + 1 : Nat) : Int); omega) (by omega), nL_r (by omega)]
    exact h.2.2 q i a b
theorem ex_cf (h : EXL o w w') (hf : EXL ((w'.1 + 1 : Nat) : Int) (nL w' k n) (f ((w'.1 + 1 : Nat) : Int) (nL w' k n))) : EXL o w (cf f w' o j k n) := ex_pL (ex_in h hf)
theorem CS.nk (S : CS K o w σ) : ((jnewG (toG w) k n).2.1 o).1 = K := by
  rw [hm_n, nL_k S.2.1]
  exact S.2.2.1
theorem cs_nf (S : CS K o w σ) : CS K o (nf w o j k n) σ := ⟨S.1, by have := S.2.1; show o ≤ ((w.1 + 1 : Nat) : Int); omega, by rw [nf_k S.2.1]; exact S.2.2.1, S.2.2.2.up (Nat.le_succ _)⟩
theorem cs_nL (S : CS K o w σ) : CS K o (nL w k n) σ := ⟨S.1, by have := S.2.1; show o ≤ ((w.1 + 1 : Nat) : Int); omega, by rw [nL_k S.2.1]; exact S.2.2.1, S.2.2.2.up (Nat.le_succ _)⟩
theorem cs_pL {a : Int} (S : CS K o w σ) : CS K o (pL w a j v) σ := S
theorem cs_new (h : Zb w.1 σ) : CS k ((w.1 + 1 : Nat) : Int) (nL w k n) σ := ⟨by omega, Int.le_refl _, by rw [nL_s], h.up (Nat.le_succ _)⟩
theorem cs_ex {a : Int} (S : CS K o w σ) (h : EXL a w w') (z : Zb w'.1 τ) : CS K o w' τ := ⟨S.1, by have := h.1; have := S.2.1; omega, by rw [h.2.1 o S.2.1]; exact S.2.2.1, z⟩
theorem cs_cf (S : CS K o w σ) (hf : EXL ((w.1 + 1 : Nat) : Int) (nL w k n) (f ((w.1 + 1 : Nat) : Int) (nL w k n))) (z : Zb (f ((w.1 + 1 : Nat) : Int) (nL w k n)).1 τ) : CS K o (cf f w o j k n) τ := cs_pL (cs_ex S (ex_in (o := o) ex_rf hf) z)
theorem CS.z (S : CS k o w σ) (hw : ((w.1 : Nat) : Int) < v) : ∀ i, σ v i = 0 := fun i => S.2.2.2 v i hw
theorem CG_of {l : Launch} {d mc ms : Nat} {m : jM} {as : List jV} {G : jG} {Post : Int → jG → jH → Prop} (hm : jok0 m = true) (hl : Nat.ble (jargs0 as).length m.2.2.1 = true)
    (h : Ev (l, (fun _ => 0), 0) d mc ms m Post 0 (jargs m.2.2.1 as) [] G σ 0 0) : CallG l d mc ms m as G σ Post := by
  simp only [jok0, Bool.and_eq_true, Bool.or_eq_true, decide_eq_true_eq] at hm
  refine CallG_of hm.1.1 hm.1.2 (Nat.le_of_ble_eq_true hl) (fun q => ?_) h
  rcases hm.2 with (h2 | h2) | h2
  · exact absurd q h2
  · exact Or.inl h2
  · exact Or.inr h2
theorem CN_of {l : Launch} {d : Nat} {m : jM} {as : List jV} {G : jG} {Post : Int → jH → Prop} (hm : jok0 m = true) (hl : Nat.ble (jargs0 as).length m.2.2.1 = true)
    (h : Ev (l, (fun _ => 0), 0) d 0 0 m (fun x G' σ' => G' = G ∧ Post x σ') 0 (jargs m.2.2.1 as) [] G σ 0 0) : CallN l d m as G σ Post := CG_of hm hl h
end CT
/-! Filling a row, emptying rules, in any world -/
section CU
variable {l : Launch} {d : Nat} {G : jG} {σ : jH}
theorem lg_fill {a n v : Int} (ht : G.2.1 a = (1, n)) (hn : n < 1000000) : ∀ (k : Nat) (i : Int), 0 ≤ i → i + k = n →
    Ev (l, (fun _ => 0), 0) d 0 0 m_Arrays_fill (fun _ G' τ => G' = G ∧ τ = jfill σ a 0 n v) 5 [some (vR a), some (vI v), some (vI i), some (vI n)] [] G (jfill σ a 0 i v) 0 0
  | 0, i, h0, h1 => by
    refine jwp_sound t_Arrays_fill _ (b_Arrays_fill_5 ?_)
    have e : i = n := by omega
    subst e
    simp only [true_and]
    exact ⟨fun _ => trivial, fun h => absurd h (by omega)⟩
  | k + 1, i, h0, h1 => by
    refine jwp_sound t_Arrays_fill _ (b_Arrays_fill_5 ?_)
    simp only [ht, true_and]
    refine ⟨fun h => absurd h (by omega), fun h => ⟨h0, h, ?_⟩⟩
    rw [w32_of (by omega) (by omega), jfill_s _ _ _ _ _ h0]
    exact lg_fill ht hn k (i + 1) (by omega) (by omega)
theorem g_fill {a n : Int} (v : Int) (ht : G.2.1 a = (1, n)) (h0 : 0 ≤ n) (hn : n < 1000000) : CallN l d m_Arrays_fill [vR a, vI v] G σ (fun _ τ => τ = jfill σ a 0 n v) := by
  refine CN_of o_Arrays_fill rfl (jwp_sound t_Arrays_fill _ (b_Arrays_fill_0 ?_))
  simp only [ht]
  refine ⟨by omega, ?_⟩
  have := lg_fill (l := l) (d := d) (v := v) (σ := σ) ht hn n.toNat 0 (by omega) (by omega)
  rwa [jfill_0] at this
/-- a row that says each letter's own number -/
def idr (σ : jH) (a i : Int) : jH := fun c j => if c = a ∧ 0 ≤ j ∧ j < i then j else σ c j
theorem lg_clear {o a b c e : Int} (hk : (G.2.1 o).1 = 15) (r1 : G.2.2 o 1 = a) (r2 : G.2.2 o 2 = c) (r9 : G.2.2 o 9 = e) (r10 : G.2.2 o 10 = b) (ka : G.2.1 a = (2, 26)) (kb : G.2.1 b = (2, 26)) (kc : G.2.1 c = (2, 26)) (ke : G.2.1 e = (1, 20)) (ne : c ≠ a ∧ c ≠ b ∧ e ≠ a ∧ e ≠ b ∧ a ≠ b) (zc : ∀ j, σ c j = 0) (ze : ∀ j, σ e j = 0) (hd : 11 ≤ d) : ∀ (k i : Nat), i + k = 26 →
    Ev (l, (fun _ => 0), 0) d 0 0 m_Rules_clear (fun _ G' τ => G' = G ∧ τ = idr (idr σ a 26) b 26) 27 [some (vR o), some (vI i)] [] G (idr (idr σ a i) b i) 0 0
  | 0, i, hi => by
    have ei : i = 26 := by omega
    subst ei
    refine jwp_sound t_Rules_clear _ (b_Rules_clear_27 ?_)
    simp only [hk, r1, r2, r9, r10, ka, kb, kc, true_and]
    refine ⟨fun _ => ?_, fun q => absurd q (by decide)⟩
    refine cN_mk (g_fill (d := 0) 0 ke (by omega) (by omega)) (by omega) (fun _ τ h => ?_)
    refine h.trans ?_
    funext q j
    unfold jfill
    by_cases g : q = e ∧ 0 ≤ j ∧ j < 20
    · rw [if_pos g]
      unfold idr
      rw [if_neg (by omega), if_neg (by omega), g.1, ze]
    · rw [if_neg g]
      rfl
  | k + 1, i, hi => by
    refine jwp_sound t_Rules_clear _ (b_Rules_clear_27 ?_)
    simp only [hk, r1, r2, r9, r10, ka, kb, kc, true_and]
    rw [w32_of (x := (i : Int) + 1) (by omega) (by omega), w8i (x := i) (by omega) (by omega), w8i (x := i) (by omega) (by omega), show w8 0 = 0 by decide]
    refine ⟨fun q => absurd q (by omega), fun _ => ⟨by omega, by omega, by omega, by omega, by omega, by omega, ?_⟩⟩
    have IH := lg_clear hk r1 r2 r9 r10 ka kb kc ke ne zc ze hd k (i + 1) (by omega)
    have eq : ju (ju (ju (idr (idr σ a i) b i) a i i) b i i) c i 0 = idr (idr σ a ((i + 1 : Nat) : Int)) b ((i + 1 : Nat) : Int) := by
      funext q j
      unfold ju idr
      by_cases g1 : q = c ∧ j = i
      · rw [if_pos g1, if_neg (by omega), if_neg (by omega), g1.1, zc]
      · rw [if_neg g1]
        by_cases g2 : q = b ∧ j = i
        · rw [if_pos g2, if_pos (by omega), g2.2]
        · rw [if_neg g2]
          by_cases g3 : q = a ∧ j = i
          · rw [if_pos g3, if_neg (by omega), if_pos (by omega), g3.2]
          · rw [if_neg g3]
            by_cases g4 : q = b ∧ 0 ≤ j ∧ j < i
            · rw [if_pos g4, if_pos (by omega)]
            · rw [if_neg g4, if_neg (show ¬ (q = b ∧ 0 ≤ j ∧ j < ((i + 1 : Nat) : Int)) by omega)]
              by_cases g5 : q = a ∧ 0 ≤ j ∧ j < i
              · rw [if_pos g5, if_pos (by omega)]
              · rw [if_neg g5, if_neg (by omega)]
    rw [eq, show (i : Int) + 1 = ((i + 1 : Nat) : Int) by omega]
    exact IH
theorem g_clear {o a b c e : Int} (hk : (G.2.1 o).1 = 15) (r1 : G.2.2 o 1 = a) (r2 : G.2.2 o 2 = c) (r9 : G.2.2 o 9 = e) (r10 : G.2.2 o 10 = b) (ka : G.2.1 a = (2, 26)) (kb : G.2.1 b = (2, 26)) (kc : G.2.1 c = (2, 26)) (ke : G.2.1 e = (1, 20)) (ne : c ≠ a ∧ c ≠ b ∧ e ≠ a ∧ e ≠ b ∧ a ≠ b) (zo : ∀ j, σ o j = 0) (zc : ∀ j, σ c j = 0) (ze : ∀ j, σ e j = 0) (hd : 11 ≤ d) : CallN l d m_Rules_clear [vR o] G σ (fun _ τ => τ = idr (idr σ a 26) b 26) := by
  refine CN_of o_Rules_clear rfl (jwp_sound t_Rules_clear _ (b_Rules_clear_0 ?_))
  rw [ju_z (zo 0), ju_z (zo 3), ju_z (zo 5), ju_z (zo 7), ju_z (zo 11)]
  refine ⟨hk, hk, hk, hk, hk, Or.inl rfl, ?_⟩
  have go := lg_clear (l := l) (d := d) (σ := σ) hk r1 r2 r9 r10 ka kb kc ke ne zc ze hd 26 0 rfl
  have e0 : idr (idr σ a ((0 : Nat) : Int)) b ((0 : Nat) : Int) = σ := by
    funext q j
    unfold idr
    rw [if_neg (by omega), if_neg (by omega)]
  rw [e0] at go
  exact go
end CU
