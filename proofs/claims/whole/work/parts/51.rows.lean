/-! A word in a row of the reference: how many letters, then these -/
def rh (g : Int → Int) : Nat → Int
  | 0 => 0
  | m + 1 => rh g m * 32 + g m
def dgr (f : Int → Int) (a : Int) : Int → Int := fun j => if j < f a then f (a + 1 + j) + 1 else 0
def rk (f : Int → Int) (a : Int) : Int := rh (dgr f a) 20
/-- a word stands there -/
def RV (f : Int → Int) (a : Int) : Prop := 0 ≤ f a ∧ f a ≤ 20 ∧ ∀ j, 0 ≤ j → j < f a → 0 ≤ f (a + 1 + j) ∧ f (a + 1 + j) < 26
theorem rh_eq {g g' : Int → Int} : ∀ {m : Nat}, (∀ j : Int, 0 ≤ j → j < m → g j = g' j) → rh g m = rh g' m
  | 0, _ => rfl
  | m + 1, h => by
    simp only [rh]
    rw [rh_eq (fun j h1 h2 => h j h1 (by omega)), h m (by omega) (by omega)]
theorem rh_r {g : Int → Int} : ∀ {m : Nat}, (∀ j : Int, 0 ≤ j → j < m → 0 ≤ g j ∧ g j < 32) → 0 ≤ rh g m ∧ rh g m < 32 ^ m
  | 0, _ => by simp [rh]
  | m + 1, h => by
    have h1 := rh_r (fun j h1 h2 => h j h1 (by omega) : ∀ j : Int, 0 ≤ j → j < m → 0 ≤ g j ∧ g j < 32)
    have h2 := h m (by omega) (by omega)
    rw [p32s]
    simp only [rh]
    omega
theorem rh_hm {g ρ : Int → Int} : ∀ {m : Nat}, (∀ j : Int, 0 ≤ j → j < m → 0 ≤ g j ∧ g j < 32) → hm ρ m (rh g m) = rh (fun j => mp ρ (g j)) m
  | 0, _ => rfl
  | m + 1, h => by
    have h2 := h m (by omega) (by omega)
    simp only [rh, hm]
    rw [show (rh g m * 32 + g m) / 32 = rh g m by omega, show (rh g m * 32 + g m) % 32 = g m by omega, rh_hm (fun j h1 h2 => h j h1 (by omega))]
/-- order by digits is order of numbers -/
theorem rh_lt {g g' : Int → Int} {n : Nat} (he : ∀ j : Int, 0 ≤ j → j < n → g j = g' j) (hn : g n < g' n) : ∀ (k : Nat), (∀ j : Int, 0 ≤ j → j < n + 1 + k → 0 ≤ g j ∧ g j < 32) → (∀ j : Int, 0 ≤ j → j < n + 1 + k → 0 ≤ g' j ∧ g' j < 32) → rh g (n + 1 + k) < rh g' (n + 1 + k)
  | 0, _, _ => by
    simp only [Nat.add_zero, rh]
    rw [rh_eq he]
    omega
  | k + 1, h1, h2 => by
    have := rh_lt he hn k (fun j a b => h1 j a (by omega)) (fun j a b => h2 j a (by omega))
    have h3 := h1 ((n + 1 + k : Nat) : Int) (by omega) (by omega)
    have h4 := h2 ((n + 1 + k : Nat) : Int) (by omega) (by omega)
    show rh g (n + 1 + k) * 32 + g ((n + 1 + k : Nat) : Int) < rh g' (n + 1 + k) * 32 + g' ((n + 1 + k : Nat) : Int)
    omega
theorem dgr_r {f : Int → Int} {a : Int} (h : RV f a) (j : Int) (hj : 0 ≤ j) : 0 ≤ dgr f a j ∧ dgr f a j ≤ 26 := by
  unfold dgr
  split
  · have := h.2.2 j hj (by assumption)
    omega
  · omega
theorem rk_r {f : Int → Int} {a : Int} (h : RV f a) : 0 ≤ rk f a ∧ rk f a < 1267650600228229401496703205376 :=
  rh_r (m := 20) (fun j h1 _ => by have := dgr_r h j h1; omega)
theorem rk_eq {f f' : Int → Int} {a a' : Int} (h0 : f a = f' a') (h : ∀ j, 0 ≤ j → j < f a → f (a + 1 + j) = f' (a' + 1 + j)) : rk f a = rk f' a' := by
  unfold rk
  apply rh_eq
  intro j h1 _
  unfold dgr
  rw [← h0]
  split
  · rw [h j h1 (by assumption)]
  · rfl
theorem RV_eq {f f' : Int → Int} {a a' : Int} (V : RV f a) (h0 : f a = f' a') (h : ∀ j, 0 ≤ j → j < f a → f (a + 1 + j) = f' (a' + 1 + j)) : RV f' a' := by
  refine ⟨by rw [← h0]; exact V.1, by rw [← h0]; exact V.2.1, fun j h1 h2 => ?_⟩
  rw [← h j h1 (by omega)]
  exact V.2.2 j h1 (by omega)
theorem rk_0 {f : Int → Int} {a : Int} (h : f a = 0) : rk f a = 0 := by
  have e : ∀ m : Nat, rh (fun _ => (0 : Int)) m = 0 := by
    intro m
    induction m with
    | zero => rfl
    | succ m ih => simp only [rh, ih]; omega
  unfold rk
  rw [rh_eq (g' := fun _ => 0) (fun j h1 _ => by unfold dgr; rw [if_neg (by omega)]), e]
/-- a further letter -/
theorem rh_add {g : Int → Int} {n : Nat} {v : Int} (hz : g n = 0) : ∀ (k : Nat), rh (up g n v) (n + 1 + k) = rh g (n + 1 + k) + v * 32 ^ k
  | 0 => by
    simp only [Nat.add_zero, rh]
    rw [up_self, hz, rh_eq (g' := g) (fun j h1 h2 => up_ne (by omega))]
    omega
  | k + 1 => by
    show rh (up g n v) (n + 1 + k) * 32 + up g n v ((n + 1 + k : Nat) : Int) = rh g (n + 1 + k) * 32 + g ((n + 1 + k : Nat) : Int) + v * 32 ^ (k + 1)
    rw [rh_add hz k, up_ne (by omega), p32s, ← Int.mul_assoc]
    omega
theorem rk_add {f f' : Int → Int} {a x : Int} {n : Nat} (hn : n < 20) (h0 : f a = n) (h1 : f' a = n + 1) (h2 : ∀ j : Int, 0 ≤ j → j < n → f' (a + 1 + j) = f (a + 1 + j)) (h3 : f' (a + 1 + n) = x) : rk f' a = rk f a + (x + 1) * 32 ^ (19 - n) := by
  unfold rk
  have e : rh (dgr f' a) 20 = rh (up (dgr f a) n (x + 1)) 20 := by
    apply rh_eq
    intro j h4 h5
    unfold dgr up
    rw [h0, h1]
    by_cases hj : j = n
    · subst hj
      rw [if_pos (by omega), if_pos rfl, h3]
    · rw [if_neg hj]
      show _ = if j < (n : Int) then f (a + 1 + j) + 1 else 0
      by_cases hj2 : j < n
      · rw [if_pos (by omega), if_pos hj2, h2 j h4 hj2]
      · rw [if_neg (by omega), if_neg hj2]
  have := rh_add (g := dgr f a) (n := n) (v := x + 1) (by unfold dgr; rw [if_neg (by omega)]) (19 - n)
  rw [show n + 1 + (19 - n) = 20 by omega] at this
  rw [e, this]
theorem mp_id {d : Int} (h0 : 0 ≤ d) (h : d ≤ 26) : mp (fun l => l) d = d := by
  unfold mp
  split
  · show d - 1 + 1 = d
    omega
  · omega
theorem mp_eq {ρ ρ' : Int → Int} (h : ∀ l, 0 ≤ l → l < 26 → ρ l = ρ' l) (d : Int) : mp ρ d = mp ρ' d := by
  unfold mp
  split
  · rw [h _ (by omega) (by omega)]
  · rfl
theorem hm_eq {ρ ρ' : Int → Int} (h : ∀ l, 0 ≤ l → l < 26 → ρ l = ρ' l) : ∀ (n : Nat) (x : Int), hm ρ n x = hm ρ' n x
  | 0, _ => rfl
  | n + 1, x => by simp only [hm, hm_eq h n, mp_eq h]
theorem km_rk {ρ f : Int → Int} {a : Int} (h : RV f a) : km ρ (rk f a) = rh (fun j => mp ρ (dgr f a j)) 20 := rh_hm (m := 20) (fun j h1 _ => by have := dgr_r h j h1; omega)
theorem km_id {f : Int → Int} {a : Int} (h : RV f a) {ρ : Int → Int} (hρ : ∀ l, 0 ≤ l → l < 26 → ρ l = l) : km ρ (rk f a) = rk f a := by
  rw [km_rk h]
  unfold rk
  apply rh_eq
  intro j h1 _
  have := dgr_r h j h1
  show mp ρ (dgr f a j) = dgr f a j
  rw [mp_eq (ρ' := fun l => l) hρ, mp_id this.1 this.2]
