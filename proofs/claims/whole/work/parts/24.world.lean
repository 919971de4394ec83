/-! The world's cells: reading, writing, what stays -/
theorem jrf_pos {B : Nat} {o : Int} (h : 1 ≤ o) : jrf B o = some (B + o.toNat) := by unfold jrf; rw [if_neg (by omega)]
theorem cv_ref {E : jE} {o : Int} (h : 1 ≤ o) : cv E (vR o) = .ref (E.1 + o.toNat) := by
  show va_rf (jrf E.1 o) = _
  rw [jrf_pos h]
  rfl
theorem jW_get {E : jE} {G : jG} {σ : jH} {o : Int} (h1 : 1 ≤ o) (h2 : o ≤ G.1) : (jW E G σ)[o.toNat - 1]? = some (E.1 + o.toNat, jcell E G σ o) := by
  unfold jW
  rw [List.getElem?_map, List.getElem?_range (by omega)]
  have e1 : o.toNat - 1 + 1 = o.toNat := by omega
  have e2 : ((o.toNat : Nat) : Int) = o := by omega
  simp only [Option.map_some, e1, e2]
theorem jW_len {E : jE} {G : jG} {σ : jH} : (jW E G σ).length = G.1 := by unfold jW; simp
theorem jW_at {E : jE} {G : jG} {σ : jH} {k : Nat} (h : k < G.1) : (jW E G σ)[k]? = some (E.1 + (k + 1), jcell E G σ (((k + 1 : Nat)) : Int)) := by
  unfold jW
  rw [List.getElem?_map, List.getElem?_range h]
  rfl
theorem jW_D {E : jE} {G : jG} {σ : jH} : va_D (jA E) (jW E G σ) := by
  have key : ∀ (k : Nat) (q : Nat × va_E), (jW E G σ)[k]? = some q → q.1 = E.1 + (k + 1) := by
    intro k q h
    have hk : k < G.1 := by
      have := (List.getElem?_eq_some_iff.mp h).1
      rwa [jW_len] at this
    rw [jW_at hk] at h
    cases h
    rfl
  refine ⟨fun i j x y hi hj hxy => ?_, fun k q hk => ?_⟩
  · have := key i x hi
    have := key j y hj
    omega
  · have := key k q hk
    show E.1 < q.1
    omega
theorem jW_set {E : jE} {G G' : jG} {σ σ' : jH} {o : Int} {x : Nat × va_E} (h1 : 1 ≤ o) (h2 : o ≤ G.1) (hG : G'.1 = G.1) (hx : x = (E.1 + o.toNat, jcell E G' σ' o)) (hq : ∀ q : Int, q ≠ o → jcell E G' σ' q = jcell E G σ q) : jW E G' σ' = (jW E G σ).set (o.toNat - 1) x := by
  subst hx
  apply List.ext_getElem?
  intro k
  by_cases hk : k < G.1
  · rw [jW_at (by omega)]
    by_cases hko : k = o.toNat - 1
    · subst hko
      rw [List.getElem?_set_self (by rw [jW_len]; omega)]
      have e1 : o.toNat - 1 + 1 = o.toNat := by omega
      have e2 : ((o.toNat : Nat) : Int) = o := by omega
      rw [e1, e2]
    · rw [List.getElem?_set_ne (fun h => hko h.symm), jW_at hk, hq _ (by omega)]
  · rw [List.getElem?_eq_none (by rw [jW_len]; omega), List.getElem?_eq_none (by rw [List.length_set, jW_len]; omega)]
theorem jcell_ob {E : jE} {G : jG} {σ : jH} {o : Int} {ci : Nat} (h : (G.2.1 o).1 = ci + 8) : jcell E G σ o = .inr (ci, (List.range (G.2.1 o).2.toNat).map (fun k => cv E (jfv (jft ci k) (σ o (k : Int)) (G.2.2 o (k : Int))))) := by
  unfold jcell
  rw [h]
theorem jcell_i {E : jE} {G : jG} {σ : jH} {o : Int} {t : Nat} (h : (G.2.1 o).1 = t) (h1 : 1 ≤ t) (h3 : t ≤ 3) : jcell E G σ o = .inl (E.2.2.1 t, (G.2.1 o).2.toNat, .inl (fun j => Int32.ofInt (σ o (j : Int)))) := by
  have : t = 1 ∨ t = 2 ∨ t = 3 := by omega
  unfold jcell
  rcases this with rfl | rfl | rfl <;> rw [h]
theorem jcell_l {E : jE} {G : jG} {σ : jH} {o : Int} (h : (G.2.1 o).1 = 4) : jcell E G σ o = .inl (E.2.2.1 4, (G.2.1 o).2.toNat, .inr (.inl (fun j => Int64.ofInt (σ o (j : Int))))) := by
  unfold jcell
  rw [h]
theorem jcell_q {E : jE} {G : jG} {σ : jH} {o : Int} {t : Nat} (h : (G.2.1 o).1 = t) (h1 : 5 ≤ t) (h3 : t ≤ 7) : jcell E G σ o = .inl (E.2.2.1 t, (G.2.1 o).2.toNat, .inr (.inr (.inr (.inr (fun j => jrf E.1 (G.2.2 o (j : Int))))))) := by
  have : t = 5 ∨ t = 6 ∨ t = 7 := by omega
  unfold jcell
  rcases this with rfl | rfl | rfl <;> rw [h]
theorem jcell_eq {E : jE} {G G' : jG} {σ σ' : jH} {q : Int} (h1 : G'.2.1 q = G.2.1 q) (h2 : ∀ j, G'.2.2 q j = G.2.2 q j) (h3 : ∀ j, σ' q j = σ q j) : jcell E G' σ' q = jcell E G σ q := by
  unfold jcell
  simp only [h1, h2, h3]
theorem ju_ne {f : Int → Int → Int} {a i v q j : Int} (h : q ≠ a) : ju f a i v q j = f q j := by unfold ju; rw [if_neg (fun x => h x.1)]
theorem ju_self {f : Int → Int → Int} {a i v : Int} : ju f a i v a i = v := by unfold ju; rw [if_pos ⟨rfl, rfl⟩]
theorem ju_ne2 {f : Int → Int → Int} {a i v q j : Int} (h : j ≠ i) : ju f a i v q j = f q j := by unfold ju; rw [if_neg (fun x => h x.2)]
/-- writing one place of an object -/
theorem jcell_put {E : jE} {G G' : jG} {σ σ' : jH} {o : Int} {ci k : Nat} {v : Value} (h : (G.2.1 o).1 = ci + 8) (hG : G'.2.1 o = G.2.1 o) (hv : cv E (jfv (jft ci k) (σ' o (k : Int)) (G'.2.2 o (k : Int))) = v) (hq : ∀ j : Nat, j ≠ k → σ' o (j : Int) = σ o (j : Int) ∧ G'.2.2 o (j : Int) = G.2.2 o (j : Int)) :
    jcell E G' σ' o = .inr (ci, ((List.range (G.2.1 o).2.toNat).map (fun k => cv E (jfv (jft ci k) (σ o (k : Int)) (G.2.2 o (k : Int))))).set k v) := by
  rw [jcell_ob (ci := ci) (by rw [hG]; exact h), hG]
  congr 2
  apply List.ext_getElem?
  intro j
  by_cases hj : j = k
  · subst hj
    by_cases hl : j < (G.2.1 o).2.toNat
    · rw [List.getElem?_set_self (by simpa using hl), List.getElem?_map, List.getElem?_range hl]
      simp [hv]
    · rw [List.getElem?_eq_none (by simpa using hl), List.getElem?_eq_none (by simpa using hl)]
  · rw [List.getElem?_set_ne (fun h => hj h.symm), List.getElem?_map, List.getElem?_map]
    by_cases hl : j < (G.2.1 o).2.toNat
    · rw [List.getElem?_range hl]
      simp only [Option.map_some]
      rw [(hq j hj).1, (hq j hj).2]
    · rw [List.getElem?_eq_none (by simpa using hl)]
      rfl
theorem i32_clamp {i : Int} (h0 : 0 ≤ i) (h : i < 2147483648) : (Int32.ofInt i).toNatClampNeg = i.toNat := by
  show (Int32.ofInt i).toInt.toNat = i.toNat
  rw [i32_of (by unfold r32; omega)]
theorem vp_in_of32 {i : Int} {n : Nat} (h0 : 0 ≤ i) (h : i < n) (hn : (n : Int) < 2147483648) : vp_in (Int32.ofInt i) n := by
  rw [vp_in_iff, i32_of (by unfold r32; omega)]
  exact ⟨h0, h⟩
theorem upd_of {f : jH} {q i x : Int} (h0 : 0 ≤ i) (j : Nat) : upd (fun j => Int32.ofInt (f q (j : Int))) i.toNat (Int32.ofInt x) j = Int32.ofInt (ju f q i x q (j : Int)) := by
  unfold upd ju
  by_cases h : j = i.toNat
  · rw [if_pos h, if_pos ⟨rfl, by omega⟩]
  · rw [if_neg h, if_neg (fun z => h (by omega))]
theorem updL_of {f : jH} {q i x : Int} (h0 : 0 ≤ i) (j : Nat) : vp_updL (fun j => Int64.ofInt (f q (j : Int))) i.toNat (Int64.ofInt x) j = Int64.ofInt (ju f q i x q (j : Int)) := by
  unfold vp_updL ju
  by_cases h : j = i.toNat
  · rw [if_pos h, if_pos ⟨rfl, by omega⟩]
  · rw [if_neg h, if_neg (fun z => h (by omega))]
theorem upq_of {B : Nat} {f : Int → Int → Int} {q i x : Int} (h0 : 0 ≤ i) (j : Nat) : va_up (fun j => jrf B (f q (j : Int))) i.toNat (jrf B x) j = jrf B (ju f q i x q (j : Int)) := by
  unfold va_up ju
  by_cases h : j = i.toNat
  · rw [if_pos h, if_pos ⟨rfl, by omega⟩]
  · rw [if_neg h, if_neg (fun z => h (by omega))]
/-- a written place keeps the world within its kinds -/
theorem jwf_put {G : jG} {σ : jH} {o : Int} {k : Int} {x : Int} (h : jwf G σ) (hx : 0 ≤ k → k < (G.2.1 o).2 → match (G.2.1 o).1 with
  | 1 => r32 x
  | 2 => -128 ≤ x ∧ x < 128
  | 3 => 0 ≤ x ∧ x ≤ 1
  | 4 => r64 x
  | ci + 8 => jokt (jft ci k.toNat) x
  | _ => True) : jwf G (ju σ o k x) := by
  intro q i hi
  by_cases hc : q = o ∧ (i : Int) = k
  · obtain ⟨rfl, rfl⟩ := hc
    have h2 := hx (by omega) hi
    have e : ju σ q (i : Int) x q (i : Int) = x := ju_self
    rw [e]
    have e2 : ((i : Int)).toNat = i := by omega
    rw [e2] at h2
    exact h2
  · have e : ju σ o k x q (i : Int) = σ q (i : Int) := by unfold ju; rw [if_neg hc]
    rw [e]
    exact h q i hi
theorem jwf_fix {G : jG} {σ : jH} {φ : Int → Int → Int} (h : jwf G σ) : jwf (G.1, G.2.1, φ) σ := h
theorem jgw_fix {G : jG} {φ : Int → Int → Int} (h : jgw G) : jgw (G.1, G.2.1, φ) := h
