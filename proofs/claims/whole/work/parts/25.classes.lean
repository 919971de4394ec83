/-! The classes' tables hold what the rows of fields ask -/
def jtyk (t : Nat) (ty : FieldType) : Bool := match t, ty with
  | 0, .int => true
  | 1, .long => true
  | 4, .boolean => true
  | 2, .object _ => true
  | 2, .array _ => true
  | 3, .object _ => true
  | 3, .array _ => true
  | _, _ => false
def jclok (ci : Nat) (r : vw_C) : Bool :=
  (List.range r.2.2).all (fun k => match parseFieldDescriptor (r.2.1 k).2.2.1 with
    | some ty => jtyk (jft ci k) ty
    | none => false) &&
  (List.range r.2.2).all (fun a => (List.range r.2.2).all (fun b => decide (a = b) || decide ((r.2.1 a).2.1 ≠ (r.2.1 b).2.1))) &&
  (u_ws r.1 r.2.1 r.2.2).all (fun w => decide (w ∈ lw_tbl) && goodWord w)
set_option maxRecDepth 100000 in
set_option maxHeartbeats 4000000 in
theorem jcl_all : jcl.zipIdx.all (fun q => jclok q.2 q.1) = true := by decide +kernel
theorem jcl_ok {ci : Nat} {r : vw_C} (h : jcl[ci]? = some r) : jclok ci r = true := by
  have h1 := List.all_eq_true.mp jcl_all (r, ci) (by rw [List.mem_zipIdx_iff_getElem?]; simpa using h)
  exact h1
theorem jcl_ty {ci : Nat} {r : vw_C} (h : jcl[ci]? = some r) {k : Nat} (hk : k < r.2.2) : ∃ ty, parseFieldDescriptor (r.2.1 k).2.2.1 = some ty ∧ jtyk (jft ci k) ty = true := by
  have h1 := jcl_ok h
  simp only [jclok, Bool.and_eq_true] at h1
  have h2 := List.all_eq_true.mp h1.1.1 k (List.mem_range.mpr hk)
  cases hp : parseFieldDescriptor (r.2.1 k).2.2.1 with
  | none => rw [hp] at h2; cases h2
  | some ty => rw [hp] at h2; exact ⟨ty, rfl, h2⟩
theorem jcl_nm {ci : Nat} {r : vw_C} (h : jcl[ci]? = some r) : ∀ a, a < r.2.2 → ∀ b, b < r.2.2 → a ≠ b → (r.2.1 a).2.1 ≠ (r.2.1 b).2.1 := by
  intro a ha b hb hab
  have h1 := jcl_ok h
  simp only [jclok, Bool.and_eq_true] at h1
  have h2 := List.all_eq_true.mp (List.all_eq_true.mp h1.1.2 a (List.mem_range.mpr ha)) b (List.mem_range.mpr hb)
  simp only [Bool.or_eq_true, decide_eq_true_eq] at h2
  rcases h2 with h2 | h2
  · exact absurd h2 hab
  · exact h2
theorem jcl_ws {ci : Nat} {r : vw_C} (h : jcl[ci]? = some r) : ∀ w ∈ u_ws r.1 r.2.1 r.2.2, w ∈ jTB := by
  intro w hw
  have h1 := jcl_ok h
  simp only [jclok, Bool.and_eq_true] at h1
  have h2 := List.all_eq_true.mp h1.2 w hw
  simp only [Bool.and_eq_true, decide_eq_true_eq] at h2
  exact List.mem_filter.mpr h2
def jtyf (r : vw_C) (k : Nat) : FieldType := (parseFieldDescriptor (r.2.1 k).2.2.1).getD .int
theorem jcl_tyf {ci : Nat} {r : vw_C} (h : jcl[ci]? = some r) : ∀ k, k < r.2.2 → parseFieldDescriptor (r.2.1 k).2.2.1 = some (jtyf r k) := by
  intro k hk
  obtain ⟨ty, h1, -⟩ := jcl_ty h hk
  unfold jtyf
  rw [h1]
  rfl
