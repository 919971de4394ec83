/-! Each step of the small machine is a step of the machine: stack, numbers, jumps -/
section SV
variable {C : jC} {d mc ms : Nat} {m : jM} {RT : Int → jG → jH → Prop} {ls : List (Option jV)} {st : List jV} {G : jG} {σ : jH} {cs ss : Nat} {pc : Nat} {len a b w : Nat} {z : Int} {ps : List Nat} {mm : jM}
theorem okB_d {o : jO} (h : okB m pc o = true) : decode m.2.1 pc = .ok (o.1, o.2.1) := by
  simp only [okB, Bool.and_eq_true, decide_eq_true_eq] at h
  exact h.1.1
theorem okB_i {o : jO} (h : okB m pc o = true) : okI m pc o = true := by
  simp only [okB, Bool.and_eq_true] at h
  exact h.2
theorem jput_sub {E : jE} {ls : List (Option jV)} {i : Nat} {v : jV} (q : Nat × Value) (hq : q ∈ jlv E (jset ls i v)) : q ∈ (i, cv E v) :: (jlv E ls).filter (fun q => !(q.1 == i) && !(q.1 + 1 == i && q.2.category == 2)) := by
  obtain ⟨j, u, h1, rfl⟩ := jlv_mem.mp hq
  unfold jset at h1
  by_cases hji : j = i
  · subst hji
    rw [List.getElem?_set_self'] at h1
    cases hc : (jclr ls j)[j]? with
    | none => rw [hc] at h1; simp at h1
    | some x => rw [hc] at h1; simp at h1; subst h1; exact List.mem_cons_self
  · rw [List.getElem?_set_ne (fun h => hji h.symm)] at h1
    refine List.mem_cons_of_mem _ (List.mem_filter.mpr ⟨?_, ?_⟩)
    · refine jlv_mem.mpr ⟨j, u, ?_, rfl⟩
      cases i with
      | zero => exact h1
      | succ i =>
        simp only [jclr] at h1
        split at h1
        · by_cases hj2 : j = i
          · subst hj2
            rw [List.getElem?_set_self'] at h1
            cases hc : ls[j]? with
            | none => rw [hc] at h1; simp at h1
            | some x => rw [hc] at h1; simp at h1
          · rwa [List.getElem?_set_ne (fun h => hj2 h.symm)] at h1
        · exact h1
    · have e1 : (j == i) = false := by simpa using hji
      simp only [e1, Bool.not_false, Bool.true_and, Bool.not_eq_true']
      by_cases hj2 : j + 1 = i
      · subst hj2
        have hne : (cv E u).category ≠ 2 := by
          intro hcat
          simp only [jclr] at h1
          cases u with
          | inl x => simp [cv, Value.category] at hcat
          | inr u => cases u with
            | inr u => cases u with
              | inl x => simp only [cv] at hcat; cases hr : jrf E.1 x <;> simp [hr, va_rf, Value.category] at hcat
              | inr u => cases u <;> simp [cv, Value.category] at hcat
            | inl x =>
              split at h1
              · rw [List.getElem?_set_self'] at h1
                cases hc : ls[j]? with
                | none => rw [hc] at h1; simp at h1
                | some x => rw [hc] at h1; simp at h1
              · rename_i hno
                exact hno x h1
        simp [hne]
      · have e2 : (j + 1 == i) = false := by simpa using hj2
        simp [e2]
theorem jset_len {i : Nat} {v : jV} : (jset ls i v).length = ls.length := by
  unfold jset
  rw [List.length_set]
  cases i with
  | zero => rfl
  | succ i =>
    simp only [jclr]
    split
    · rw [List.length_set]
    · rfl
theorem jset_ok {i : Nat} {v : jV} (h : ∀ (i : Nat) (v : jV), ls[i]? = some (some v) → jok v) (hv : jok v) : ∀ (j : Nat) (u : jV), (jset ls i v)[j]? = some (some u) → jok u := by
  intro j u h1
  have h2 := jput_sub (E := (0, (fun _ => 0, fun _ _ => 0), fun _ => 0, fun _ => 0, fun _ => 0, 0)) (ls := ls) (i := i) (v := v)
  unfold jset at h1
  by_cases hji : j = i
  · subst hji
    rw [List.getElem?_set_self'] at h1
    cases hc : (jclr ls j)[j]? with
    | none => rw [hc] at h1; simp at h1
    | some x => rw [hc] at h1; simp at h1; subst h1; exact hv
  · rw [List.getElem?_set_ne (fun h => hji h.symm)] at h1
    cases i with
    | zero => exact h j u h1
    | succ i =>
      simp only [jclr] at h1
      split at h1
      · by_cases hj2 : j = i
        · subst hj2
          rw [List.getElem?_set_self'] at h1
          cases hc : ls[j]? with
          | none => rw [hc] at h1; simp at h1
          | some x => rw [hc] at h1; simp at h1
        · rw [List.getElem?_set_ne (fun h => hj2 h.symm)] at h1
          exact h j u h1
      · exact h j u h1
theorem jset2_get {i j : Nat} {v u : jV} (h1 : (jset2 ls i v)[j]? = some (some u)) : j ≠ i + 1 ∧ (jset ls i v)[j]? = some (some u) := by
  unfold jset2 at h1
  by_cases hj : j = i + 1
  · subst hj
    rw [List.getElem?_set_self'] at h1
    cases hc : ((jclr ls i).set i (some v))[i + 1]? with
    | none => rw [hc] at h1; simp at h1
    | some x => rw [hc] at h1; simp at h1
  · rw [List.getElem?_set_ne (fun h => hj h.symm)] at h1
    exact ⟨hj, h1⟩
theorem jput_sub2 {E : jE} {ls : List (Option jV)} {i : Nat} {v : jV} (q : Nat × Value) (hq : q ∈ jlv E (jset2 ls i v)) : q ∈ (i, cv E v) :: (jlv E ls).filter (fun q => !(q.1 == i) && (!(q.1 == i + 1) && !(q.1 + 1 == i && q.2.category == 2))) := by
  obtain ⟨j, u, h1, rfl⟩ := jlv_mem.mp hq
  obtain ⟨h2, h3⟩ := jset2_get h1
  have h4 := jput_sub (j, cv E u) (jlv_mem.mpr ⟨j, u, h3, rfl⟩)
  rcases List.mem_cons.mp h4 with h5 | h5
  · rw [h5]; exact List.mem_cons_self
  · refine List.mem_cons_of_mem _ (List.mem_filter.mpr ⟨(List.mem_filter.mp h5).1, ?_⟩)
    have h6 := (List.mem_filter.mp h5).2
    simp only [Bool.and_eq_true] at h6 ⊢
    exact ⟨h6.1, by simpa using h2, h6.2⟩
theorem jset2_len {i : Nat} {v : jV} : (jset2 ls i v).length = ls.length := by
  unfold jset2
  rw [List.length_set]
  exact jset_len (ls := ls) (i := i) (v := v)
section SX
variable {p : Program} {e : Env} {R : Room} {s : State} {mi : MethodId} {args : Array Value} {below : List Frame} {meth : Method} {c : Code} {E : jE} {Q : State → Prop} {H : Heap} {locs : List Loc} {lc lc' : Array Slot}
theorem jcx.put {i : Nat} {v : jV} {r : List jV} (X : jcx C d mc ms m RT p e R s mi args below meth c E Q ls st G σ cs ss H locs lc) (hv : jok v) (hr : ∀ u ∈ r, jok u) (hl : lv_has lc' m.2.2.1 ((i, cv E v) :: (jlv E ls).filter (fun q => !(q.1 == i) && !(q.1 + 1 == i && q.2.category == 2)))) :
    jcx C d mc ms m RT p e R s mi args below meth c E Q (jset ls i v) r G σ cs ss H locs lc' := by
  obtain ⟨h1, h2, h3, h4, h5, h6, h7, h8⟩ := X
  exact ⟨h1, jset_ok h2 hv, hr, jset_len.trans h4, h5, h6, lv_has_mono hl jput_sub, h8⟩
theorem jcx.put2 {i : Nat} {v : jV} {r : List jV} (X : jcx C d mc ms m RT p e R s mi args below meth c E Q ls st G σ cs ss H locs lc) (hv : jok v) (hr : ∀ u ∈ r, jok u) (hl : lv_has lc' m.2.2.1 ((i, cv E v) :: (jlv E ls).filter (fun q => !(q.1 == i) && (!(q.1 == i + 1) && !(q.1 + 1 == i && q.2.category == 2))))) :
    jcx C d mc ms m RT p e R s mi args below meth c E Q (jset2 ls i v) r G σ cs ss H locs lc' := by
  obtain ⟨h1, h2, h3, h4, h5, h6, h7, h8⟩ := X
  exact ⟨h1, fun j u hj => jset_ok h2 hv j u (jset2_get hj).2, hr, jset2_len.trans h4, h5, h6, lv_has_mono hl jput_sub2, h8⟩
theorem jcx.hl (X : jcx C d mc ms m RT p e R s mi args below meth c E Q ls st G σ cs ss H locs lc) : lv_has lc m.2.2.1 (jlv E ls) := X.2.2.2.2.2.2.1
theorem jcx.lok (X : jcx C d mc ms m RT p e R s mi args below meth c E Q ls st G σ cs ss H locs lc) : ∀ (i : Nat) (v : jV), ls[i]? = some (some v) → jok v := X.2.1
end SX

theorem s_iadd (ho : okB m pc (.iadd, len, a, b, w, z, ps, mm) = true) (h : jstep C d mc ms RT (Ev C d mc ms m RT) (.iadd, len, a, b, w, z, ps, mm) pc ls st G σ cs ss) : Ev C d mc ms m RT pc ls st G σ cs ss := by
  intro p e R s mi args below meth c E Q H locs lc X
  have hd := okB_d ho
  have hi := okB_i ho
  have hn : len = 1 := by
    simp only [okB, Bool.and_eq_true, decide_eq_true_eq, jlen] at ho
    exact of_decide_eq_true ho.1.2
  subst hn
  simp only [jstep, jbin] at h
  split at h
  · rename_i y x r
    refine lv_iadd X.exec X.code hd ?_
    have hk := X.go h (st_ok1 (r32_w _) (st_tl (st_tl X.hok)))
    simp only [List.map_cons, cv] at hk
    rw [i32_add x y]
    exact hk
  · exact h.elim

theorem s_isub (ho : okB m pc (.isub, len, a, b, w, z, ps, mm) = true) (h : jstep C d mc ms RT (Ev C d mc ms m RT) (.isub, len, a, b, w, z, ps, mm) pc ls st G σ cs ss) : Ev C d mc ms m RT pc ls st G σ cs ss := by
  intro p e R s mi args below meth c E Q H locs lc X
  have hd := okB_d ho
  have hi := okB_i ho
  have hn : len = 1 := by
    simp only [okB, Bool.and_eq_true, decide_eq_true_eq, jlen] at ho
    exact of_decide_eq_true ho.1.2
  subst hn
  simp only [jstep, jbin] at h
  split at h
  · rename_i y x r
    refine lv_isub X.exec X.code hd ?_
    have hk := X.go h (st_ok1 (r32_w _) (st_tl (st_tl X.hok)))
    simp only [List.map_cons, cv] at hk
    rw [i32_sub x y]
    exact hk
  · exact h.elim

theorem s_imul (ho : okB m pc (.imul, len, a, b, w, z, ps, mm) = true) (h : jstep C d mc ms RT (Ev C d mc ms m RT) (.imul, len, a, b, w, z, ps, mm) pc ls st G σ cs ss) : Ev C d mc ms m RT pc ls st G σ cs ss := by
  intro p e R s mi args below meth c E Q H locs lc X
  have hd := okB_d ho
  have hi := okB_i ho
  have hn : len = 1 := by
    simp only [okB, Bool.and_eq_true, decide_eq_true_eq, jlen] at ho
    exact of_decide_eq_true ho.1.2
  subst hn
  simp only [jstep, jbin] at h
  split at h
  · rename_i y x r
    refine lv_imul X.exec X.code hd ?_
    have hk := X.go h (st_ok1 (r32_w _) (st_tl (st_tl X.hok)))
    simp only [List.map_cons, cv] at hk
    rw [i32_mul x y]
    exact hk
  · exact h.elim

theorem s_iand (ho : okB m pc (.iand, len, a, b, w, z, ps, mm) = true) (h : jstep C d mc ms RT (Ev C d mc ms m RT) (.iand, len, a, b, w, z, ps, mm) pc ls st G σ cs ss) : Ev C d mc ms m RT pc ls st G σ cs ss := by
  intro p e R s mi args below meth c E Q H locs lc X
  have hd := okB_d ho
  have hi := okB_i ho
  have hn : len = 1 := by
    simp only [okB, Bool.and_eq_true, decide_eq_true_eq, jlen] at ho
    exact of_decide_eq_true ho.1.2
  subst hn
  simp only [jstep, jbin] at h
  split at h
  · rename_i y x r
    refine lv_iand X.exec X.code hd ?_
    have hk := X.go h (st_ok1 (i32_r _) (st_tl (st_tl X.hok)))
    simp only [List.map_cons, cv, jand32, i32_back] at hk
    exact hk
  · exact h.elim

theorem s_ior (ho : okB m pc (.ior, len, a, b, w, z, ps, mm) = true) (h : jstep C d mc ms RT (Ev C d mc ms m RT) (.ior, len, a, b, w, z, ps, mm) pc ls st G σ cs ss) : Ev C d mc ms m RT pc ls st G σ cs ss := by
  intro p e R s mi args below meth c E Q H locs lc X
  have hd := okB_d ho
  have hi := okB_i ho
  have hn : len = 1 := by
    simp only [okB, Bool.and_eq_true, decide_eq_true_eq, jlen] at ho
    exact of_decide_eq_true ho.1.2
  subst hn
  simp only [jstep, jbin] at h
  split at h
  · rename_i y x r
    refine lv_ior X.exec X.code hd ?_
    have hk := X.go h (st_ok1 (i32_r _) (st_tl (st_tl X.hok)))
    simp only [List.map_cons, cv, jor32, i32_back] at hk
    exact hk
  · exact h.elim

theorem s_ishl (ho : okB m pc (.ishl, len, a, b, w, z, ps, mm) = true) (h : jstep C d mc ms RT (Ev C d mc ms m RT) (.ishl, len, a, b, w, z, ps, mm) pc ls st G σ cs ss) : Ev C d mc ms m RT pc ls st G σ cs ss := by
  intro p e R s mi args below meth c E Q H locs lc X
  have hd := okB_d ho
  have hi := okB_i ho
  have hn : len = 1 := by
    simp only [okB, Bool.and_eq_true, decide_eq_true_eq, jlen] at ho
    exact of_decide_eq_true ho.1.2
  subst hn
  simp only [jstep, jbin] at h
  split at h
  · rename_i y x r
    refine lv_ishl X.exec X.code hd ?_
    have hk := X.go h (st_ok1 (i32_r _) (st_tl (st_tl X.hok)))
    simp only [List.map_cons, cv, jshl32, i32_back] at hk
    exact hk
  · exact h.elim

theorem s_ishr (ho : okB m pc (.ishr, len, a, b, w, z, ps, mm) = true) (h : jstep C d mc ms RT (Ev C d mc ms m RT) (.ishr, len, a, b, w, z, ps, mm) pc ls st G σ cs ss) : Ev C d mc ms m RT pc ls st G σ cs ss := by
  intro p e R s mi args below meth c E Q H locs lc X
  have hd := okB_d ho
  have hi := okB_i ho
  have hn : len = 1 := by
    simp only [okB, Bool.and_eq_true, decide_eq_true_eq, jlen] at ho
    exact of_decide_eq_true ho.1.2
  subst hn
  simp only [jstep, jbin] at h
  split at h
  · rename_i y x r
    refine lv_ishr X.exec X.code hd ?_
    have hk := X.go h (st_ok1 (i32_r _) (st_tl (st_tl X.hok)))
    simp only [List.map_cons, cv, jshr32, i32_back] at hk
    exact hk
  · exact h.elim

theorem s_iushr (ho : okB m pc (.iushr, len, a, b, w, z, ps, mm) = true) (h : jstep C d mc ms RT (Ev C d mc ms m RT) (.iushr, len, a, b, w, z, ps, mm) pc ls st G σ cs ss) : Ev C d mc ms m RT pc ls st G σ cs ss := by
  intro p e R s mi args below meth c E Q H locs lc X
  have hd := okB_d ho
  have hi := okB_i ho
  have hn : len = 1 := by
    simp only [okB, Bool.and_eq_true, decide_eq_true_eq, jlen] at ho
    exact of_decide_eq_true ho.1.2
  subst hn
  simp only [jstep, jbin] at h
  split at h
  · rename_i y x r
    refine lv_iushr X.exec X.code hd rfl ?_
    have hk := X.go h (st_ok1 (i32_r _) (st_tl (st_tl X.hok)))
    simp only [List.map_cons, cv, jushr32, i32_back] at hk
    exact hk
  · exact h.elim

theorem s_ladd (ho : okB m pc (.ladd, len, a, b, w, z, ps, mm) = true) (h : jstep C d mc ms RT (Ev C d mc ms m RT) (.ladd, len, a, b, w, z, ps, mm) pc ls st G σ cs ss) : Ev C d mc ms m RT pc ls st G σ cs ss := by
  intro p e R s mi args below meth c E Q H locs lc X
  have hd := okB_d ho
  have hi := okB_i ho
  have hn : len = 1 := by
    simp only [okB, Bool.and_eq_true, decide_eq_true_eq, jlen] at ho
    exact of_decide_eq_true ho.1.2
  subst hn
  simp only [jstep, jbinL] at h
  split at h
  · rename_i y x r
    refine lv_ladd X.exec X.code hd ?_
    have hk := X.go h (st_ok1 (r64_w _) (st_tl (st_tl X.hok)))
    simp only [List.map_cons, cv] at hk
    rw [i64_add x y]
    exact hk
  · exact h.elim

theorem s_lsub (ho : okB m pc (.lsub, len, a, b, w, z, ps, mm) = true) (h : jstep C d mc ms RT (Ev C d mc ms m RT) (.lsub, len, a, b, w, z, ps, mm) pc ls st G σ cs ss) : Ev C d mc ms m RT pc ls st G σ cs ss := by
  intro p e R s mi args below meth c E Q H locs lc X
  have hd := okB_d ho
  have hi := okB_i ho
  have hn : len = 1 := by
    simp only [okB, Bool.and_eq_true, decide_eq_true_eq, jlen] at ho
    exact of_decide_eq_true ho.1.2
  subst hn
  simp only [jstep, jbinL] at h
  split at h
  · rename_i y x r
    refine lv_lsub X.exec X.code hd ?_
    have hk := X.go h (st_ok1 (r64_w _) (st_tl (st_tl X.hok)))
    simp only [List.map_cons, cv] at hk
    rw [i64_sub x y]
    exact hk
  · exact h.elim

theorem s_land (ho : okB m pc (.land, len, a, b, w, z, ps, mm) = true) (h : jstep C d mc ms RT (Ev C d mc ms m RT) (.land, len, a, b, w, z, ps, mm) pc ls st G σ cs ss) : Ev C d mc ms m RT pc ls st G σ cs ss := by
  intro p e R s mi args below meth c E Q H locs lc X
  have hd := okB_d ho
  have hi := okB_i ho
  have hn : len = 1 := by
    simp only [okB, Bool.and_eq_true, decide_eq_true_eq, jlen] at ho
    exact of_decide_eq_true ho.1.2
  subst hn
  simp only [jstep, jbinL] at h
  split at h
  · rename_i y x r
    refine lv_land X.exec X.code hd ?_
    have hk := X.go h (st_ok1 (i64_r _) (st_tl (st_tl X.hok)))
    simp only [List.map_cons, cv, jand64, i64_back] at hk
    exact hk
  · exact h.elim

theorem s_lor (ho : okB m pc (.lor, len, a, b, w, z, ps, mm) = true) (h : jstep C d mc ms RT (Ev C d mc ms m RT) (.lor, len, a, b, w, z, ps, mm) pc ls st G σ cs ss) : Ev C d mc ms m RT pc ls st G σ cs ss := by
  intro p e R s mi args below meth c E Q H locs lc X
  have hd := okB_d ho
  have hi := okB_i ho
  have hn : len = 1 := by
    simp only [okB, Bool.and_eq_true, decide_eq_true_eq, jlen] at ho
    exact of_decide_eq_true ho.1.2
  subst hn
  simp only [jstep, jbinL] at h
  split at h
  · rename_i y x r
    refine lv_lor X.exec X.code hd ?_
    have hk := X.go h (st_ok1 (i64_r _) (st_tl (st_tl X.hok)))
    simp only [List.map_cons, cv, jor64, i64_back] at hk
    exact hk
  · exact h.elim

theorem s_lxor (ho : okB m pc (.lxor, len, a, b, w, z, ps, mm) = true) (h : jstep C d mc ms RT (Ev C d mc ms m RT) (.lxor, len, a, b, w, z, ps, mm) pc ls st G σ cs ss) : Ev C d mc ms m RT pc ls st G σ cs ss := by
  intro p e R s mi args below meth c E Q H locs lc X
  have hd := okB_d ho
  have hi := okB_i ho
  have hn : len = 1 := by
    simp only [okB, Bool.and_eq_true, decide_eq_true_eq, jlen] at ho
    exact of_decide_eq_true ho.1.2
  subst hn
  simp only [jstep, jbinL] at h
  split at h
  · rename_i y x r
    refine lv_lxor X.exec X.code hd ?_
    have hk := X.go h (st_ok1 (i64_r _) (st_tl (st_tl X.hok)))
    simp only [List.map_cons, cv, jxor64, i64_back] at hk
    exact hk
  · exact h.elim

theorem s_lshl (ho : okB m pc (.lshl, len, a, b, w, z, ps, mm) = true) (h : jstep C d mc ms RT (Ev C d mc ms m RT) (.lshl, len, a, b, w, z, ps, mm) pc ls st G σ cs ss) : Ev C d mc ms m RT pc ls st G σ cs ss := by
  intro p e R s mi args below meth c E Q H locs lc X
  have hd := okB_d ho
  have hi := okB_i ho
  have hn : len = 1 := by
    simp only [okB, Bool.and_eq_true, decide_eq_true_eq, jlen] at ho
    exact of_decide_eq_true ho.1.2
  subst hn
  simp only [jstep, jsh] at h
  split at h
  · rename_i y x r
    refine lv_lshl X.exec X.code hd rfl ?_
    have hk := X.go h (st_ok1 (i64_r _) (st_tl (st_tl X.hok)))
    simp only [List.map_cons, cv, jshl64, i64_back] at hk
    exact hk
  · exact h.elim

theorem s_lshr (ho : okB m pc (.lshr, len, a, b, w, z, ps, mm) = true) (h : jstep C d mc ms RT (Ev C d mc ms m RT) (.lshr, len, a, b, w, z, ps, mm) pc ls st G σ cs ss) : Ev C d mc ms m RT pc ls st G σ cs ss := by
  intro p e R s mi args below meth c E Q H locs lc X
  have hd := okB_d ho
  have hi := okB_i ho
  have hn : len = 1 := by
    simp only [okB, Bool.and_eq_true, decide_eq_true_eq, jlen] at ho
    exact of_decide_eq_true ho.1.2
  subst hn
  simp only [jstep, jsh] at h
  split at h
  · rename_i y x r
    refine lv_lshr X.exec X.code hd rfl ?_
    have hk := X.go h (st_ok1 (i64_r _) (st_tl (st_tl X.hok)))
    simp only [List.map_cons, cv, jshr64, i64_back] at hk
    exact hk
  · exact h.elim

theorem s_idiv (ho : okB m pc (.idiv, len, a, b, w, z, ps, mm) = true) (h : jstep C d mc ms RT (Ev C d mc ms m RT) (.idiv, len, a, b, w, z, ps, mm) pc ls st G σ cs ss) : Ev C d mc ms m RT pc ls st G σ cs ss := by
  intro p e R s mi args below meth c E Q H locs lc X
  have hd := okB_d ho
  have hi := okB_i ho
  have hn : len = 1 := by
    simp only [okB, Bool.and_eq_true, decide_eq_true_eq, jlen] at ho
    exact of_decide_eq_true ho.1.2
  subst hn
  simp only [jstep] at h
  split at h
  · rename_i y x r
    have hy : r32 y := st_hd X.hok
    have hx : r32 x := st_hd (st_tl X.hok)
    refine lv_idiv X.exec X.code hd (fun q => h.1 ((i32_eq hy r32_0).mp (by rw [q]; rfl))) ?_
    have hk := X.go h.2 (st_ok1 (r32_w _) (st_tl (st_tl X.hok)))
    simp only [List.map_cons, cv] at hk
    rw [i32_div hx hy]
    exact hk
  · exact h.elim

theorem s_irem (ho : okB m pc (.irem, len, a, b, w, z, ps, mm) = true) (h : jstep C d mc ms RT (Ev C d mc ms m RT) (.irem, len, a, b, w, z, ps, mm) pc ls st G σ cs ss) : Ev C d mc ms m RT pc ls st G σ cs ss := by
  intro p e R s mi args below meth c E Q H locs lc X
  have hd := okB_d ho
  have hi := okB_i ho
  have hn : len = 1 := by
    simp only [okB, Bool.and_eq_true, decide_eq_true_eq, jlen] at ho
    exact of_decide_eq_true ho.1.2
  subst hn
  simp only [jstep] at h
  split at h
  · rename_i y x r
    have hy : r32 y := st_hd X.hok
    have hx : r32 x := st_hd (st_tl X.hok)
    refine lv_irem X.exec X.code hd (fun q => h.1 ((i32_eq hy r32_0).mp (by rw [q]; rfl))) ?_
    have hk := X.go h.2 (st_ok1 (i32_tmod_r hx) (st_tl (st_tl X.hok)))
    simp only [List.map_cons, cv] at hk
    rw [i32_rem hx hy]
    exact hk
  · exact h.elim

theorem s_lcmp (ho : okB m pc (.lcmp, len, a, b, w, z, ps, mm) = true) (h : jstep C d mc ms RT (Ev C d mc ms m RT) (.lcmp, len, a, b, w, z, ps, mm) pc ls st G σ cs ss) : Ev C d mc ms m RT pc ls st G σ cs ss := by
  intro p e R s mi args below meth c E Q H locs lc X
  have hd := okB_d ho
  have hi := okB_i ho
  have hn : len = 1 := by
    simp only [okB, Bool.and_eq_true, decide_eq_true_eq, jlen] at ho
    exact of_decide_eq_true ho.1.2
  subst hn
  simp only [jstep] at h
  split at h
  · rename_i y x r
    have hy : r64 y := st_hd X.hok
    have hx : r64 x := st_hd (st_tl X.hok)
    refine W.lcmp X.exec X.code hd ?_
    have hk := X.go h (st_ok1 (jcmp_r x y) (st_tl (st_tl X.hok)))
    simp only [List.map_cons, cv] at hk
    rw [jcmp_lg hx hy]
    exact hk
  · exact h.elim

theorem s_i2l (ho : okB m pc (.i2l, len, a, b, w, z, ps, mm) = true) (h : jstep C d mc ms RT (Ev C d mc ms m RT) (.i2l, len, a, b, w, z, ps, mm) pc ls st G σ cs ss) : Ev C d mc ms m RT pc ls st G σ cs ss := by
  intro p e R s mi args below meth c E Q H locs lc X
  have hd := okB_d ho
  have hi := okB_i ho
  have hn : len = 1 := by
    simp only [okB, Bool.and_eq_true, decide_eq_true_eq, jlen] at ho
    exact of_decide_eq_true ho.1.2
  subst hn
  simp only [jstep] at h
  split at h
  · rename_i x r
    have hx : r32 x := st_hd X.hok
    refine lv_i2l X.exec X.code hd (i32_64 hx) ?_
    exact X.go h (st_ok1 (r32_64 hx) (st_tl X.hok))
  · exact h.elim

theorem s_l2i (ho : okB m pc (.l2i, len, a, b, w, z, ps, mm) = true) (h : jstep C d mc ms RT (Ev C d mc ms m RT) (.l2i, len, a, b, w, z, ps, mm) pc ls st G σ cs ss) : Ev C d mc ms m RT pc ls st G σ cs ss := by
  intro p e R s mi args below meth c E Q H locs lc X
  have hd := okB_d ho
  have hi := okB_i ho
  have hn : len = 1 := by
    simp only [okB, Bool.and_eq_true, decide_eq_true_eq, jlen] at ho
    exact of_decide_eq_true ho.1.2
  subst hn
  simp only [jstep] at h
  split at h
  · rename_i x r
    refine lv_l2i X.exec X.code hd (i64_32 x) ?_
    exact X.go h (st_ok1 (r32_w _) (st_tl X.hok))
  · exact h.elim

theorem s_i2b (ho : okB m pc (.i2b, len, a, b, w, z, ps, mm) = true) (h : jstep C d mc ms RT (Ev C d mc ms m RT) (.i2b, len, a, b, w, z, ps, mm) pc ls st G σ cs ss) : Ev C d mc ms m RT pc ls st G σ cs ss := by
  intro p e R s mi args below meth c E Q H locs lc X
  have hd := okB_d ho
  have hi := okB_i ho
  have hn : len = 1 := by
    simp only [okB, Bool.and_eq_true, decide_eq_true_eq, jlen] at ho
    exact of_decide_eq_true ho.1.2
  subst hn
  simp only [jstep, jun] at h
  split at h
  · rename_i x r
    refine lv_i2b X.exec X.code hd (i32_8 (x := x)) ?_
    exact X.go h (st_ok1 (r32_w8 _) (st_tl X.hok))
  · exact h.elim

theorem s_i2s (ho : okB m pc (.i2s, len, a, b, w, z, ps, mm) = true) (h : jstep C d mc ms RT (Ev C d mc ms m RT) (.i2s, len, a, b, w, z, ps, mm) pc ls st G σ cs ss) : Ev C d mc ms m RT pc ls st G σ cs ss := by
  intro p e R s mi args below meth c E Q H locs lc X
  have hd := okB_d ho
  have hi := okB_i ho
  have hn : len = 1 := by
    simp only [okB, Bool.and_eq_true, decide_eq_true_eq, jlen] at ho
    exact of_decide_eq_true ho.1.2
  subst hn
  simp only [jstep, jun] at h
  split at h
  · rename_i x r
    refine lv_i2s X.exec X.code hd (i32_16 (x := x)) ?_
    exact X.go h (st_ok1 (r32_w16 _) (st_tl X.hok))
  · exact h.elim

theorem s_iconst {n : Int} (ho : okB m pc (.iconst n, len, a, b, w, z, ps, mm) = true) (h : jstep C d mc ms RT (Ev C d mc ms m RT) (.iconst n, len, a, b, w, z, ps, mm) pc ls st G σ cs ss) : Ev C d mc ms m RT pc ls st G σ cs ss := by
  intro p e R s mi args below meth c E Q H locs lc X
  have hd := okB_d ho
  have hi := okB_i ho
  have hn : len = 1 := by
    simp only [okB, Bool.and_eq_true, decide_eq_true_eq, jlen] at ho
    exact of_decide_eq_true ho.1.2
  subst hn
  simp only [okI, Bool.and_eq_true, decide_eq_true_eq] at hi
  simp only [jstep] at h
  exact lv_iconst X.exec X.code hd rfl (X.go h (st_ok1 (by unfold jok r32; exact hi) X.hok))

theorem s_bipush {n : Int} (ho : okB m pc (.bipush n, len, a, b, w, z, ps, mm) = true) (h : jstep C d mc ms RT (Ev C d mc ms m RT) (.bipush n, len, a, b, w, z, ps, mm) pc ls st G σ cs ss) : Ev C d mc ms m RT pc ls st G σ cs ss := by
  intro p e R s mi args below meth c E Q H locs lc X
  have hd := okB_d ho
  have hi := okB_i ho
  have hn : len = 2 := by
    simp only [okB, Bool.and_eq_true, decide_eq_true_eq, jlen] at ho
    exact of_decide_eq_true ho.1.2
  subst hn
  simp only [okI, Bool.and_eq_true, decide_eq_true_eq] at hi
  simp only [jstep] at h
  exact lv_bipush X.exec X.code hd (i8_of hi.1 hi.2) (X.go h (st_ok1 (by unfold jok r32; omega) X.hok))

theorem s_sipush {n : Int} (ho : okB m pc (.sipush n, len, a, b, w, z, ps, mm) = true) (h : jstep C d mc ms RT (Ev C d mc ms m RT) (.sipush n, len, a, b, w, z, ps, mm) pc ls st G σ cs ss) : Ev C d mc ms m RT pc ls st G σ cs ss := by
  intro p e R s mi args below meth c E Q H locs lc X
  have hd := okB_d ho
  have hi := okB_i ho
  have hn : len = 3 := by
    simp only [okB, Bool.and_eq_true, decide_eq_true_eq, jlen] at ho
    exact of_decide_eq_true ho.1.2
  subst hn
  simp only [okI, Bool.and_eq_true, decide_eq_true_eq] at hi
  simp only [jstep] at h
  exact lv_sipush X.exec X.code hd (i16_of hi.1 hi.2) (X.go h (st_ok1 (by unfold jok r32; omega) X.hok))

theorem s_lconst {n : Fin 2} (ho : okB m pc (.lconst n, len, a, b, w, z, ps, mm) = true) (h : jstep C d mc ms RT (Ev C d mc ms m RT) (.lconst n, len, a, b, w, z, ps, mm) pc ls st G σ cs ss) : Ev C d mc ms m RT pc ls st G σ cs ss := by
  intro p e R s mi args below meth c E Q H locs lc X
  have hd := okB_d ho
  have hi := okB_i ho
  have hn : len = 1 := by
    simp only [okB, Bool.and_eq_true, decide_eq_true_eq, jlen] at ho
    exact of_decide_eq_true ho.1.2
  subst hn
  simp only [okI, decide_eq_true_eq] at hi
  simp only [jstep] at h
  subst hi
  exact lv_lconst X.exec X.code hd rfl (X.go h (st_ok1 (by unfold jok r64; have := n.isLt; omega) X.hok))

theorem s_ldc2 {i : Nat} (ho : okB m pc (.ldc2_w i, len, a, b, w, z, ps, mm) = true) (h : jstep C d mc ms RT (Ev C d mc ms m RT) (.ldc2_w i, len, a, b, w, z, ps, mm) pc ls st G σ cs ss) : Ev C d mc ms m RT pc ls st G σ cs ss := by
  intro p e R s mi args below meth c E Q H locs lc X
  have hd := okB_d ho
  have hi := okB_i ho
  have hn : len = 3 := by
    simp only [okB, Bool.and_eq_true, decide_eq_true_eq, jlen] at ho
    exact of_decide_eq_true ho.1.2
  subst hn
  simp only [okI, Bool.and_eq_true, decide_eq_true_eq] at hi
  simp only [jstep] at h
  exact lv_ldc2 X.exec X.code X.own (X.hts _ (jchk_in hi.2 _ List.mem_cons_self)) hd (X.go h (st_ok1 (by unfold jok r64; exact hi.1) X.hok))

theorem s_iload {i : Nat} (ho : okB m pc (.iload i, len, a, b, w, z, ps, mm) = true) (h : jstep C d mc ms RT (Ev C d mc ms m RT) (.iload i, len, a, b, w, z, ps, mm) pc ls st G σ cs ss) : Ev C d mc ms m RT pc ls st G σ cs ss := by
  intro p e R s mi args below meth c E Q H locs lc X
  have hd := okB_d ho
  have hi := okB_i ho
  have hn : len = 2 := by
    simp only [okB, Bool.and_eq_true, decide_eq_true_eq, jlen] at ho
    exact of_decide_eq_true ho.1.2
  subst hn
  simp only [okI, decide_eq_true_eq] at hi
  simp only [jstep, jget] at h
  split at h
  · rename_i v hv
    split at h
    all_goals first | exact h.elim | contradiction | skip
    rename_i x
    subst hi
    exact lv_iload X.exec X.code hd (jlv_get X.hl hv) (X.go h (st_ok1 (X.lok _ _ hv) X.hok))
  · exact h.elim

theorem s_iload_n {i : Fin 4} (ho : okB m pc (.iload_n i, len, a, b, w, z, ps, mm) = true) (h : jstep C d mc ms RT (Ev C d mc ms m RT) (.iload_n i, len, a, b, w, z, ps, mm) pc ls st G σ cs ss) : Ev C d mc ms m RT pc ls st G σ cs ss := by
  intro p e R s mi args below meth c E Q H locs lc X
  have hd := okB_d ho
  have hi := okB_i ho
  have hn : len = 1 := by
    simp only [okB, Bool.and_eq_true, decide_eq_true_eq, jlen] at ho
    exact of_decide_eq_true ho.1.2
  subst hn
  simp only [okI, decide_eq_true_eq] at hi
  simp only [jstep, jget] at h
  split at h
  · rename_i v hv
    split at h
    all_goals first | exact h.elim | contradiction | skip
    rename_i x
    skip
    exact lv_iload_n X.exec X.code hd hi (jlv_get X.hl hv) (X.go h (st_ok1 (X.lok _ _ hv) X.hok))
  · exact h.elim

theorem s_lload {i : Nat} (ho : okB m pc (.lload i, len, a, b, w, z, ps, mm) = true) (h : jstep C d mc ms RT (Ev C d mc ms m RT) (.lload i, len, a, b, w, z, ps, mm) pc ls st G σ cs ss) : Ev C d mc ms m RT pc ls st G σ cs ss := by
  intro p e R s mi args below meth c E Q H locs lc X
  have hd := okB_d ho
  have hi := okB_i ho
  have hn : len = 2 := by
    simp only [okB, Bool.and_eq_true, decide_eq_true_eq, jlen] at ho
    exact of_decide_eq_true ho.1.2
  subst hn
  simp only [okI, decide_eq_true_eq] at hi
  simp only [jstep, jget] at h
  split at h
  · rename_i v hv
    split at h
    all_goals first | exact h.elim | contradiction | skip
    rename_i x
    subst hi
    exact lv_lload X.exec X.code hd (jlv_get X.hl hv) (X.go h (st_ok1 (X.lok _ _ hv) X.hok))
  · exact h.elim

theorem s_lload_n {i : Fin 4} (ho : okB m pc (.lload_n i, len, a, b, w, z, ps, mm) = true) (h : jstep C d mc ms RT (Ev C d mc ms m RT) (.lload_n i, len, a, b, w, z, ps, mm) pc ls st G σ cs ss) : Ev C d mc ms m RT pc ls st G σ cs ss := by
  intro p e R s mi args below meth c E Q H locs lc X
  have hd := okB_d ho
  have hi := okB_i ho
  have hn : len = 1 := by
    simp only [okB, Bool.and_eq_true, decide_eq_true_eq, jlen] at ho
    exact of_decide_eq_true ho.1.2
  subst hn
  simp only [okI, decide_eq_true_eq] at hi
  simp only [jstep, jget] at h
  split at h
  · rename_i v hv
    split at h
    all_goals first | exact h.elim | contradiction | skip
    rename_i x
    skip
    exact lv_lload_n X.exec X.code hd hi (jlv_get X.hl hv) (X.go h (st_ok1 (X.lok _ _ hv) X.hok))
  · exact h.elim

theorem s_aload {i : Nat} (ho : okB m pc (.aload i, len, a, b, w, z, ps, mm) = true) (h : jstep C d mc ms RT (Ev C d mc ms m RT) (.aload i, len, a, b, w, z, ps, mm) pc ls st G σ cs ss) : Ev C d mc ms m RT pc ls st G σ cs ss := by
  intro p e R s mi args below meth c E Q H locs lc X
  have hd := okB_d ho
  have hi := okB_i ho
  have hn : len = 2 := by
    simp only [okB, Bool.and_eq_true, decide_eq_true_eq, jlen] at ho
    exact of_decide_eq_true ho.1.2
  subst hn
  simp only [okI, decide_eq_true_eq] at hi
  simp only [jstep, jget] at h
  split at h
  · rename_i v hv
    subst hi
    split at h
    all_goals first | exact h.elim | contradiction | skip
    · rename_i x hq9
      have hg := jlv_get X.hl hv
      have hk := X.go h (st_ok1 trivial X.hok)
      simp only [cv, List.map_cons] at hg hk
      cases hr : jrf E.1 x with
      | none => rw [hr] at hg hk; exact lv_aloadN X.exec X.code hd hg hk
      | some q => rw [hr] at hg hk; exact lv_aload X.exec X.code hd hg hk
    · exact lv_aload X.exec X.code hd (jlv_get X.hl hv) (X.go h (st_ok1 trivial X.hok))
    · exact lv_aload X.exec X.code hd (jlv_get X.hl hv) (X.go h (st_ok1 trivial X.hok))
  · exact h.elim

theorem s_aload_n {i : Fin 4} (ho : okB m pc (.aload_n i, len, a, b, w, z, ps, mm) = true) (h : jstep C d mc ms RT (Ev C d mc ms m RT) (.aload_n i, len, a, b, w, z, ps, mm) pc ls st G σ cs ss) : Ev C d mc ms m RT pc ls st G σ cs ss := by
  intro p e R s mi args below meth c E Q H locs lc X
  have hd := okB_d ho
  have hi := okB_i ho
  have hn : len = 1 := by
    simp only [okB, Bool.and_eq_true, decide_eq_true_eq, jlen] at ho
    exact of_decide_eq_true ho.1.2
  subst hn
  simp only [okI, decide_eq_true_eq] at hi
  simp only [jstep, jget] at h
  split at h
  · rename_i v hv
    skip
    split at h
    all_goals first | exact h.elim | contradiction | skip
    · rename_i x hq9
      have hg := jlv_get X.hl hv
      have hk := X.go h (st_ok1 trivial X.hok)
      simp only [cv, List.map_cons] at hg hk
      cases hr : jrf E.1 x with
      | none => rw [hr] at hg hk; exact lv_aload_nN X.exec X.code hd hi hg hk
      | some q => rw [hr] at hg hk; exact lv_aload_n X.exec X.code hd hi hg hk
    · exact lv_aload_n X.exec X.code hd hi (jlv_get X.hl hv) (X.go h (st_ok1 trivial X.hok))
    · exact lv_aload_n X.exec X.code hd hi (jlv_get X.hl hv) (X.go h (st_ok1 trivial X.hok))
  · exact h.elim

theorem s_istore {i : Nat} (ho : okB m pc (.istore i, len, a, b, w, z, ps, mm) = true) (h : jstep C d mc ms RT (Ev C d mc ms m RT) (.istore i, len, a, b, w, z, ps, mm) pc ls st G σ cs ss) : Ev C d mc ms m RT pc ls st G σ cs ss := by
  intro p e R s mi args below meth c E Q H locs lc X
  have hd := okB_d ho
  have hi := okB_i ho
  have hn : len = 2 := by
    simp only [okB, Bool.and_eq_true, decide_eq_true_eq, jlen] at ho
    exact of_decide_eq_true ho.1.2
  subst hn
  simp only [okI, Bool.and_eq_true, decide_eq_true_eq] at hi
  simp only [jstep, jput] at h
  obtain ⟨rfl, hi⟩ := hi
  split at h
  all_goals first | exact h.elim | contradiction | skip
  exact lv_istore X.exec X.code hd X.hl hi rfl (fun lc' hl' => h _ _ _ _ _ _ _ _ _ _ _ _ _ _ (X.put (st_hd X.hok) (st_tl X.hok) hl'))

theorem s_istore_n {i : Fin 4} (ho : okB m pc (.istore_n i, len, a, b, w, z, ps, mm) = true) (h : jstep C d mc ms RT (Ev C d mc ms m RT) (.istore_n i, len, a, b, w, z, ps, mm) pc ls st G σ cs ss) : Ev C d mc ms m RT pc ls st G σ cs ss := by
  intro p e R s mi args below meth c E Q H locs lc X
  have hd := okB_d ho
  have hi := okB_i ho
  have hn : len = 1 := by
    simp only [okB, Bool.and_eq_true, decide_eq_true_eq, jlen] at ho
    exact of_decide_eq_true ho.1.2
  subst hn
  simp only [okI, Bool.and_eq_true, decide_eq_true_eq] at hi
  simp only [jstep, jput] at h
  skip
  split at h
  all_goals first | exact h.elim | contradiction | skip
  exact lv_istore_n X.exec X.code hd hi.1 X.hl hi.2 rfl (fun lc' hl' => h _ _ _ _ _ _ _ _ _ _ _ _ _ _ (X.put (st_hd X.hok) (st_tl X.hok) hl'))

theorem s_lstore {i : Nat} (ho : okB m pc (.lstore i, len, a, b, w, z, ps, mm) = true) (h : jstep C d mc ms RT (Ev C d mc ms m RT) (.lstore i, len, a, b, w, z, ps, mm) pc ls st G σ cs ss) : Ev C d mc ms m RT pc ls st G σ cs ss := by
  intro p e R s mi args below meth c E Q H locs lc X
  have hd := okB_d ho
  have hi := okB_i ho
  have hn : len = 2 := by
    simp only [okB, Bool.and_eq_true, decide_eq_true_eq, jlen] at ho
    exact of_decide_eq_true ho.1.2
  subst hn
  simp only [okI, Bool.and_eq_true, decide_eq_true_eq] at hi
  simp only [jstep, jput] at h
  obtain ⟨rfl, hi⟩ := hi
  split at h
  all_goals first | exact h.elim | contradiction | skip
  exact lv_lstore X.exec X.code hd X.hl hi rfl (fun lc' hl' => h _ _ _ _ _ _ _ _ _ _ _ _ _ _ (X.put2 (st_hd X.hok) (st_tl X.hok) hl'))

theorem s_lstore_n {i : Fin 4} (ho : okB m pc (.lstore_n i, len, a, b, w, z, ps, mm) = true) (h : jstep C d mc ms RT (Ev C d mc ms m RT) (.lstore_n i, len, a, b, w, z, ps, mm) pc ls st G σ cs ss) : Ev C d mc ms m RT pc ls st G σ cs ss := by
  intro p e R s mi args below meth c E Q H locs lc X
  have hd := okB_d ho
  have hi := okB_i ho
  have hn : len = 1 := by
    simp only [okB, Bool.and_eq_true, decide_eq_true_eq, jlen] at ho
    exact of_decide_eq_true ho.1.2
  subst hn
  simp only [okI, Bool.and_eq_true, decide_eq_true_eq] at hi
  simp only [jstep, jput] at h
  skip
  split at h
  all_goals first | exact h.elim | contradiction | skip
  exact lv_lstore_n X.exec X.code hd hi.1 X.hl hi.2 rfl (fun lc' hl' => h _ _ _ _ _ _ _ _ _ _ _ _ _ _ (X.put2 (st_hd X.hok) (st_tl X.hok) hl'))

theorem s_astore {i : Nat} (ho : okB m pc (.astore i, len, a, b, w, z, ps, mm) = true) (h : jstep C d mc ms RT (Ev C d mc ms m RT) (.astore i, len, a, b, w, z, ps, mm) pc ls st G σ cs ss) : Ev C d mc ms m RT pc ls st G σ cs ss := by
  intro p e R s mi args below meth c E Q H locs lc X
  have hd := okB_d ho
  have hi := okB_i ho
  have hn : len = 2 := by
    simp only [okB, Bool.and_eq_true, decide_eq_true_eq, jlen] at ho
    exact of_decide_eq_true ho.1.2
  subst hn
  simp only [okI, Bool.and_eq_true, decide_eq_true_eq] at hi
  simp only [jstep, jput] at h
  obtain ⟨rfl, hi⟩ := hi
  split at h
  all_goals first | exact h.elim | contradiction | skip
  · rename_i x r hq9
    show W p C.1 e R s mi args below meth c H locs cs ss Q (F0 mi pc lc (va_rf (jrf E.1 x) :: r.map (cv E)))
    have hP : ∀ lc' : Array Slot, lv_has lc' m.2.2.1 ((i, va_rf (jrf E.1 x)) :: (jlv E ls).filter (fun q => !(q.1 == i) && !(q.1 + 1 == i && q.2.category == 2))) → W p C.1 e R s mi args below meth c H locs cs ss Q (F0 mi (pc + 2) lc' (r.map (cv E))) := fun lc' hl' => h _ _ _ _ _ _ _ _ _ _ _ _ _ _ (X.put (v := vR x) trivial (st_tl X.hok) hl')
    cases hr : jrf E.1 x with
    | none => rw [hr] at hP; exact lv_astoreN X.exec X.code hd X.hl hi rfl hP
    | some q => rw [hr] at hP; exact lv_astore X.exec X.code hd X.hl hi rfl hP
  · exact lv_astore X.exec X.code hd X.hl hi rfl (fun lc' hl' => h _ _ _ _ _ _ _ _ _ _ _ _ _ _ (X.put trivial (st_tl X.hok) hl'))

theorem s_astore_n {i : Fin 4} (ho : okB m pc (.astore_n i, len, a, b, w, z, ps, mm) = true) (h : jstep C d mc ms RT (Ev C d mc ms m RT) (.astore_n i, len, a, b, w, z, ps, mm) pc ls st G σ cs ss) : Ev C d mc ms m RT pc ls st G σ cs ss := by
  intro p e R s mi args below meth c E Q H locs lc X
  have hd := okB_d ho
  have hi := okB_i ho
  have hn : len = 1 := by
    simp only [okB, Bool.and_eq_true, decide_eq_true_eq, jlen] at ho
    exact of_decide_eq_true ho.1.2
  subst hn
  simp only [okI, Bool.and_eq_true, decide_eq_true_eq] at hi
  simp only [jstep, jput] at h
  skip
  split at h
  all_goals first | exact h.elim | contradiction | skip
  · rename_i x r hq9
    show W p C.1 e R s mi args below meth c H locs cs ss Q (F0 mi pc lc (va_rf (jrf E.1 x) :: r.map (cv E)))
    have hP : ∀ lc' : Array Slot, lv_has lc' m.2.2.1 ((a, va_rf (jrf E.1 x)) :: (jlv E ls).filter (fun q => !(q.1 == a) && !(q.1 + 1 == a && q.2.category == 2))) → W p C.1 e R s mi args below meth c H locs cs ss Q (F0 mi (pc + 1) lc' (r.map (cv E))) := fun lc' hl' => h _ _ _ _ _ _ _ _ _ _ _ _ _ _ (X.put (v := vR x) trivial (st_tl X.hok) hl')
    cases hr : jrf E.1 x with
    | none => rw [hr] at hP; exact lv_astore_nN X.exec X.code hd hi.1 X.hl hi.2 rfl hP
    | some q => rw [hr] at hP; exact lv_astore_n X.exec X.code hd hi.1 X.hl hi.2 rfl hP
  · exact lv_astore_n X.exec X.code hd hi.1 X.hl hi.2 rfl (fun lc' hl' => h _ _ _ _ _ _ _ _ _ _ _ _ _ _ (X.put trivial (st_tl X.hok) hl'))

theorem s_iinc {i : Nat} {n : Int} (ho : okB m pc (.iinc i n, len, a, b, w, z, ps, mm) = true) (h : jstep C d mc ms RT (Ev C d mc ms m RT) (.iinc i n, len, a, b, w, z, ps, mm) pc ls st G σ cs ss) : Ev C d mc ms m RT pc ls st G σ cs ss := by
  intro p e R s mi args below meth c E Q H locs lc X
  have hd := okB_d ho
  have hi := okB_i ho
  have hn : len = 3 := by
    simp only [okB, Bool.and_eq_true, decide_eq_true_eq, jlen] at ho
    exact of_decide_eq_true ho.1.2
  subst hn
  simp only [okI, Bool.and_eq_true, decide_eq_true_eq] at hi
  obtain ⟨rfl, hi⟩ := hi
  simp only [jstep, jget] at h
  split at h
  · rename_i v hv
    split at h
    all_goals first | exact h.elim | contradiction | skip
    rename_i x hq9
    obtain ⟨k, hk⟩ := List.mem_iff_getElem?.mp (jlv_mem (E := E).mpr ⟨_, _, hv, rfl⟩)
    exact lv_iinc X.exec X.code hd X.hl hk (i32_add x n) hi rfl (fun lc' hl' => h _ _ _ _ _ _ _ _ _ _ _ _ _ _ (X.put (v := vI (w32 (x + n))) (r32_w _) X.hok hl'))
  · exact h.elim

theorem s_dup (ho : okB m pc (.dup, len, a, b, w, z, ps, mm) = true) (h : jstep C d mc ms RT (Ev C d mc ms m RT) (.dup, len, a, b, w, z, ps, mm) pc ls st G σ cs ss) : Ev C d mc ms m RT pc ls st G σ cs ss := by
  intro p e R s mi args below meth c E Q H locs lc X
  have hd := okB_d ho
  have hi := okB_i ho
  have hn : len = 1 := by
    simp only [okB, Bool.and_eq_true, decide_eq_true_eq, jlen] at ho
    exact of_decide_eq_true ho.1.2
  subst hn
  simp only [jstep] at h
  split at h
  · exact lv_dup X.exec X.code hd rfl (X.go h (st_ok1 (st_hd X.hok) X.hok))
  · rename_i x r
    refine lv_dup X.exec X.code hd ?_ (X.go h (st_ok1 (st_hd X.hok) X.hok))
    cases x with
    | inl x => simp only [cv]; cases jrf E.1 x <;> rfl
    | inr x => cases x <;> rfl
  · exact h.elim

theorem s_dup2 (ho : okB m pc (.dup2, len, a, b, w, z, ps, mm) = true) (h : jstep C d mc ms RT (Ev C d mc ms m RT) (.dup2, len, a, b, w, z, ps, mm) pc ls st G σ cs ss) : Ev C d mc ms m RT pc ls st G σ cs ss := by
  intro p e R s mi args below meth c E Q H locs lc X
  have hd := okB_d ho
  have hi := okB_i ho
  have hn : len = 1 := by
    simp only [okB, Bool.and_eq_true, decide_eq_true_eq, jlen] at ho
    exact of_decide_eq_true ho.1.2
  subst hn
  simp only [jstep] at h
  split at h
  · rename_i y x r
    refine lv_dup2_11 X.exec X.code hd rfl ?_ (X.go h (st_ok1 (st_hd X.hok) (st_ok1 (st_hd (st_tl X.hok)) X.hok)))
    cases x with
    | inl x => simp only [cv]; cases jrf E.1 x <;> rfl
    | inr x => cases x <;> rfl
  · exact h.elim

theorem s_goto {n : Int} (ho : okB m pc (.goto n, len, a, b, w, z, ps, mm) = true) (h : jstep C d mc ms RT (Ev C d mc ms m RT) (.goto n, len, a, b, w, z, ps, mm) pc ls st G σ cs ss) : Ev C d mc ms m RT pc ls st G σ cs ss := by
  intro p e R s mi args below meth c E Q H locs lc X
  have hd := okB_d ho
  have hi := okB_i ho
  have hn : len = 3 := by
    simp only [okB, Bool.and_eq_true, decide_eq_true_eq, jlen] at ho
    exact of_decide_eq_true ho.1.2
  subst hn
  simp only [okI, decide_eq_true_eq] at hi
  simp only [jstep] at h
  exact lv_goto X.exec X.code hd hi (X.go h X.hok)

theorem s_ifCond {cd : Jvm.ClassFile.Cond} {off : Int} (ho : okB m pc (.ifCond cd off, len, a, b, w, z, ps, mm) = true) (h : jstep C d mc ms RT (Ev C d mc ms m RT) (.ifCond cd off, len, a, b, w, z, ps, mm) pc ls st G σ cs ss) : Ev C d mc ms m RT pc ls st G σ cs ss := by
  intro p e R s mi args below meth c E Q H locs lc X
  have hd := okB_d ho
  have hi := okB_i ho
  have hn : len = 3 := by
    simp only [okB, Bool.and_eq_true, decide_eq_true_eq, jlen] at ho
    exact of_decide_eq_true ho.1.2
  subst hn
  simp only [okI, decide_eq_true_eq] at hi
  simp only [jstep] at h
  split at h
  · rename_i x r
    have hx : r32 x := st_hd X.hok
    have hy : r32 0 := r32_0
    have hr := st_tl X.hok
    show W p C.1 e R s mi args below meth c H locs cs ss Q (F0 mi pc lc (.int (Int32.ofInt x) :: r.map (cv E)))
    cases cd with
    | eq => exact lv_if_eq X.exec X.code hd hi (fun q => X.go (h.1 ((i32_eq hx hy).mp q)) hr) (fun q => X.go (h.2 (fun q2 => q ((i32_eq hx hy).mpr q2))) hr)
    | ne => exact lv_if_ne X.exec X.code hd hi (fun q => X.go (h.1 (fun q2 => q ((i32_eq hx hy).mpr q2))) hr) (fun q => X.go (h.2 ((i32_eq hx hy).mp q)) hr)
    | lt => exact lv_if_lt X.exec X.code hd hi (fun q => X.go (h.1 ((i32_lt hx hy).mp q)) hr) (fun q => X.go (h.2 (Int.not_lt.mp (fun q2 => q ((i32_lt hx hy).mpr q2)))) hr)
    | ge => exact lv_if_ge X.exec X.code hd hi (fun q => X.go (h.1 ((i32_le hy hx).mp q)) hr) (fun q => X.go (h.2 (Int.not_le.mp (fun q2 => q ((i32_le hy hx).mpr q2)))) hr)
    | gt => exact lv_if_gt X.exec X.code hd hi (fun q => X.go (h.1 ((i32_lt hy hx).mp q)) hr) (fun q => X.go (h.2 (Int.not_lt.mp (fun q2 => q ((i32_lt hy hx).mpr q2)))) hr)
    | le => exact lv_if_le X.exec X.code hd hi (fun q => X.go (h.1 ((i32_le hx hy).mp q)) hr) (fun q => X.go (h.2 (Int.not_le.mp (fun q2 => q ((i32_le hx hy).mpr q2)))) hr)
  · exact h.elim

theorem s_if_icmp {cd : Jvm.ClassFile.Cond} {off : Int} (ho : okB m pc (.if_icmp cd off, len, a, b, w, z, ps, mm) = true) (h : jstep C d mc ms RT (Ev C d mc ms m RT) (.if_icmp cd off, len, a, b, w, z, ps, mm) pc ls st G σ cs ss) : Ev C d mc ms m RT pc ls st G σ cs ss := by
  intro p e R s mi args below meth c E Q H locs lc X
  have hd := okB_d ho
  have hi := okB_i ho
  have hn : len = 3 := by
    simp only [okB, Bool.and_eq_true, decide_eq_true_eq, jlen] at ho
    exact of_decide_eq_true ho.1.2
  subst hn
  simp only [okI, decide_eq_true_eq] at hi
  simp only [jstep] at h
  split at h
  · rename_i y x r
    have hy : r32 y := st_hd X.hok
    have hx : r32 x := st_hd (st_tl X.hok)
    have hr := st_tl (st_tl X.hok)
    show W p C.1 e R s mi args below meth c H locs cs ss Q (F0 mi pc lc (.int (Int32.ofInt y) :: .int (Int32.ofInt x) :: r.map (cv E)))
    cases cd with
    | eq => exact lv_icmp_eq X.exec X.code hd hi (fun q => X.go (h.1 ((i32_eq hx hy).mp q)) hr) (fun q => X.go (h.2 (fun q2 => q ((i32_eq hx hy).mpr q2))) hr)
    | ne => exact lv_icmp_ne X.exec X.code hd hi (fun q => X.go (h.1 (fun q2 => q ((i32_eq hx hy).mpr q2))) hr) (fun q => X.go (h.2 ((i32_eq hx hy).mp q)) hr)
    | lt => exact lv_icmp_lt X.exec X.code hd hi (fun q => X.go (h.1 ((i32_lt hx hy).mp q)) hr) (fun q => X.go (h.2 (Int.not_lt.mp (fun q2 => q ((i32_lt hx hy).mpr q2)))) hr)
    | ge => exact lv_icmp_ge X.exec X.code hd hi (fun q => X.go (h.1 ((i32_le hy hx).mp q)) hr) (fun q => X.go (h.2 (Int.not_le.mp (fun q2 => q ((i32_le hy hx).mpr q2)))) hr)
    | gt => exact lv_icmp_gt X.exec X.code hd hi (fun q => X.go (h.1 ((i32_lt hy hx).mp q)) hr) (fun q => X.go (h.2 (Int.not_lt.mp (fun q2 => q ((i32_lt hy hx).mpr q2)))) hr)
    | le => exact lv_icmp_le X.exec X.code hd hi (fun q => X.go (h.1 ((i32_le hx hy).mp q)) hr) (fun q => X.go (h.2 (Int.not_le.mp (fun q2 => q ((i32_le hx hy).mpr q2)))) hr)
  · exact h.elim

end SV
