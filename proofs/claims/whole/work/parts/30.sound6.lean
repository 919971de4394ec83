/-! Each step of the small machine is a step of the machine: new cells; all steps together -/
section SV
variable {C : jC} {d mc ms : Nat} {m : jM} {RT : Int → jG → jH → Prop} {ls : List (Option jV)} {st : List jV} {G : jG} {σ : jH} {cs ss : Nat} {pc : Nat} {len a b w : Nat} {z : Int} {ps : List Nat} {mm : jM}

theorem arrV_congr {c : ClassId} {N : Nat} {f g : Nat → Value} (h : ∀ j, j < N → f j = g j) : arrV c N f = arrV c N g := by
  unfold arrV
  have : (fun j : Fin N => f j.val) = (fun j : Fin N => g j.val) := funext fun j => h j.val j.isLt
  rw [this]
theorem jW_push {E : jE} {G G' : jG} {σ σ' : jH} {k : Nat} {new : va_W} (hN : G'.1 = G.1 + k) (hl : new.length = k) (hold : ∀ q : Int, 1 ≤ q → q ≤ G.1 → jcell E G' σ' q = jcell E G σ q) (hnew : ∀ j, j < k → new[j]? = some (E.1 + (G.1 + j + 1), jcell E G' σ' ((G.1 + j + 1 : Nat) : Int))) : jW E G' σ' = jW E G σ ++ new := by
  apply List.ext_getElem?
  intro i
  by_cases h1 : i < G.1
  · rw [jW_at (by omega), List.getElem?_append_left (by rw [jW_len]; exact h1), jW_at h1, hold _ (by omega) (by omega)]
  · rw [List.getElem?_append_right (by rw [jW_len]; omega), jW_len]
    by_cases h2 : i < G.1 + k
    · rw [jW_at (by omega), hnew (i - G.1) (by omega)]
      have : G.1 + (i - G.1) + 1 = i + 1 := by omega
      rw [this]
    · rw [List.getElem?_eq_none (by rw [jW_len]; omega), List.getElem?_eq_none (by omega)]
theorem jnew_old {E : jE} {kind : Nat} {n : Int} {q : Int} (h2 : q ≤ G.1) : jcell E (jnewG G kind n) (jnewH G σ) q = jcell E G σ q := by
  have h3 : q ≠ ((G.1 + 1 : Nat) : Int) := by omega
  refine jcell_eq ?_ (fun j => ?_) (fun j => ?_)
  · show (if q = _ then _ else _) = _
    rw [if_neg h3]
  · show (if q = _ then _ else _) = _
    rw [if_neg h3]
  · show (if q = _ then _ else _) = _
    rw [if_neg h3]
theorem jnew_kind {kind : Nat} {n : Int} : (jnewG G kind n).2.1 ((G.1 + 1 : Nat) : Int) = (kind, n) := by
  show (if _ then _ else _) = _
  rw [if_pos rfl]
theorem jnew_fix {kind : Nat} {n j : Int} : (jnewG G kind n).2.2 ((G.1 + 1 : Nat) : Int) j = 0 := by
  show (if _ then _ else _) = _
  rw [if_pos rfl]
theorem jnew_val {j : Int} : jnewH G σ ((G.1 + 1 : Nat) : Int) j = 0 := by
  show (if _ then _ else _) = _
  rw [if_pos rfl]
theorem jzero_wf {t : Nat} : jokt t 0 := by
  unfold jokt
  split
  · unfold r64; omega
  · trivial
  · trivial
  · omega
  · exact r32_0
theorem jnew_gw {kind : Nat} {n : Int} (h : jgw G) (h0 : 0 ≤ n) (h1 : n < 2147483648) (hc : ∀ ci, kind = ci + 8 → ∃ r : vw_C, jcl[ci]? = some r ∧ n = (r.2.2 : Int)) : jgw (jnewG G kind n) := by
  intro o ho
  by_cases he : o = ((G.1 + 1 : Nat) : Int)
  · subst he
    rw [jnew_kind]
    refine ⟨by omega, ?_, h0, h1, hc⟩
    show _ ≤ ((G.1 + 1 : Nat) : Int)
    omega
  · have e : (jnewG G kind n).2.1 o = G.2.1 o := by
      show (if _ then _ else _) = _
      rw [if_neg he]
    rw [e] at ho ⊢
    obtain ⟨g1, g2, g3⟩ := h o ho
    refine ⟨g1, ?_, g3⟩
    show o ≤ ((G.1 + 1 : Nat) : Int)
    omega
theorem jnew_wf {kind : Nat} {n : Int} (h : jwf G σ) : jwf (jnewG G kind n) (jnewH G σ) := by
  intro o i hi
  by_cases he : o = ((G.1 + 1 : Nat) : Int)
  · subst he
    rw [jnew_kind, jnew_val]
    split
    · exact r32_0
    · omega
    · omega
    · unfold r64; omega
    · exact jzero_wf
    · trivial
  · have e : (jnewG G kind n).2.1 o = G.2.1 o := by
      show (if _ then _ else _) = _
      rw [if_neg he]
    have e2 : jnewH G σ o (i : Int) = σ o (i : Int) := by
      show (if _ then _ else _) = _
      rw [if_neg he]
    rw [e] at hi ⊢
    rw [e2]
    exact h o i hi
/-- behind a new cell -/
theorem jnew_go {p : Program} {e : Env} {R : Room} {s : State} {mi : MethodId} {args : Array Value} {below : List Frame} {meth : Method} {c : Code} {E : jE} {Q : State → Prop} {H H1 : Heap} {locs : List Loc} {lc : Array Slot} {kind : Nat} {n : Int} {r : List jV} {pc2 cs2 ss2 : Nat}
    (X : jcx C d mc ms m RT p e R s mi args below meth c E Q ls st G σ cs ss H locs lc) (hr : ∀ v ∈ r, jok v) (h0 : 0 ≤ n) (h1 : n < 2147483648) (hc : ∀ ci, kind = ci + 8 → ∃ r : vw_C, jcl[ci]? = some r ∧ n = (r.2.2 : Int)) (hcell : va_at E.2.1 jcl (H.size, jcell E (jnewG G kind n) (jnewH G σ) ((G.1 + 1 : Nat) : Int)) H1) (hz : H1.size = H.size + 1) (ho : ∀ q, q < H.size → H1[q]? = H[q]?) (hcs : cs2 ≤ mc) (hss : ss2 ≤ ms)
    (hk : Ev C d mc ms m RT pc2 ls (vR ((G.1 + 1 : Nat) : Int) :: r) (jnewG G kind n) (jnewH G σ) cs2 ss2) : W p C.1 e R s mi args below meth c H1 locs cs2 ss2 Q (F0 mi pc2 lc (.ref H.size :: r.map (cv E))) := by
  have hsz := X.wd.1
  have hP0 : va_P E.2.1 jcl (jW E G σ) H1 := X.P.kept (fun k x hx => ho x.1 ((X.P k x hx).lt))
  have hW : jW E (jnewG G kind n) (jnewH G σ) = jW E G σ ++ [(H.size, jcell E (jnewG G kind n) (jnewH G σ) ((G.1 + 1 : Nat) : Int))] := jW_push (k := 1) rfl rfl (fun q _ h2 => jnew_old h2) (fun j hj => by
    have : j = 0 := by omega
    subst this
    rw [hsz]
    rfl)
  have hP1 : va_P E.2.1 jcl (jW E (jnewG G kind n) (jnewH G σ)) H1 := by
    rw [hW]
    refine hP0.app (fun k x hx => ?_)
    have hk0 : k < 1 := (List.getElem?_eq_some_iff.mp hx).1
    rw [show k = 0 by omega] at hx
    cases hx
    exact hcell
  have e1 : cv E (vR ((G.1 + 1 : Nat) : Int)) = .ref H.size := by
    rw [cv_ref (by omega), hsz]
    congr 1
  have := hk p e R s mi args below meth c E Q H1 locs lc ⟨X.1, X.2.1, st_ok1 trivial hr, X.2.2.2.1, ⟨?_, jnew_gw X.wd.2.1 h0 h1 hc, jnew_wf X.wd.2.2.1, hP1⟩, ⟨by have := X.S.1; omega, fun q g1 g2 => ?_, X.S.2.2⟩, X.hl, hcs, hss⟩
  · rw [List.map_cons, e1] at this
    exact this
  · show H1.size = E.1 + (G.1 + 1) + 1
    omega
  · rw [ho q (Nat.lt_of_lt_of_le g1 X.S.1)]
    exact X.S.2.1 q g1 g2
theorem dflt_ok {t : Nat} {ty : FieldType} {E : jE} (h : jtyk t ty = true) : defaultValue ty = cv E (jfv t 0 0) := by
  unfold jtyk at h
  split at h <;> first | rfl | cases h

theorem s_new {i : Nat} (ho : okB m pc (.new i, len, a, b, w, z, ps, mm) = true) (h : jstep C d mc ms RT (Ev C d mc ms m RT) (.new i, len, a, b, w, z, ps, mm) pc ls st G σ cs ss) : Ev C d mc ms m RT pc ls st G σ cs ss := by
  intro p e R s mi args below meth c E Q H locs lc X
  have hd := okB_d ho
  have hi := okB_i ho
  have hn : len = 3 := by
    simp only [okB, Bool.and_eq_true, decide_eq_true_eq, jlen] at ho
    exact of_decide_eq_true ho.1.2
  subst hn
  simp only [okI] at hi
  simp only [jstep] at h
  obtain ⟨hc1, hs1, hk⟩ := h
  split at hi
  · rename_i rr hcl
    simp only [Bool.and_eq_true, decide_eq_true_eq] at hi
    obtain ⟨⟨rfl, hb⟩, hps⟩ := hi
    have hts := fun w hw => X.hts w (jchk_in hps w hw)
    have hKn := X.K.1 a rr hcl
    refine W.newcK X.exec X.code X.own (hts (.classLink m.1.cls i rr.1) (by simp)) (hts (.instantiable rr.1 rr.2.2) (by simp)) (hts (.initialized rr.1) (by simp)) rfl hd (by rw [X.rm]; exact hc1) (by rw [X.rm]; exact hs1) hKn.2.1 rfl (fun H1 kC hkC e1 z1 o1 => ?_)
    refine jnew_go X X.hok (by omega) (by omega) (fun ci h9 => ⟨rr, (by have h8 : a = ci := (by omega); rw [← h8]; exact hcl), rfl⟩) ?_ z1 o1 hc1 hs1 hk
    rw [jcell_ob (ci := a) (by rw [jnew_kind]), jnew_kind]
    refine ⟨rr, hcl, (u_born (jtyf rr) X.hts (jcl_ws hcl) hKn hkC e1 (jcl_tyf hcl)).to (fun j hj => ?_)⟩
    obtain ⟨ty, t1, t2⟩ := jcl_ty hcl hj
    have e2 : jtyf rr j = ty := by unfold jtyf; rw [t1]; rfl
    show defaultValue (jtyf rr j) = _
    rw [e2, dflt_ok (E := E) t2]
    show _ = List.getD _ j _
    rw [List.getD_eq_getElem?_getD, List.getElem?_map, List.getElem?_range (by show j < ((rr.2.2 : Nat) : Int).toNat; omega)]
    simp only [Option.map_some, Option.getD_some, jnew_val, jnew_fix]
  · cases hi

theorem ra_name {E : jE} {s : State} (h : va_K E.2.1 jcl (jtys E.2.2.1) s) : s.vm.findClass ("[" ++ (FieldType.int).toString) = some (E.2.2.1 1) ∧ s.vm.findClass ("[" ++ (FieldType.byte).toString) = some (E.2.2.1 2) ∧ s.vm.findClass ("[" ++ (FieldType.boolean).toString) = some (E.2.2.1 3) ∧ s.vm.findClass ("[" ++ (FieldType.long).toString) = some (E.2.2.1 4) ∧ s.vm.findClass ("[" ++ (FieldType.object "WordPlaces$Image").toString) = some (E.2.2.1 5) ∧ s.vm.findClass ("[" ++ (FieldType.array .byte).toString) = some (E.2.2.1 6) ∧ s.vm.findClass ("[" ++ (FieldType.array .boolean).toString) = some (E.2.2.1 7) := by
  refine ⟨(h.2 0 _ rfl).2, (h.2 1 _ rfl).2, (h.2 2 _ rfl).2, (h.2 3 _ rfl).2, ?_, (h.2 5 _ rfl).2, (h.2 6 _ rfl).2⟩
  obtain ⟨_, _, _, _, _, h4⟩ := (h.2 4 _ rfl).2
  exact h4
theorem lt0_32 {x : Int} (h0 : 0 ≤ x) (h1 : x < 2147483648) : ¬ Int32.ofInt x < 0 := fun q => by
  rw [i32_0] at q
  have := (i32_lt (by unfold r32; omega) r32_0).mp q
  omega

theorem s_newarray {t : ArrayType} (ho : okB m pc (.newarray t, len, a, b, w, z, ps, mm) = true) (h : jstep C d mc ms RT (Ev C d mc ms m RT) (.newarray t, len, a, b, w, z, ps, mm) pc ls st G σ cs ss) : Ev C d mc ms m RT pc ls st G σ cs ss := by
  intro p e R s mi args below meth c E Q H locs lc X
  have hd := okB_d ho
  have hi := okB_i ho
  have hn : len = 2 := by
    simp only [okB, Bool.and_eq_true, decide_eq_true_eq, jlen] at ho
    exact of_decide_eq_true ho.1.2
  subst hn
  simp only [okI, Bool.and_eq_true] at hi
  obtain ⟨hw, hps⟩ := hi
  have hts := fun w hw => X.hts w (jchk_in hps w hw)
  simp only [jstep] at h
  split at h
  · rename_i n r
    obtain ⟨h0, h1, hc1, hs1, hk⟩ := h
    have hn : (Int32.ofInt n).toNatClampNeg = n.toNat := i32_clamp h0 (by omega)
    obtain ⟨k1, k2, k3, k4, -⟩ := ra_name X.K
    have hby : n.toNat * componentBytes (newarray.typeOf t) ≤ 536870912 := by
      have : componentBytes (newarray.typeOf t) ≤ 8 := by cases t <;> decide
      have := Nat.mul_le_mul_left n.toNat this
      omega
    show W p C.1 e R s mi args below meth c H locs cs ss Q (F0 mi pc lc (.int (Int32.ofInt n) :: r.map (cv E)))
    refine va_newaK X.exec X.code (hts _ List.mem_cons_self) rfl hd rfl (lt0_32 h0 (by omega)) hn hby (by rw [X.rm]; exact hc1) (by rw [X.rm]; exact hs1) rfl (fun H1 cA e1 z1 o1 hAr hNm => ?_)
    refine jnew_go X (st_tl X.hok) h0 (by omega) (fun ci h9 => ?_) ?_ z1 o1 hc1 hs1 hk
    · split at hw
      · omega
      · omega
      · omega
      · omega
      · cases hw
    · have hz2 : (jnewG G w n).2.1 ((G.1 + 1 : Nat) : Int) = (w, n) := jnew_kind
      split at hw
      · rw [jcell_i (t := 1) (by rw [hz2]) (by omega) (by omega), hz2]
        have : cA = E.2.2.1 1 := Option.some.inj (hNm.symm.trans k1)
        subst this
        refine e1.trans ?_
        simp only [jnew_val]
        rfl
      · rw [jcell_i (t := 2) (by rw [hz2]) (by omega) (by omega), hz2]
        have : cA = E.2.2.1 2 := Option.some.inj (hNm.symm.trans k2)
        subst this
        refine e1.trans ?_
        simp only [jnew_val]
        rfl
      · rw [jcell_i (t := 3) (by rw [hz2]) (by omega) (by omega), hz2]
        have : cA = E.2.2.1 3 := Option.some.inj (hNm.symm.trans k3)
        subst this
        refine e1.trans ?_
        simp only [jnew_val]
        rfl
      · rw [jcell_l (by rw [hz2]), hz2]
        have : cA = E.2.2.1 4 := Option.some.inj (hNm.symm.trans k4)
        subst this
        refine e1.trans ?_
        simp only [jnew_val]
        rfl
      · cases hw
  · exact h.elim

theorem s_anewarray {i : Nat} (ho : okB m pc (.anewarray i, len, a, b, w, z, ps, mm) = true) (h : jstep C d mc ms RT (Ev C d mc ms m RT) (.anewarray i, len, a, b, w, z, ps, mm) pc ls st G σ cs ss) : Ev C d mc ms m RT pc ls st G σ cs ss := by
  intro p e R s mi args below meth c E Q H locs lc X
  have hd := okB_d ho
  have hi := okB_i ho
  have hn : len = 3 := by
    simp only [okB, Bool.and_eq_true, decide_eq_true_eq, jlen] at ho
    exact of_decide_eq_true ho.1.2
  subst hn
  simp only [okI] at hi
  have hts := fun w hw => X.hts w (jchk_in hi w hw)
  simp only [jstep] at h
  split at h
  · rename_i n r
    obtain ⟨h0, h1, hc1, hs1, hk⟩ := h
    have hn : (Int32.ofInt n).toNatClampNeg = n.toNat := i32_clamp h0 (by omega)
    obtain ⟨-, -, -, -, k5, -⟩ := ra_name X.K
    show W p C.1 e R s mi args below meth c H locs cs ss Q (F0 mi pc lc (.int (Int32.ofInt n) :: r.map (cv E)))
    rw [show ss + n.toNat = ss + (Int32.ofInt n).toNatClampNeg by rw [hn]] at hk hs1
    refine W.anew X.exec X.code X.own (hts _ List.mem_cons_self) (va_AO.use X.stat.2.1.1) rfl hd rfl (lt0_32 h0 (by omega)) (by rw [hn]; omega) (by rw [X.rm]; exact hc1) (by rw [X.rm]; exact hs1) (fun cA kA comp f1 f2 f3 f4 => ?_)
    refine jnew_go X (st_tl X.hok) h0 (by omega) (fun ci h9 => by omega) ?_ (by rw [Array.size_push]) (fun q hq => by rw [Array.getElem?_push, if_neg (Nat.ne_of_lt hq)]) hc1 hs1 hk
    have hz2 : (jnewG G 5 n).2.1 ((G.1 + 1 : Nat) : Int) = (5, n) := jnew_kind
    rw [jcell_q (t := 5) (by rw [hz2]) (by omega) (by omega), hz2]
    have : cA = E.2.2.1 5 := Option.some.inj (f1.symm.trans k5)
    subst this
    show (H.push _)[H.size]? = some (vp_cell _ _)
    rw [Array.getElem?_push_size, hn]
    simp only [jnew_fix]
    rw [vp_cell_q, ← arrV_new]
    rfl
  · exact h.elim

theorem outer_is (cA : ClassId) (N h0 : Nat) : ∀ i, Jvm.Free.Multi.outerC cA N h0 i = arrV cA N (fun j => if j < i then .ref (h0 + 1 + j) else .null)
  | 0 => by
    show ({ cls := cA, slots := Array.replicate N .null, vm := .none } : Cell) = _
    rw [arrV_new]
    exact arrV_congr (fun j _ => by simp)
  | i + 1 => by
    show (Jvm.Free.Multi.outerC cA N h0 i).setSlot i (.ref (h0 + 1 + i)) = _
    rw [outer_is cA N h0 i, arrV_store]
    refine arrV_congr (fun j _ => ?_)
    unfold updV
    by_cases h1 : j = i
    · subst h1
      simp
    · by_cases h2 : j < i
      · simp [h1, h2, Nat.lt_succ_of_lt h2]
      · simp [h1, h2, show ¬ j < i + 1 by omega]

theorem s_multianewarray {i k9 : Nat} (ho : okB m pc (.multianewarray i k9, len, a, b, w, z, ps, mm) = true) (h : jstep C d mc ms RT (Ev C d mc ms m RT) (.multianewarray i k9, len, a, b, w, z, ps, mm) pc ls st G σ cs ss) : Ev C d mc ms m RT pc ls st G σ cs ss := by
  intro p e R s mi args below meth c E Q H locs lc X
  have hd := okB_d ho
  have hi := okB_i ho
  have hn : len = 4 := by
    simp only [okB, Bool.and_eq_true, decide_eq_true_eq, jlen] at ho
    exact of_decide_eq_true ho.1.2
  subst hn
  simp only [okI, Bool.and_eq_true, decide_eq_true_eq] at hi
  obtain ⟨rfl, hw⟩ := hi
  simp only [jstep] at h
  split at h
  · rename_i n2 n r
    obtain ⟨h0, h1, g0, g1, hc1, hs1, hk⟩ := h
    have hn : (Int32.ofInt n).toNatClampNeg = n.toNat := i32_clamp h0 (by omega)
    have hn2 : (Int32.ofInt n2).toNatClampNeg = n2.toNat := i32_clamp g0 (by omega)
    have hd1 : decode m.2.1 pc = .ok (.multianewarray i 2, 4) := hd
    obtain ⟨ty, hw2, hin, hcn, hcl9, hla, hc3, hdf, hdd, hby, hdz⟩ : ∃ ty : FieldType, (w = 2 ∨ w = 3) ∧ s.vm.findClass (FieldType.array ty).toString = some (E.2.2.1 w) ∧ s.vm.findClass ("[" ++ (FieldType.array ty).toString) = some (E.2.2.1 (w + 4)) ∧ (Cond.classLink m.1.cls i ("[" ++ (FieldType.array ty).toString)).before args s = true ∧ (Cond.arrayOver (.array ty)).before args s = true ∧ (Cond.arrayClass ty).before args s = true ∧ fits ty (defaultValue ty) = true ∧ (defaultValue ty).isDefault = true ∧ componentBytes ty ≤ 8 ∧ defaultValue ty = .int (Int32.ofInt 0) := by
      obtain ⟨k1, k2, k3, k4, k5, k6, k7⟩ := ra_name X.K
      split at hw
      · have hts := fun w hw2 => X.hts w (jchk_in hw w hw2)
        exact ⟨.byte, Or.inl rfl, k2, k6, hts _ (by simp), X.stat.2.1.2.1, hts _ (by simp), rfl, rfl, by decide, rfl⟩
      · have hts := fun w hw2 => X.hts w (jchk_in hw w hw2)
        exact ⟨.boolean, Or.inr rfl, k3, k7, hts _ (by simp), X.stat.2.1.2.2, hts _ (by simp), rfl, rfl, by decide, rfl⟩
      · cases hw
    show W p C.1 e R s mi args below meth c H locs cs ss Q (F0 mi pc lc (.int (Int32.ofInt n2) :: .int (Int32.ofInt n) :: r.map (cv E)))
    intro T hT Xs
    have hmul : n2.toNat * componentBytes ty ≤ 536870912 := by
      have := Nat.mul_le_mul_left n2.toNat hby
      omega
    obtain ⟨vm₁, cA, comp, -, fA, fC, hO, -, X', step⟩ := Xs.multianewarray2F X.exec X.own hcl9 hla hc3 (g := F0 mi pc lc (.int (Int32.ofInt n2) :: .int (Int32.ofInt n) :: r.map (cv E))) rfl (by rw [X.code]; exact hd1) rfl (lt0_32 h0 (by omega)) (lt0_32 g0 (by omega)) (by rw [hn]; omega) (by rw [hn2]; exact hmul) (by rw [hn2]; omega) hdf hdd (by rw [hn, X.rm]; show cs + (1 + n.toNat) ≤ mc; omega) (by rw [hn, hn2, X.rm]; show ss + (n.toNat + n.toNat * n2.toNat) ≤ ms; omega)
    rw [hn, hn2] at X' step
    have ec : comp = E.2.2.1 w := Option.some.inj (fC.symm.trans hin)
    have ea : cA = E.2.2.1 (w + 4) := Option.some.inj (fA.symm.trans hcn)
    subst ec
    subst ea
    generalize hF : Jvm.Free.Multi.fill (T.setVm vm₁) (E.2.2.1 (w + 4)) (E.2.2.1 w) n.toNat n2.toNat (defaultValue ty) n.toNat = F at X' step
    have hTh : (T.setVm vm₁).heap = H := hT
    obtain ⟨f1, f2, -, -⟩ := Jvm.Free.Multi.fill_facts (T.setVm vm₁) (E.2.2.1 (w + 4)) (E.2.2.1 w) n.toNat n2.toNat (defaultValue ty) n.toNat
    rw [hF, hTh] at f1 f2
    have hold : ∀ x : Nat, x < H.size → F.heap[x]? = H[x]? := fun x hx => by
      have := Jvm.Free.Multi.fill_old (T.setVm vm₁) (E.2.2.1 (w + 4)) (E.2.2.1 w) n.toNat n2.toNat (defaultValue ty) (a := x) (by rw [hTh]; exact hx) n.toNat
      rw [hF, hTh] at this
      exact this
    have hrow : ∀ j : Nat, j < n.toNat → F.heap[H.size + 1 + j]? = some (arrV (E.2.2.1 w) n2.toNat (fun _ => .int (Int32.ofInt 0))) := fun j hj => by
      have := Jvm.Free.Multi.fill_inner (T.setVm vm₁) (E.2.2.1 (w + 4)) (E.2.2.1 w) n.toNat n2.toNat (defaultValue ty) n.toNat j hj
      rw [hF, hTh, hdz] at this
      rw [this, ← arrV_new]
      rfl
    rw [outer_is] at f2
    have hsz := X.wd.1
    -- the new world
    have hkO : (jgridG G (w + 4) w n n2).2.1 ((G.1 + 1 : Nat) : Int) = (w + 4, n) := by
      show (if _ then _ else _) = _
      rw [if_pos rfl]
    have hkR : ∀ o : Int, ((G.1 + 1 : Nat) : Int) < o → o ≤ ((G.1 + 1 : Nat) : Int) + n → (jgridG G (w + 4) w n n2).2.1 o = (w, n2) ∧ (∀ j, (jgridG G (w + 4) w n n2).2.2 o j = 0) ∧ ∀ j, jgridH G σ n o j = 0 := fun o o1 o2 => by
      refine ⟨?_, fun j => ?_, fun j => ?_⟩
      · show (if _ then _ else if _ then _ else _) = _
        rw [if_neg (by omega), if_pos ⟨o1, o2⟩]
      · show (if _ then _ else if _ then _ else _) = _
        rw [if_neg (by omega), if_pos ⟨o1, o2⟩]
      · show (if _ then _ else _) = _
        rw [if_pos ⟨by omega, o2⟩]
    have hkS : ∀ o : Int, (o ≤ G.1 ∨ ((G.1 + 1 : Nat) : Int) + n < o) → (jgridG G (w + 4) w n n2).2.1 o = G.2.1 o ∧ (∀ j, (jgridG G (w + 4) w n n2).2.2 o j = G.2.2 o j) ∧ ∀ j, jgridH G σ n o j = σ o j := fun o o1 => by
      refine ⟨?_, fun j => ?_, fun j => ?_⟩
      · show (if _ then _ else if _ then _ else _) = _
        rw [if_neg (by omega), if_neg (by omega)]
      · show (if _ then _ else if _ then _ else _) = _
        rw [if_neg (by omega), if_neg (by omega)]
      · show (if _ then _ else _) = _
        rw [if_neg (by omega)]
    have hgw : jgw (jgridG G (w + 4) w n n2) := by
      intro o ho
      have hN : ((jgridG G (w + 4) w n n2).1 : Int) = G.1 + 1 + n := by
        show ((G.1 + 1 + n.toNat : Nat) : Int) = _
        omega
      by_cases c1 : o = ((G.1 + 1 : Nat) : Int)
      · subst c1
        rw [hkO, hN]
        exact ⟨by omega, by omega, h0, by omega, fun ci h9 => by omega⟩
      · by_cases c2 : ((G.1 + 1 : Nat) : Int) < o ∧ o ≤ ((G.1 + 1 : Nat) : Int) + n
        · rw [(hkR o c2.1 c2.2).1, hN]
          exact ⟨by omega, by omega, g0, by omega, fun ci h9 => by omega⟩
        · have hs := (hkS o (by omega)).1
          rw [hs] at ho ⊢
          obtain ⟨q1, q2, q3⟩ := X.wd.2.1 o ho
          exact ⟨q1, by rw [hN]; omega, q3⟩
    have hwf : jwf (jgridG G (w + 4) w n n2) (jgridH G σ n) := by
      intro o i9 hi9
      by_cases c1 : o = ((G.1 + 1 : Nat) : Int)
      · subst c1
        rw [hkO]
        rcases hw2 with rfl | rfl <;> trivial
      · by_cases c2 : ((G.1 + 1 : Nat) : Int) < o ∧ o ≤ ((G.1 + 1 : Nat) : Int) + n
        · obtain ⟨q1, q2, q3⟩ := hkR o c2.1 c2.2
          rw [q1, q3]
          rcases hw2 with rfl | rfl
          · show (-128 : Int) ≤ 0 ∧ (0 : Int) < 128
            omega
          · show (0 : Int) ≤ 0 ∧ (0 : Int) ≤ 1
            omega
        · obtain ⟨q1, q2, q3⟩ := hkS o (by omega)
          rw [q1] at hi9 ⊢
          rw [q3]
          exact X.wd.2.2.1 o i9 hi9
    have hW : jW E (jgridG G (w + 4) w n n2) (jgridH G σ n) = jW E G σ ++ (List.range (n.toNat + 1)).map (fun j => (E.1 + (G.1 + j + 1), jcell E (jgridG G (w + 4) w n n2) (jgridH G σ n) ((G.1 + j + 1 : Nat) : Int))) :=
      jW_push (k := n.toNat + 1) (by show G.1 + 1 + n.toNat = _; omega) (by simp) (fun q q1 q2 => jcell_eq (hkS q (Or.inl q2)).1 (hkS q (Or.inl q2)).2.1 (hkS q (Or.inl q2)).2.2) (fun j hj => by rw [List.getElem?_map, List.getElem?_range hj]; rfl)
    have hP0 : va_P E.2.1 jcl (jW E G σ) F.heap := X.P.kept (fun k9 x hx => hold x.1 ((X.P k9 x hx).lt))
    have hP1 : va_P E.2.1 jcl (jW E (jgridG G (w + 4) w n n2) (jgridH G σ n)) F.heap := by
      rw [hW]
      refine hP0.app (fun k9 x hx => ?_)
      have hk9 : k9 < n.toNat + 1 := by
        have := (List.getElem?_eq_some_iff.mp hx).1
        simpa using this
      rw [List.getElem?_map, List.getElem?_range hk9] at hx
      cases hx
      show va_at E.2.1 jcl (E.1 + (G.1 + k9 + 1), jcell E (jgridG G (w + 4) w n n2) (jgridH G σ n) ((G.1 + k9 + 1 : Nat) : Int)) F.heap
      by_cases c1 : k9 = 0
      · subst c1
        rw [show ((G.1 + 0 + 1 : Nat) : Int) = ((G.1 + 1 : Nat) : Int) from rfl, jcell_q (t := w + 4) (by rw [hkO]) (by omega) (by omega), hkO]
        show F.heap[E.1 + (G.1 + 0 + 1)]? = some (vp_cell _ _)
        rw [show E.1 + (G.1 + 0 + 1) = H.size by omega, f2, vp_cell_q]
        congr 1
        refine arrV_congr (fun j hj => ?_)
        rw [if_pos hj]
        have e9 : (jgridG G (w + 4) w n n2).2.2 ((G.1 + 1 : Nat) : Int) (j : Int) = ((G.1 + 1 : Nat) : Int) + 1 + (j : Int) := by
          show (if _ then _ else _) = _
          rw [if_pos rfl]
        rw [e9, jrf_pos (by omega)]
        show Value.ref (H.size + 1 + j) = Value.ref (E.1 + (((G.1 + 1 : Nat) : Int) + 1 + (j : Int)).toNat)
        have e7 : H.size + 1 + j = E.1 + (((G.1 + 1 : Nat) : Int) + 1 + (j : Int)).toNat := by omega
        rw [e7]
      · obtain ⟨q1, q2, q3⟩ := hkR ((G.1 + k9 + 1 : Nat) : Int) (by omega) (by omega)
        rw [jcell_i (t := w) (by rw [q1]) (by omega) (by omega), q1]
        show F.heap[E.1 + (G.1 + k9 + 1)]? = some (vp_cell _ _)
        have := hrow (k9 - 1) (by omega)
        rw [show H.size + 1 + (k9 - 1) = E.1 + (G.1 + k9 + 1) by omega] at this
        rw [this, vp_cell_i]
        simp only [q3]
    have e1 : cv E (vR ((G.1 + 1 : Nat) : Int)) = .ref H.size := by
      rw [cv_ref (by omega), hsz]
      congr 1
    have hfin := hk p e R s mi args below meth c E Q F.heap locs lc ⟨X.1, X.2.1, st_ok1 trivial (st_tl (st_tl X.hok)), X.2.2.2.1, ⟨by rw [f1, hsz]; show _ = E.1 + (G.1 + 1 + n.toNat) + 1; omega, hgw, hwf, hP1⟩, ⟨by rw [f1]; have := X.S.1; omega, fun q q1 q2 => by rw [hold q (Nat.lt_of_lt_of_le q1 X.S.1)]; exact X.S.2.1 q q1 q2, X.S.2.2⟩, X.hl, hc1, hs1⟩
    rw [List.map_cons, e1] at hfin
    obtain ⟨t, a1, b1⟩ := hfin F rfl X'
    refine ⟨t, step t ?_, b1⟩
    rw [hT]
    exact a1
  · exact h.elim

end SV
