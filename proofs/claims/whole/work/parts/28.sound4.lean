/-! Each step of the small machine is a step of the machine: aastore, copies, numbers of the library, texts, jumps by table, ends -/
section SV
variable {C : jC} {d mc ms : Nat} {m : jM} {RT : Int → jG → jH → Prop} {ls : List (Option jV)} {st : List jV} {G : jG} {σ : jH} {cs ss : Nat} {pc : Nat} {len a b w : Nat} {z : Int} {ps : List Nat} {mm : jM}

theorem s_aastore (ho : okB m pc (.aastore, len, a, b, w, z, ps, mm) = true) (h : jstep C d mc ms RT (Ev C d mc ms m RT) (.aastore, len, a, b, w, z, ps, mm) pc ls st G σ cs ss) : Ev C d mc ms m RT pc ls st G σ cs ss := by
  intro p e R s mi args below meth c E Q H locs lc X
  have hd := okB_d ho
  have hi := okB_i ho
  have hn : len = 1 := by
    simp only [okB, Bool.and_eq_true, decide_eq_true_eq, jlen] at ho
    exact of_decide_eq_true ho.1.2
  subst hn
  simp only [okI] at hi
  simp only [jstep] at h
  split at h
  · rename_i x i q r
    obtain ⟨hq, h0, hl, hx, hk⟩ := h
    split at hi
    · rename_i rr hcl
      have hnm : rr.1 = "WordPlaces$Image" := of_decide_eq_true hi
      obtain ⟨g1, g2, g3, g4⟩ := arr_at X.wd hq (by omega)
      obtain ⟨x1, x2, x3, x4, x5⟩ := X.wd.2.1 x (by rw [hx]; omega)
      have hget := jW_get (E := E) (σ := σ) g1 g2
      rw [jcell_q hq (by omega) (by omega)] at hget
      have hgx := jW_get (E := E) (σ := σ) x1 x2
      rw [jcell_ob hx] at hgx
      have hin : vp_in (Int32.ofInt i) (G.2.1 q).2.toNat := vp_in_of32 h0 (by omega) (by omega)
      have hlt : (Int32.ofInt i).toNatClampNeg < (G.2.1 q).2.toNat := by rw [i32_clamp h0 (by omega)]; omega
      have h00 : ¬ Int32.ofInt i < 0 := fun q => hin (Or.inl q)
      obtain ⟨r', hr', cellV, f1, f2, f3, -⟩ := X.P _ _ hgx
      have hcls := (X.K.1 a rr hcl).2
      obtain ⟨kA, comp, k1, k2, k3, -⟩ := (X.K.2 4 _ rfl).2
      rw [← hnm] at k3
      have hcomp : comp = E.2.1.1 a := Option.some.inj (k3.symm.trans hcls.1)
      subst hcomp
      obtain ⟨kC, hkC, -⟩ := hcls.2
      show W p C.1 e R s mi args below meth c H locs cs ss Q (F0 mi pc lc (cv E (vR x) :: .int (Int32.ofInt i) :: cv E (vR q) :: r.map (cv E)))
      rw [cv_ref g1, cv_ref x1]
      refine W.aast X.exec X.code (X.P (q.toNat - 1) _ hget) (fun q h => by cases h) (fun h => by cases h) k1 k2 rfl hkC ⟨h00, by show _ < (arrV _ _ _).slots.size; rw [arrV_size]; exact hlt⟩ f1 (fun q h => by rw [f3] at h; cases h) (by rw [f2]; exact hkC) (by rw [f2]; exact va_assign hcls) rfl rfl hd fun H1 e1 e2 e3 => ?_
      rw [i32_clamp h0 (by omega)] at e1 ⊢
      have hW : jW E (G.1, G.2.1, ju G.2.2 q i x) σ = (jW E G σ).set (q.toNat - 1) (E.1 + q.toNat, jcell E (G.1, G.2.1, ju G.2.2 q i x) σ q) := jW_set (G := G) (σ := σ) (o := q) g1 g2 rfl rfl (fun u hu => jcell_eq rfl (fun _ => ju_ne hu) (fun _ => rfl))
      refine X.goC hk (st_tl (st_tl (st_tl X.hok))) ⟨by rw [e2]; exact X.wd.1, X.wd.2.1, X.wd.2.2.1, ?_⟩ (X.S.put e2 e3 (by show E.1 < _; omega))
      rw [hW]
      have hget2 := jW_get (E := E) (σ := σ) g1 g2
      refine X.P.set jW_D hget2 ?_ e3
      rw [jcell_q (G := (G.1, G.2.1, ju G.2.2 q i x)) hq (by omega) (by omega)]
      show H1[_]? = some (vp_cell _ _)
      rw [e1, vp_cell_q, vp_cell_q, arrV_store]
      congr 2
      funext j
      have := upq_of (B := E.1) (f := G.2.2) (q := q) (x := x) h0 j
      show updV _ _ _ j = va_rf (jrf E.1 (ju G.2.2 q i x q (j : Int)))
      rw [← this, jrf_pos x1]
      unfold updV va_up
      split <;> rfl
    · cases hi
  · exact h.elim

theorem jsw_le {E : jE} {st : List jV} (h : jsw st ≤ 8) : ((st.map (cv E)).map fun v => v.category).sum ≤ 8 := by
  have e : (st.map (cv E)).map (fun v => v.category) = st.map jcat := by
    rw [List.map_map]
    apply List.map_congr_left
    intro v _
    show (cv E v).category = jcat v
    cases v with
    | inl x => rfl
    | inr v => cases v with
      | inl x => rfl
      | inr v => cases v with
        | inl x => simp only [cv, jcat]; cases jrf E.1 x <;> rfl
        | inr v => cases v <;> rfl
  rw [e]
  exact h
theorem minmax32 {x y : Int} (hx : r32 x) (hy : r32 y) : (if Int32.ofInt y < Int32.ofInt x then Int32.ofInt y else Int32.ofInt x) = Int32.ofInt (min x y) ∧ (if Int32.ofInt x < Int32.ofInt y then Int32.ofInt y else Int32.ofInt x) = Int32.ofInt (max x y) ∧ r32 (min x y) ∧ r32 (max x y) := by
  refine ⟨?_, ?_, ?_, ?_⟩
  · split
    · rename_i h; rw [Int.min_eq_right (Int.le_of_lt ((i32_lt hy hx).mp h))]
    · rename_i h; rw [Int.min_eq_left (Int.not_lt.mp (fun q => h ((i32_lt hy hx).mpr q)))]
  · split
    · rename_i h; rw [Int.max_eq_right (Int.le_of_lt ((i32_lt hx hy).mp h))]
    · rename_i h; rw [Int.max_eq_left (Int.not_lt.mp (fun q => h ((i32_lt hx hy).mpr q)))]
  · unfold r32 at *; omega
  · unfold r32 at *; omega
section SX
variable {p : Program} {e : Env} {R : Room} {s : State} {mi : MethodId} {args : Array Value} {below : List Frame} {meth : Method} {c : Code} {E : jE} {Q : State → Prop} {H : Heap} {locs : List Loc} {lc : Array Slot}
theorem jcx.rm (X : jcx C d mc ms m RT p e R s mi args below meth c E Q ls st G σ cs ss H locs lc) : R = jroom d mc ms := X.1.2.2.2.2.2.1
theorem jcx.ml (X : jcx C d mc ms m RT p e R s mi args below meth c E Q ls st G σ cs ss H locs lc) : c.maxLocals = lc.size := by
  rw [X.1.2.2.1]
  exact X.hl.1.symm
end SX

theorem nwords : nativeFrameWords "java/lang/System" "arraycopy" 5 + 11 ≤ 60 := by decide +kernel

/-- arraycopy, and how many cells there are -/
theorem j_copyi {p : Program} {l : Launch} {e : Env} {R : Room} {s : State} {m : MethodId} {args : Array Value} {below : List Frame} {meth : Method} {c : Code} {H : Heap} {locs : List Loc} {cells slots : Nat} {Q : State → Prop} {cc : ByteArray} {pc : Nat} {ls : Array Slot} {rest : List Value} {A : Nat → Prop} {a : Nat} {H0 : Heap}
    (hexec : p.tables.exec = Jvm.exec) (hb : c.code = cc) (hml : c.maxLocals = ls.size) {own : String} {index : Nat} (hown : s.vm.findClass own = some m.cls) (hlink : (Cond.methodLink own index arraycopyName).before args s = true) (hnat : (Cond.native arraycopyName).before args s = true) (hstat : (Cond.static arraycopyName).before args s = true) (hini : (Cond.initialized "java/lang/System").before args s = true)
    {a0 : Nat} {c0 : ClassId} {n0 n1 : Nat} {f g : Nat → Int32} {fty : FieldType} (hc0 : H[a0]? = some (vp_cell c0 (n0, .inl f))) (hc1 : H[a]? = some (vp_cell c0 (n1, .inl g))) (ht : ArrOfT s c0 fty) (hprim : refKind fty = false)
    {sp dp n : Int} (h1 : 0 ≤ sp) (h2 : 0 ≤ dp) (h3 : 0 ≤ n) (h4 : sp + n ≤ n0) (h5 : dp + n ≤ n1) (hn0 : (n0 : Int) < 2147483648) (hn1 : (n1 : Int) < 2147483648) (hfit : ∀ i : Nat, (i : Int) < n → fits fty (.int (f (sp.toNat + i))) = true) (hA : A a) (hS : va_S A H0 H locs)
    (hframes : 1 ≤ R.frames) (hlocals : (rest.map fun v => v.category).sum + (nativeFrameWords "java/lang/System" "arraycopy" 5 + 11) ≤ R.locals) (hdg : decode cc pc = .ok (.invokestatic index, 3))
    (kk : ∀ (H1 : Heap) (locs1 : List Loc), H1.size = H.size → H1[a]? = some (vp_cell c0 (n1, .inl (va_cpy f g sp.toNat dp.toNat n.toNat))) → (∀ q, q ≠ a → H1[q]? = H[q]?) → va_S A H0 H1 locs1 → W p l e R s m args below meth c H1 locs1 cells slots Q (F0 m (pc + 3) ls rest)) : W p l e R s m args below meth c H locs cells slots Q (F0 m pc ls (.int (Int32.ofInt n) :: .int (Int32.ofInt dp) :: .ref a :: .int (Int32.ofInt sp) :: .ref a0 :: rest)) := by
  have rs : r32 sp := by unfold r32; omega
  have rd : r32 dp := by unfold r32; omega
  have rn : r32 n := by unfold r32; omega
  have cs : (Int32.ofInt sp).toNatClampNeg = sp.toNat := i32_clamp h1 (by omega)
  have cd : (Int32.ofInt dp).toNatClampNeg = dp.toNat := i32_clamp h2 (by omega)
  have cn : (Int32.ofInt n).toNatClampNeg = n.toNat := i32_clamp h3 (by omega)
  have lt0 : ∀ x : Int, 0 ≤ x → r32 x → ¬ Int32.ofInt x < 0 := fun x hx hr q => by
    rw [i32_0] at q
    have := (i32_lt hr r32_0).mp q
    omega
  intro T hT X
  obtain ⟨-, k0, hk0, cm0, hkk0⟩ := ht n0 (fun j => .int (f j))
  obtain ⟨-, k1, hk1, cm1, hkk1⟩ := ht n1 (fun j => .int (g j))
  obtain ⟨vm', X', step⟩ := X.arraycopy hexec hown hlink hnat hstat hini (src := a0) (dst := a) (cs := vp_cell c0 (n0, .inl f)) (cd := vp_cell c0 (n1, .inl g)) (srcPos := Int32.ofInt sp) (destPos := Int32.ofInt dp) (n := Int32.ofInt n) (by rw [hT]; exact hc0) (by rw [hT]; exact hc1)
    (fun _ h => by cases h) (fun _ h => by cases h) (fun h => by cases h) (fun h => by cases h) hk0 hk1 hkk0 hkk1 (by simp [hprim]) (lt0 _ h1 rs) (lt0 _ h2 rd) (lt0 _ h3 rn)
    (by rw [i32_of rs, i32_of rn]; show ¬ _ > ((arrV c0 n0 (fun j => .int (f j))).slots.size : Int); rw [arrV_size]; omega)
    (by rw [i32_of rd, i32_of rn]; show ¬ _ > ((arrV c0 n1 (fun j => .int (g j))).slots.size : Int); rw [arrV_size]; omega)
    (fun vm₁ _ i hi => by
      rw [cn] at hi
      have e9 : (vp_cell c0 (n0, .inl f)).slots.getD ((Int32.ofInt sp).toNatClampNeg + i) .null = .int (f (sp.toNat + i)) := by
        rw [cs]
        show (arrV c0 n0 (fun j => .int (f j))).slots.getD _ _ = _
        rw [Array.getD_eq_getD_getElem?, arrV_read _ _ (by omega)]
        rfl
      refine ⟨?_, ?_⟩
      · rw [e9]
        exact hfit i (by omega)
      · rw [e9]
        exact trivial)
    (g := F0 m pc ls (.int (Int32.ofInt n) :: .int (Int32.ofInt dp) :: .ref a :: .int (Int32.ofInt sp) :: .ref a0 :: rest)) rfl (by rw [hml]) (rest := rest) rfl (by rw [hb]; exact hdg) hframes (by show 2 * 0 + _ + _ ≤ _; omega)
  have e1 : copied (vp_cell c0 (n0, .inl f)) (vp_cell c0 (n1, .inl g)) (Int32.ofInt sp) (Int32.ofInt dp) (Int32.ofInt n) = vp_cell c0 (n1, .inl (va_cpy f g sp.toNat dp.toNat n.toNat)) := by
    have e0 : copied (vp_cell c0 (n0, .inl f)) (vp_cell c0 (n1, .inl g)) (Int32.ofInt sp) (Int32.ofInt dp) (Int32.ofInt n) = vp_cell c0 (n1, .inl (va_cpy f g (Int32.ofInt sp).toNatClampNeg (Int32.ofInt dp).toNatClampNeg (Int32.ofInt n).toNatClampNeg)) := va_copied (fun z => .int z) c0 c0 f g (by rw [cs, cn]; omega)
    rw [cs, cd, cn] at e0
    exact e0
  rw [e1] at X' step
  have hl : a < H.size := (Array.getElem?_eq_some_iff.mp hc1).1
  have hheap : ((T.setVm vm').setCell a (vp_cell c0 (n1, .inl (va_cpy f g sp.toNat dp.toNat n.toNat)))).heap = H.setIfInBounds a (vp_cell c0 (n1, .inl (va_cpy f g sp.toNat dp.toNat n.toNat))) := by rw [← hT]; rfl
  have oq : ∀ q : Nat, q ≠ a → (H.setIfInBounds a (vp_cell c0 (n1, .inl (va_cpy f g sp.toNat dp.toNat n.toNat))))[q]? = H[q]? := fun q hq => by simp [Array.getElem?_setIfInBounds, Ne.symm hq]
  obtain ⟨t, a1, b1⟩ := kk (H.setIfInBounds a (vp_cell c0 (n1, .inl (va_cpy f g sp.toNat dp.toNat n.toNat)))) _ (by simp) (by simp [Array.getElem?_setIfInBounds, hl]) oq ⟨by simp; exact hS.1, fun q g1 g2 => by
      rw [oq q (fun e => g2 (by rw [e]; exact hA))]
      exact hS.2.1 q g1 g2, fun q hq => by
      rcases List.mem_append.mp hq with h | h
      · exact hS.2.2 q h
      · obtain ⟨z, -, hz⟩ := List.mem_map.mp h
        rw [← hz]
        exact hA⟩ _ hheap X'
  exact ⟨t, step t a1, b1⟩

/-- arraycopy, and how many cells there are -/
theorem j_copyl {p : Program} {l : Launch} {e : Env} {R : Room} {s : State} {m : MethodId} {args : Array Value} {below : List Frame} {meth : Method} {c : Code} {H : Heap} {locs : List Loc} {cells slots : Nat} {Q : State → Prop} {cc : ByteArray} {pc : Nat} {ls : Array Slot} {rest : List Value} {A : Nat → Prop} {a : Nat} {H0 : Heap}
    (hexec : p.tables.exec = Jvm.exec) (hb : c.code = cc) (hml : c.maxLocals = ls.size) {own : String} {index : Nat} (hown : s.vm.findClass own = some m.cls) (hlink : (Cond.methodLink own index arraycopyName).before args s = true) (hnat : (Cond.native arraycopyName).before args s = true) (hstat : (Cond.static arraycopyName).before args s = true) (hini : (Cond.initialized "java/lang/System").before args s = true)
    {a0 : Nat} {c0 : ClassId} {n0 n1 : Nat} {f g : Nat → Int64} {fty : FieldType} (hc0 : H[a0]? = some (vp_cell c0 (n0, .inr (.inl f)))) (hc1 : H[a]? = some (vp_cell c0 (n1, .inr (.inl g)))) (ht : ArrOfT s c0 fty) (hprim : refKind fty = false)
    {sp dp n : Int} (h1 : 0 ≤ sp) (h2 : 0 ≤ dp) (h3 : 0 ≤ n) (h4 : sp + n ≤ n0) (h5 : dp + n ≤ n1) (hn0 : (n0 : Int) < 2147483648) (hn1 : (n1 : Int) < 2147483648) (hfit : ∀ i : Nat, (i : Int) < n → fits fty (.long (f (sp.toNat + i))) = true) (hA : A a) (hS : va_S A H0 H locs)
    (hframes : 1 ≤ R.frames) (hlocals : (rest.map fun v => v.category).sum + (nativeFrameWords "java/lang/System" "arraycopy" 5 + 11) ≤ R.locals) (hdg : decode cc pc = .ok (.invokestatic index, 3))
    (kk : ∀ (H1 : Heap) (locs1 : List Loc), H1.size = H.size → H1[a]? = some (vp_cell c0 (n1, .inr (.inl (va_cpy f g sp.toNat dp.toNat n.toNat)))) → (∀ q, q ≠ a → H1[q]? = H[q]?) → va_S A H0 H1 locs1 → W p l e R s m args below meth c H1 locs1 cells slots Q (F0 m (pc + 3) ls rest)) : W p l e R s m args below meth c H locs cells slots Q (F0 m pc ls (.int (Int32.ofInt n) :: .int (Int32.ofInt dp) :: .ref a :: .int (Int32.ofInt sp) :: .ref a0 :: rest)) := by
  have rs : r32 sp := by unfold r32; omega
  have rd : r32 dp := by unfold r32; omega
  have rn : r32 n := by unfold r32; omega
  have cs : (Int32.ofInt sp).toNatClampNeg = sp.toNat := i32_clamp h1 (by omega)
  have cd : (Int32.ofInt dp).toNatClampNeg = dp.toNat := i32_clamp h2 (by omega)
  have cn : (Int32.ofInt n).toNatClampNeg = n.toNat := i32_clamp h3 (by omega)
  have lt0 : ∀ x : Int, 0 ≤ x → r32 x → ¬ Int32.ofInt x < 0 := fun x hx hr q => by
    rw [i32_0] at q
    have := (i32_lt hr r32_0).mp q
    omega
  intro T hT X
  obtain ⟨-, k0, hk0, cm0, hkk0⟩ := ht n0 (fun j => .long (f j))
  obtain ⟨-, k1, hk1, cm1, hkk1⟩ := ht n1 (fun j => .long (g j))
  obtain ⟨vm', X', step⟩ := X.arraycopy hexec hown hlink hnat hstat hini (src := a0) (dst := a) (cs := vp_cell c0 (n0, .inr (.inl f))) (cd := vp_cell c0 (n1, .inr (.inl g))) (srcPos := Int32.ofInt sp) (destPos := Int32.ofInt dp) (n := Int32.ofInt n) (by rw [hT]; exact hc0) (by rw [hT]; exact hc1)
    (fun _ h => by cases h) (fun _ h => by cases h) (fun h => by cases h) (fun h => by cases h) hk0 hk1 hkk0 hkk1 (by simp [hprim]) (lt0 _ h1 rs) (lt0 _ h2 rd) (lt0 _ h3 rn)
    (by rw [i32_of rs, i32_of rn]; show ¬ _ > ((arrV c0 n0 (fun j => .long (f j))).slots.size : Int); rw [arrV_size]; omega)
    (by rw [i32_of rd, i32_of rn]; show ¬ _ > ((arrV c0 n1 (fun j => .long (g j))).slots.size : Int); rw [arrV_size]; omega)
    (fun vm₁ _ i hi => by
      rw [cn] at hi
      have e9 : (vp_cell c0 (n0, .inr (.inl f))).slots.getD ((Int32.ofInt sp).toNatClampNeg + i) .null = .long (f (sp.toNat + i)) := by
        rw [cs]
        show (arrV c0 n0 (fun j => .long (f j))).slots.getD _ _ = _
        rw [Array.getD_eq_getD_getElem?, arrV_read _ _ (by omega)]
        rfl
      refine ⟨?_, ?_⟩
      · rw [e9]
        exact hfit i (by omega)
      · rw [e9]
        exact trivial)
    (g := F0 m pc ls (.int (Int32.ofInt n) :: .int (Int32.ofInt dp) :: .ref a :: .int (Int32.ofInt sp) :: .ref a0 :: rest)) rfl (by rw [hml]) (rest := rest) rfl (by rw [hb]; exact hdg) hframes (by show 2 * 0 + _ + _ ≤ _; omega)
  have e1 : copied (vp_cell c0 (n0, .inr (.inl f))) (vp_cell c0 (n1, .inr (.inl g))) (Int32.ofInt sp) (Int32.ofInt dp) (Int32.ofInt n) = vp_cell c0 (n1, .inr (.inl (va_cpy f g sp.toNat dp.toNat n.toNat))) := by
    have e0 : copied (vp_cell c0 (n0, .inr (.inl f))) (vp_cell c0 (n1, .inr (.inl g))) (Int32.ofInt sp) (Int32.ofInt dp) (Int32.ofInt n) = vp_cell c0 (n1, .inr (.inl (va_cpy f g (Int32.ofInt sp).toNatClampNeg (Int32.ofInt dp).toNatClampNeg (Int32.ofInt n).toNatClampNeg))) := va_copied (fun z => .long z) c0 c0 f g (by rw [cs, cn]; omega)
    rw [cs, cd, cn] at e0
    exact e0
  rw [e1] at X' step
  have hl : a < H.size := (Array.getElem?_eq_some_iff.mp hc1).1
  have hheap : ((T.setVm vm').setCell a (vp_cell c0 (n1, .inr (.inl (va_cpy f g sp.toNat dp.toNat n.toNat))))).heap = H.setIfInBounds a (vp_cell c0 (n1, .inr (.inl (va_cpy f g sp.toNat dp.toNat n.toNat)))) := by rw [← hT]; rfl
  have oq : ∀ q : Nat, q ≠ a → (H.setIfInBounds a (vp_cell c0 (n1, .inr (.inl (va_cpy f g sp.toNat dp.toNat n.toNat)))))[q]? = H[q]? := fun q hq => by simp [Array.getElem?_setIfInBounds, Ne.symm hq]
  obtain ⟨t, a1, b1⟩ := kk (H.setIfInBounds a (vp_cell c0 (n1, .inr (.inl (va_cpy f g sp.toNat dp.toNat n.toNat))))) _ (by simp) (by simp [Array.getElem?_setIfInBounds, hl]) oq ⟨by simp; exact hS.1, fun q g1 g2 => by
      rw [oq q (fun e => g2 (by rw [e]; exact hA))]
      exact hS.2.1 q g1 g2, fun q hq => by
      rcases List.mem_append.mp hq with h | h
      · exact hS.2.2 q h
      · obtain ⟨z, -, hz⟩ := List.mem_map.mp h
        rw [← hz]
        exact hA⟩ _ hheap X'
  exact ⟨t, step t a1, b1⟩

theorem cpy_of {α : Type} {F : Int → α} {f : jH} {a b sp dp n : Int} (h1 : 0 ≤ sp) (h2 : 0 ≤ dp) (h3 : 0 ≤ n) (j : Nat) : va_cpy (fun j => F (f a (j : Int))) (fun j => F (f b (j : Int))) sp.toNat dp.toNat n.toNat j = F (jcpy f a sp b dp n b (j : Int)) := by
  unfold va_cpy jcpy
  by_cases h : dp.toNat ≤ j ∧ j < dp.toNat + n.toNat
  · rw [if_pos h, if_pos ⟨rfl, by omega, by omega⟩]
    have : ((sp.toNat + (j - dp.toNat) : Nat) : Int) = sp + ((j : Int) - dp) := by omega
    show F (f a ((sp.toNat + (j - dp.toNat) : Nat) : Int)) = _
    rw [this]
  · rw [if_neg h, if_neg (fun z => h ⟨by omega, by omega⟩)]
theorem jwf_cpy {a b sp dp n : Int} (h : jwf G σ) (hk : (G.2.1 b).1 = (G.2.1 a).1) (ht : 1 ≤ (G.2.1 a).1 ∧ (G.2.1 a).1 ≤ 4) (h1 : 0 ≤ sp) (h3 : sp + n ≤ (G.2.1 a).2) : jwf G (jcpy σ a sp b dp n) := by
  intro q i hi
  by_cases hc : q = b ∧ dp ≤ (i : Int) ∧ (i : Int) < dp + n
  · have e0 : jcpy σ a sp b dp n q (i : Int) = σ a (sp + ((i : Int) - dp)) := by unfold jcpy; rw [if_pos hc]
    rw [e0]
    obtain ⟨hqb, h4, h5⟩ := hc
    have h6 := h a (sp + ((i : Int) - dp)).toNat (by omega)
    have e : (((sp + ((i : Int) - dp)).toNat : Nat) : Int) = sp + ((i : Int) - dp) := by omega
    rw [e] at h6
    rw [hqb, hk]
    have : (G.2.1 a).1 = 1 ∨ (G.2.1 a).1 = 2 ∨ (G.2.1 a).1 = 3 ∨ (G.2.1 a).1 = 4 := by omega
    rcases this with h7 | h7 | h7 | h7 <;> rw [h7] at h6 ⊢ <;> exact h6
  · have e0 : jcpy σ a sp b dp n q (i : Int) = σ q (i : Int) := by unfold jcpy; rw [if_neg hc]
    rw [e0]
    exact h q i hi
theorem jcpy_ne {a b sp dp n q j : Int} (h : q ≠ b) : jcpy σ a sp b dp n q j = σ q j := by unfold jcpy; rw [if_neg (fun z => h z.1)]

theorem fit_byte {x : Int} (h : -128 ≤ x ∧ x < 128) : fits .byte (.int (Int32.ofInt x)) = true := by
  have e : (Int32.ofInt x).toInt = x := i32_of (by unfold r32; omega)
  have h1 : (-128 : Int32) ≤ Int32.ofInt x := by
    rw [Int32.le_iff_toInt_le, e]
    exact h.1
  have h2 : Int32.ofInt x ≤ (127 : Int32) := by
    rw [Int32.le_iff_toInt_le, e]
    have : (127 : Int32).toInt = 127 := by decide
    omega
  simp only [fits, Bool.and_eq_true, decide_eq_true_eq]
  exact ⟨h1, h2⟩
theorem fit_bool {x : Int} (h : 0 ≤ x ∧ x ≤ 1) : fits .boolean (.int (Int32.ofInt x)) = true := by
  have : x = 0 ∨ x = 1 := by omega
  rcases this with rfl | rfl <;> rfl

theorem s_invokestatic0 {i : Nat} (hw : 1 ≤ w ∧ w ≤ 3) (ho : okB m pc (.invokestatic i, len, a, b, w, z, ps, mm) = true) (h : jstep C d mc ms RT (Ev C d mc ms m RT) (.invokestatic i, len, a, b, w, z, ps, mm) pc ls st G σ cs ss) : Ev C d mc ms m RT pc ls st G σ cs ss := by
  intro p e R s mi args below meth c E Q H locs lc X
  have hd := okB_d ho
  have hi := okB_i ho
  have hn : len = 3 := by
    simp only [okB, Bool.and_eq_true, decide_eq_true_eq, jlen] at ho
    exact of_decide_eq_true ho.1.2
  subst hn
  simp only [okI] at hi
  simp only [jstep] at h
  have h123 : w = 1 ∨ w = 2 ∨ w = 3 := by omega
  rcases h123 with rfl | rfl | rfl
  · simp only at h hi
    split at h
    · rename_i y x r hble
      obtain ⟨hd1, hk⟩ := h
      have hx : r32 x := st_hd (st_tl X.hok)
      have hy : r32 y := st_hd X.hok
      have hts := fun w hw => X.hts w (jchk_in hi w hw)
      have hsw := jsw_le (E := E) (Nat.le_of_ble_eq_true hble)
      refine va_mmin X.exec X.code X.ml X.own (hts _ (by simp)) (hts _ (by simp)) (hts _ (by simp)) (hts _ (by simp)) (by rw [X.rm]; exact hd1) (by rw [X.rm]; show _ ≤ 41 * d + 32; have : ((List.map (cv E) r).map fun v => v.category).sum ≤ 8 := hsw; omega) (by rw [X.rm]; exact X.2.2.2.2.2.2.2.1) (by rw [X.rm]; exact X.2.2.2.2.2.2.2.2) hd ?_
      rw [(minmax32 hx hy).1]
      exact X.go hk (st_ok1 (minmax32 hx hy).2.2.1 (st_tl (st_tl X.hok)))
    · exact h.elim
  · simp only at h hi
    split at h
    · rename_i y x r hble
      obtain ⟨hd1, hk⟩ := h
      have hx : r32 x := st_hd (st_tl X.hok)
      have hy : r32 y := st_hd X.hok
      have hts := fun w hw => X.hts w (jchk_in hi w hw)
      have hsw := jsw_le (E := E) (Nat.le_of_ble_eq_true hble)
      refine va_mmax X.exec X.code X.ml X.own (hts _ (by simp)) (hts _ (by simp)) (hts _ (by simp)) (hts _ (by simp)) (by rw [X.rm]; exact hd1) (by rw [X.rm]; show _ ≤ 41 * d + 32; have : ((List.map (cv E) r).map fun v => v.category).sum ≤ 8 := hsw; omega) (by rw [X.rm]; exact X.2.2.2.2.2.2.2.1) (by rw [X.rm]; exact X.2.2.2.2.2.2.2.2) hd ?_
      rw [(minmax32 hx hy).2.1]
      exact X.go hk (st_ok1 (minmax32 hx hy).2.2.2 (st_tl (st_tl X.hok)))
    · exact h.elim
  · simp only [Bool.and_eq_true, decide_eq_true_eq] at h hi
    obtain ⟨⟨ha1, ha4⟩, hps⟩ := hi
    split at h
    · rename_i n dp q sp u r hble
      obtain ⟨hd1, hu, hq, h1, h2, h3, h4, h5, hk⟩ := h
      have hts := fun w hw => X.hts w (jchk_in hps w hw)
      have hsw : ((List.map (cv E) r).map fun v => v.category).sum ≤ 8 := jsw_le (E := E) (Nat.le_of_ble_eq_true hble)
      obtain ⟨u1, u2, u3, u4⟩ := arr_at X.wd hu ha1
      obtain ⟨q1, q2, q3, q4⟩ := arr_at X.wd hq ha1
      have hr := st_tl (st_tl (st_tl (st_tl (st_tl X.hok))))
      have hgu := jW_get (E := E) (σ := σ) u1 u2
      have hgq := jW_get (E := E) (σ := σ) q1 q2
      have hwf : jwf G (jcpy σ u sp q dp n) := jwf_cpy X.wd.2.2.1 (hq.trans hu.symm) (by rw [hu]; exact ⟨ha1, ha4⟩) h1 h4
      have hW : jW E G (jcpy σ u sp q dp n) = (jW E G σ).set (q.toNat - 1) (E.1 + q.toNat, jcell E G (jcpy σ u sp q dp n) q) := jW_set (G := G) (σ := σ) (o := q) q1 q2 rfl rfl (fun v hv => jcell_eq rfl (fun _ => rfl) (fun _ => jcpy_ne hv))
      have key : ∀ (H1 : Heap) (locs1 : List Loc), H1.size = H.size → va_at E.2.1 jcl (E.1 + q.toNat, jcell E G (jcpy σ u sp q dp n) q) H1 → (∀ v, v ≠ E.1 + q.toNat → H1[v]? = H[v]?) → va_S (jA E) s.heap H1 locs1 → W p C.1 e R s mi args below meth c H1 locs1 cs ss Q (F0 mi (pc + 3) lc (r.map (cv E))) := fun H1 locs1 e1 e2 e3 e4 =>
        X.goC hk hr ⟨by rw [e1]; exact X.wd.1, X.wd.2.1, hwf, by rw [hW]; exact X.P.set jW_D hgq e2 e3⟩ e4
      show W p C.1 e R s mi args below meth c H locs cs ss Q (F0 mi pc lc (.int (Int32.ofInt n) :: .int (Int32.ofInt dp) :: cv E (vR q) :: .int (Int32.ofInt sp) :: cv E (vR u) :: r.map (cv E)))
      rw [cv_ref u1, cv_ref q1]
      have hloc : ((List.map (cv E) r).map fun v => v.category).sum + (nativeFrameWords "java/lang/System" "arraycopy" 5 + 11) ≤ R.locals := by
        rw [X.rm]
        show _ ≤ 41 * d + 32
        have := nwords
        omega
      by_cases ha : a ≤ 3
      · have cu := X.P _ _ hgu
        have cq := X.P _ _ hgq
        rw [jcell_i hu ha1 ha] at cu
        rw [jcell_i hq ha1 ha] at cq
        have hty : ∃ (ty : FieldType), ArrOfT s (E.2.2.1 a) ty ∧ refKind ty = false ∧ ∀ i : Nat, (i : Int) < n → fits ty (.int (Int32.ofInt (σ u ((sp.toNat + i : Nat) : Int)))) = true := by
          have hb9 : ∀ i : Nat, (i : Int) < n → ((sp.toNat + i : Nat) : Int) < (G.2.1 u).2 := fun i hi => by omega
          have : a = 1 ∨ a = 2 ∨ a = 3 := by omega
          rcases this with rfl | rfl | rfl
          · exact ⟨.int, (X.K.2 0 _ rfl).1, rfl, fun i hi => rfl⟩
          · refine ⟨.byte, (X.K.2 1 _ rfl).1, rfl, fun i hi => ?_⟩
            have := X.wd.2.2.1 u _ (hb9 i hi)
            rw [hu] at this
            exact fit_byte this
          · refine ⟨.boolean, (X.K.2 2 _ rfl).1, rfl, fun i hi => ?_⟩
            have := X.wd.2.2.1 u _ (hb9 i hi)
            rw [hu] at this
            exact fit_bool this
        obtain ⟨ty, ht1, ht2, ht3⟩ := hty
        refine j_copyi X.exec X.code X.ml X.own (hts _ (by simp)) (hts _ (by simp)) (hts _ (by simp)) (hts _ (by simp)) cu cq ht1 ht2 h1 h2 h3 (by omega) (by omega) (by omega) (by omega) ht3 (A := jA E) (by show E.1 < _; omega) X.S (by rw [X.rm]; exact hd1) hloc hd (fun H1 locs1 e1 e2 e3 e4 => key H1 locs1 e1 ?_ e3 e4)
        rw [jcell_i hq ha1 ha]
        show H1[_]? = some (vp_cell _ _)
        rw [e2]
        congr 4
        funext j
        exact cpy_of (F := Int32.ofInt) h1 h2 h3 j
      · have ha4' : a = 4 := by omega
        subst ha4'
        have cu := X.P _ _ hgu
        have cq := X.P _ _ hgq
        rw [jcell_l hu] at cu
        rw [jcell_l hq] at cq
        refine j_copyl X.exec X.code X.ml X.own (hts _ (by simp)) (hts _ (by simp)) (hts _ (by simp)) (hts _ (by simp)) cu cq (X.K.2 3 _ rfl).1 rfl h1 h2 h3 (by omega) (by omega) (by omega) (by omega) (fun _ _ => rfl) (A := jA E) (by show E.1 < _; omega) X.S (by rw [X.rm]; exact hd1) hloc hd (fun H1 locs1 e1 e2 e3 e4 => key H1 locs1 e1 ?_ e3 e4)
        rw [jcell_l hq]
        show H1[_]? = some (vp_cell _ _)
        rw [e2]
        congr 5
        funext j
        exact cpy_of (F := Int64.ofInt) h1 h2 h3 j
    · exact h.elim

end SV
