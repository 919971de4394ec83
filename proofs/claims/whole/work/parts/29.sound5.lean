/-! Each step of the small machine is a step of the machine: ends, jumps by table, texts, calls -/
section SV
variable {C : jC} {d mc ms : Nat} {m : jM} {RT : Int → jG → jH → Prop} {ls : List (Option jV)} {st : List jV} {G : jG} {σ : jH} {cs ss : Nat} {pc : Nat} {len a b w : Nat} {z : Int} {ps : List Nat} {mm : jM}

theorem jcx.ret {x : Int} {p : Program} {e : Env} {R : Room} {s : State} {mi : MethodId} {args : Array Value} {below : List Frame} {meth : Method} {c : Code} {E : jE} {Q : State → Prop} {H : Heap} {locs : List Loc} {lc : Array Slot} (X : jcx C d mc ms m RT p e R s mi args below meth c E Q ls st G σ cs ss H locs lc) (hR : RT x G σ) (hv : ∀ v ∈ jrv (jrk m) x, jok v) (hb : m.2.2.2 = some .boolean → x = 0 ∨ x = 1) (hd : decode m.2.1 pc = .ok (jrins m, 1)) :
    W p C.1 e R s mi args below meth c H locs cs ss Q (F0 mi pc lc ((jrv (jrk m) x).map (cv E))) :=
  X.1.2.2.2.2.2.2.2.2.2.2 pc lc H locs x G σ cs ss X.2.2.2.2.2.2.2.1 X.2.2.2.2.2.2.2.2 hR hv hb X.wd X.S hd

theorem s_ireturn (ho : okB m pc (.ireturn, len, a, b, w, z, ps, mm) = true) (h : jstep C d mc ms RT (Ev C d mc ms m RT) (.ireturn, len, a, b, w, z, ps, mm) pc ls st G σ cs ss) : Ev C d mc ms m RT pc ls st G σ cs ss := by
  intro p e R s mi args below meth c E Q H locs lc X
  have hd := okB_d ho
  have hi := okB_i ho
  have hn : len = 1 := by
    simp only [okB, Bool.and_eq_true, decide_eq_true_eq, jlen] at ho
    exact of_decide_eq_true ho.1.2
  subst hn
  simp only [okI] at hi
  simp only [jstep] at h
  split at h
  · rename_i x
    split at h
    · have hr : m.2.2.2 = some .int := of_decide_eq_true hi
      have hk : jrk m = 1 := by unfold jrk; rw [hr]
      have := X.ret (pc := pc) h (by rw [hk]; exact X.hok) (by rw [hr]; intro q; cases q) (by rw [hd]; unfold jrins; rw [hk]; rfl)
      rw [hk] at this
      exact this
    · rename_i w0 hw0
      have hr : m.2.2.2 = some .boolean := by
        split at hi
        · exact absurd rfl hw0
        · exact of_decide_eq_true hi
      have hk : jrk m = 1 := by unfold jrk; rw [hr]
      have := X.ret (pc := pc) h.2 (by rw [hk]; exact X.hok) (fun _ => h.1) (by rw [hd]; unfold jrins; rw [hk]; rfl)
      rw [hk] at this
      exact this
  · exact h.elim

theorem s_lreturn (ho : okB m pc (.lreturn, len, a, b, w, z, ps, mm) = true) (h : jstep C d mc ms RT (Ev C d mc ms m RT) (.lreturn, len, a, b, w, z, ps, mm) pc ls st G σ cs ss) : Ev C d mc ms m RT pc ls st G σ cs ss := by
  intro p e R s mi args below meth c E Q H locs lc X
  have hd := okB_d ho
  have hi := okB_i ho
  have hn : len = 1 := by
    simp only [okB, Bool.and_eq_true, decide_eq_true_eq, jlen] at ho
    exact of_decide_eq_true ho.1.2
  subst hn
  simp only [okI, decide_eq_true_eq] at hi
  simp only [jstep] at h
  split at h
  · rename_i x
    have hk : jrk m = 2 := by unfold jrk; rw [hi]
    have := X.ret (pc := pc) h (by rw [hk]; exact X.hok) (by rw [hi]; intro q; cases q) (by rw [hd]; unfold jrins; rw [hk]; rfl)
    rw [hk] at this
    exact this
  · exact h.elim

theorem s_areturn (ho : okB m pc (.areturn, len, a, b, w, z, ps, mm) = true) (h : jstep C d mc ms RT (Ev C d mc ms m RT) (.areturn, len, a, b, w, z, ps, mm) pc ls st G σ cs ss) : Ev C d mc ms m RT pc ls st G σ cs ss := by
  intro p e R s mi args below meth c E Q H locs lc X
  have hd := okB_d ho
  have hi := okB_i ho
  have hn : len = 1 := by
    simp only [okB, Bool.and_eq_true, decide_eq_true_eq, jlen] at ho
    exact of_decide_eq_true ho.1.2
  subst hn
  simp only [okI, decide_eq_true_eq] at hi
  simp only [jstep] at h
  split at h
  · rename_i x
    have := X.ret (pc := pc) h (by rw [hi]; exact X.hok) (fun q => by unfold jrk at hi; rw [q] at hi; cases hi) (by rw [hd]; unfold jrins; rw [hi]; rfl)
    rw [hi] at this
    exact this
  · exact h.elim

theorem s_return_ (ho : okB m pc (.return_, len, a, b, w, z, ps, mm) = true) (h : jstep C d mc ms RT (Ev C d mc ms m RT) (.return_, len, a, b, w, z, ps, mm) pc ls st G σ cs ss) : Ev C d mc ms m RT pc ls st G σ cs ss := by
  intro p e R s mi args below meth c E Q H locs lc X
  have hd := okB_d ho
  have hi := okB_i ho
  have hn : len = 1 := by
    simp only [okB, Bool.and_eq_true, decide_eq_true_eq, jlen] at ho
    exact of_decide_eq_true ho.1.2
  subst hn
  simp only [okI, decide_eq_true_eq] at hi
  simp only [jstep] at h
  split at h
  · have hk : jrk m = 0 := by unfold jrk; rw [hi]
    have := X.ret (pc := pc) h (by rw [hk]; exact X.hok) (by rw [hi]; intro q; cases q) (by rw [hd]; unfold jrins; rw [hk]; rfl)
    rw [hk] at this
    exact this
  · exact h.elim

theorem jtab_at {x : Int} {kk : Nat → Prop} : ∀ {os : List Int} {lo : Int} {j : Nat} {off : Int}, jtab pc x kk lo os → os[j]? = some off → x = lo + j → kk ((pc : Int) + off).toNat
  | [], _, _, _, _, h, _ => by simp at h
  | o :: os, lo, 0, off, h, h1, h2 => by
    simp at h1
    subst h1
    exact h.1 (by omega)
  | o :: os, lo, j + 1, off, h, h1, h2 => by
    rw [List.getElem?_cons_succ] at h1
    exact jtab_at (j := j) h.2 h1 (by omega)

theorem s_tableswitch {df lo hi9 : Int} {os : Array Int} (ho : okB m pc (.tableswitch df lo hi9 os, len, a, b, w, z, ps, mm) = true) (h : jstep C d mc ms RT (Ev C d mc ms m RT) (.tableswitch df lo hi9 os, len, a, b, w, z, ps, mm) pc ls st G σ cs ss) : Ev C d mc ms m RT pc ls st G σ cs ss := by
  intro p e R s mi args below meth c E Q H locs lc X
  have hd := okB_d ho
  have hi := okB_i ho
  simp only [okI, Bool.and_eq_true, decide_eq_true_eq] at hi
  obtain ⟨⟨hos, hi1⟩, hi2⟩ := hi
  have hi : 0 ≤ (pc : Int) + df ∧ os.toList.all (fun x => decide (0 ≤ (pc : Int) + x)) = true := ⟨hi1, hi2⟩
  simp only [jstep] at h
  split at h
  · rename_i x r
    have hx : r32 x := st_hd X.hok
    obtain ⟨h1, h2⟩ := h
    have hr := st_tl X.hok
    show W p C.1 e R s mi args below meth c H locs cs ss Q (F0 mi pc lc (.int (Int32.ofInt x) :: r.map (cv E)))
    by_cases hlo : x < lo ∨ hi9 < x
    · exact lv_tableOut X.exec X.code hd (by rw [i32_of hx]; exact hlo) (by have := hi.1; omega) (X.go (h1 hlo) hr)
    · have hj : (x - lo).toNat < os.size := by omega
      have ho9 : os[(x - lo).toNat]? = some os[(x - lo).toNat] := Array.getElem?_eq_getElem hj
      have ho8 : os.toList[(x - lo).toNat]? = some os[(x - lo).toNat] := by rw [Array.getElem?_toList]; exact ho9
      have hpos : 0 ≤ (pc : Int) + os[(x - lo).toNat] := of_decide_eq_true (List.all_eq_true.mp hi.2 _ (List.mem_of_getElem? ho8))
      exact lv_tableIn X.exec X.code hd (by rw [i32_of hx]; omega) (by rw [i32_of hx]; omega) (by rw [i32_of hx]; exact ho9) (by omega) (X.go (jtab_at h2 ho8 (by omega)) hr)
  · exact h.elim

theorem jcx.txt {p : Program} {e : Env} {R : Room} {s : State} {mi : MethodId} {args : Array Value} {below : List Frame} {meth : Method} {c : Code} {E : jE} {Q : State → Prop} {H : Heap} {locs : List Loc} {lc : Array Slot} (X : jcx C d mc ms m RT p e R s mi args below meth c E Q ls st G σ cs ss H locs lc) {i : Nat} (h : (m.1.cls, i, a) ∈ jtx) : vk_R m.1.cls i (jtex a) (E.2.2.2.1 a) s := X.stat.2.2.1 _ h
theorem j_ldcwS {p : Program} {l : Launch} {e : Env} {R : Room} {s : State} {m : MethodId} {args : Array Value} {below : List Frame} {meth : Method} {c : Code} {H : Heap} {locs : List Loc} {cells slots : Nat} {Q : State → Prop} {cc : ByteArray} {pc : Nat} {ls : Array Slot} {rest : List Value} (hexec : p.tables.exec = Jvm.exec) (hb : c.code = cc) {own tx : String} {index q : Nat} (hown : s.vm.findClass own = some m.cls) (hZ : vk_R own index tx q s) (hdg : decode cc pc = .ok (.ldc_w index, 3))
    (k : W p l e R s m args below meth c H locs cells slots Q (F0 m (pc + 3) ls (.ref q :: rest))) : W p l e R s m args below meth c H locs cells slots Q (F0 m pc ls rest) := by
  intro T hT X
  obtain ⟨t, a1, b1⟩ := k T hT X
  exact ⟨t, X.ldcStringW hexec hown (text := tx) (a := q) hZ.1 hZ.2 (g := F0 m pc ls rest) rfl (by rw [hb]; exact hdg) t a1, b1⟩

theorem s_ldc {i : Nat} (ho : okB m pc (.ldc i, len, a, b, w, z, ps, mm) = true) (h : jstep C d mc ms RT (Ev C d mc ms m RT) (.ldc i, len, a, b, w, z, ps, mm) pc ls st G σ cs ss) : Ev C d mc ms m RT pc ls st G σ cs ss := by
  intro p e R s mi args below meth c E Q H locs lc X
  have hd := okB_d ho
  have hi := okB_i ho
  have hn : len = 2 := by
    simp only [okB, Bool.and_eq_true, decide_eq_true_eq, jlen] at ho
    exact of_decide_eq_true ho.1.2
  subst hn
  simp only [okI] at hi
  simp only [jstep] at h
  split at h
  · simp only [Bool.and_eq_true, decide_eq_true_eq] at hi
    exact lv_ldc X.exec X.code X.own (X.hts _ (jchk_in hi.2 _ List.mem_cons_self)) hd (X.go h (st_ok1 (by unfold jok r32; exact hi.1) X.hok))
  · rename_i w0 hw0
    split at hi
    · exact absurd rfl hw0
    · exact va_ldcS X.exec X.code X.own (X.txt (of_decide_eq_true hi)) hd (X.go h (st_ok1 (v := vT a) trivial X.hok))

theorem s_ldc_w {i : Nat} (ho : okB m pc (.ldc_w i, len, a, b, w, z, ps, mm) = true) (h : jstep C d mc ms RT (Ev C d mc ms m RT) (.ldc_w i, len, a, b, w, z, ps, mm) pc ls st G σ cs ss) : Ev C d mc ms m RT pc ls st G σ cs ss := by
  intro p e R s mi args below meth c E Q H locs lc X
  have hd := okB_d ho
  have hi := okB_i ho
  have hn : len = 3 := by
    simp only [okB, Bool.and_eq_true, decide_eq_true_eq, jlen] at ho
    exact of_decide_eq_true ho.1.2
  subst hn
  simp only [okI] at hi
  simp only [jstep] at h
  split at h
  · simp only [Bool.and_eq_true, decide_eq_true_eq] at hi
    exact lv_ldcw X.exec X.code X.own (X.hts _ (jchk_in hi.2 _ List.mem_cons_self)) hd (X.go h (st_ok1 (by unfold jok r32; exact hi.1) X.hok))
  · rename_i w0 hw0
    split at hi
    · exact absurd rfl hw0
    · exact j_ldcwS X.exec X.code X.own (X.txt (of_decide_eq_true hi)) hd (X.go h (st_ok1 (v := vT a) trivial X.hok))

/-- behind a call -/
theorem j_call {p : Program} {l : Launch} {e : Env} {R : Room} {s : State} {mi : MethodId} {args : Array Value} {below : List Frame} {meth : Method} {c : Code} {H : Heap} {locs : List Loc} {cells slots : Nat} {Q : State → Prop} {pc : Nat} {lc : Array Slot} {rest st0 : List Value} {E : jE} {mc1 ms1 : Nat} {t9 : Nat} {Post : Int → jG → jH → Prop}
    (hr : va_Run p l e R s mi args below meth c H locs cells slots mc1 ms1 (F0 mi pc lc st0) rest (fun st oc t => (∃ (x : Int) (G' : jG) (σ' : jH), oc = .returned ((jrv t9 x).map (cv E)).head? ∧ (∀ v ∈ jrv t9 x, jok v) ∧ Post x G' σ' ∧ jat E G' σ' t) ∧ va_F (jA E) st t) (jA E)) (hS : va_S (jA E) s.heap H locs)
    (kk : ∀ (x : Int) (G' : jG) (σ' : jH) (H1 : Heap) (locs1 : List Loc), (∀ v ∈ jrv t9 x, jok v) → Post x G' σ' → jworld E G' σ' H1 → va_S (jA E) s.heap H1 locs1 → W p l e R s mi args below meth c H1 locs1 (cells + mc1) (slots + ms1) Q (F0 mi (pc + 3) lc ((jrv t9 x).map (cv E) ++ rest))) : W p l e R s mi args below meth c H locs cells slots Q (F0 mi pc lc st0) := by
  intro T hT X
  obtain ⟨v, st₀, t, T', L, h0, X', hL, e1, e2, ⟨⟨x, G', σ', hv, hok, hp, hb⟩, hz, hk⟩, st⟩ := hr T hT X
  have hv2 : v.toList = (jrv t9 x).map (cv E) := by
    have h1 : v = ((jrv t9 x).map (cv E)).head? := by injection hv
    rw [h1]
    unfold jrv
    split <;> rfl
  rw [h0] at hz hk
  obtain ⟨b1, b2, b3, b4, b5⟩ := hb
  obtain ⟨t2, a1, c1⟩ := kk x G' σ' T'.heap (locs ++ L) hok hp ⟨by rw [e1]; exact b2, b3, b4, by rw [e1]; exact b5⟩
    ⟨Nat.le_trans hS.1 (by rw [e1]; exact hz), fun q h1 h2 => by rw [e1, hk q (Nat.lt_of_lt_of_le h1 hS.1) h2]; exact hS.2.1 q h1 h2, fun q hq => by
      rcases List.mem_append.mp hq with h | h
      · exact hS.2.2 q h
      · exact hL q h⟩ T' rfl X'
  rw [← hv2] at a1
  exact ⟨t2, st t2 a1, c1⟩
theorem jAOA_moved {ty : FieldType} {u U : State} (hvm : u.vm.Alike U.vm) (h : jAOA ty u) : jAOA ty U := over_moved hvm h
/-- what stays, in a state further on -/
theorem jstat_on {E : jE} {s U : State} {H0 H : Heap} {locs : List Loc} (h : jstat E s H0) (hW : s.WarmedH U.vm) (hS : va_S (jA E) H0 H locs) : jstat E U H :=
  ⟨va_K.moved hW.alike h.1, ⟨va_AO.moved hW.alike h.2.1.1, jAOA_moved hW.alike h.2.1.2.1, jAOA_moved hW.alike h.2.1.2.2⟩, fun q hq => vk_R.warm hW (h.2.2.1 q hq), vk_S.moved hW.alike (vk_S.kept h.2.2.2.1 (fun a h1 h2 => hS.2.1 a h1 h2)), va_Z.moved hW.alike (va_Z.kept h.2.2.2.2.1 (fun a h1 h2 => hS.2.1 a h1 h2)), va_Zq.moved hW.alike (va_Zq.kept h.2.2.2.2.2.1 (fun a h1 h2 => hS.2.1 a h1 h2)), fun q hq => va_Nw.warmM hW (h.2.2.2.2.2.2 q hq)⟩
theorem jstat_same {E : jE} {u U : State} {H : Heap} (h : jstat E u H) (hv : U.vm = u.vm) : jstat E U H :=
  ⟨va_K.moved (by rw [hv]; exact Vm.Alike.refl _) h.1, ⟨va_AO.moved (by rw [hv]; exact Vm.Alike.refl _) h.2.1.1, jAOA_moved (by rw [hv]; exact Vm.Alike.refl _) h.2.1.2.1, jAOA_moved (by rw [hv]; exact Vm.Alike.refl _) h.2.1.2.2⟩, fun q hq => vk_R.same hv (h.2.2.1 q hq), vk_S.moved (by rw [hv]; exact Vm.Alike.refl _) h.2.2.2.1, va_Z.moved (by rw [hv]; exact Vm.Alike.refl _) h.2.2.2.2.1, va_Zq.moved (by rw [hv]; exact Vm.Alike.refl _) h.2.2.2.2.2.1, fun q hq => va_Nw.same rfl hv.symm (h.2.2.2.2.2.2 q hq)⟩
theorem jgood {Ts : List Jvm.Cond} {m : jM} (h : jcw m ∈ jTB) : GoodIn jTB (jws m) := by
  intro w hw
  rcases List.mem_cons.mp hw with rfl | hw
  · exact ⟨h, good_of_word (List.mem_filter.mp h).2⟩
  · exact ⟨hw, good_of_word (List.mem_filter.mp hw).2⟩
theorem jgood1 {w : Jvm.Cond} (h : w ∈ jTB) : w ∈ jTB ∧ ((w.onTables && w.keeps) = true ∨ ∃ ty, w = .arrayClass ty) := ⟨h, good_of_word (List.mem_filter.mp h).2⟩
theorem jblind {E : jE} {as : List Value} : FrameBlind (va_Pc as (fun U => jat E G σ U)) := by
  intro a U g mk h
  obtain ⟨h1, h2, h3, h4⟩ := h
  exact ⟨h1, jstat_same h2 rfl, h3, h4⟩
section SX
variable {p : Program} {e : Env} {R : Room} {s : State} {mi : MethodId} {args : Array Value} {below : List Frame} {meth : Method} {c : Code} {E : jE} {Q : State → Prop} {H : Heap} {locs : List Loc} {lc : Array Slot}

theorem jcx.pre (X : jcx C d mc ms m RT p e R s mi args below meth c E Q ls st G σ cs ss H locs lc) {as : List Value} : PreS s H (va_Pc as (fun U => jat E G σ U)) as := by
  refine ⟨jblind, fun U hU hW => ⟨rfl, ?_, ?_, X.wd.2.1, X.wd.2.2.1, ?_⟩⟩
  · rw [hU]; exact jstat_on X.stat hW X.S
  · rw [hU]; exact X.wd.1
  · rw [hU]; exact X.P
/-- behind any call: the frame goes on -/
theorem jcx.beh {mc1 ms1 : Nat} {t9 : Nat} {Post : Int → jG → jH → Prop} {st0 : List Value} {rest : List jV} {k : jK}
    (X : jcx C d mc ms m RT p e R s mi args below meth c E Q ls st G σ cs ss H locs lc)
    (hr : va_Run p C.1 e R s mi args below meth c H locs cs ss mc1 ms1 (F0 mi pc lc st0) (rest.map (cv E)) (fun st oc t => (∃ (x : Int) (G' : jG) (σ' : jH), oc = .returned ((jrv t9 x).map (cv E)).head? ∧ (∀ v ∈ jrv t9 x, jok v) ∧ Post x G' σ' ∧ jat E G' σ' t) ∧ va_F (jA E) st t) (jA E))
    (hrest : ∀ v ∈ rest, jok v) (hc : cs + mc1 ≤ mc) (hs : ss + ms1 ≤ ms) (hk : ∀ x G' σ', Post x G' σ' → Ev C d mc ms m RT (pc + 3) ls (jrv t9 x ++ rest) G' σ' (cs + mc1) (ss + ms1)) : W p C.1 e R s mi args below meth c H locs cs ss Q (F0 mi pc lc st0) := by
  refine j_call hr X.S (fun x G' σ' H1 locs1 h1 h2 h3 h4 => ?_)
  have := hk x G' σ' h2 p e R s mi args below meth c E Q H1 locs1 lc ⟨X.1, X.2.1, fun v hv => ?_, X.2.2.2.1, h3, h4, X.hl, hc, hs⟩
  · rw [List.map_append] at this
    exact this
  · rcases List.mem_append.mp hv with h | h
    · exact h1 v h
    · exact hrest v h
theorem jcx.fix (X : jcx C d mc ms m RT p e R s mi args below meth c E Q ls st G σ cs ss H locs lc) : CallFix p mi c m.2.1 m.2.2.1 s args jTB m.1.cls := ⟨X.exec, X.code, X.1.2.2.1, X.own, X.hts⟩
end SX
theorem jplain_of {m : jM} (h : jplain m = true) : (m.1.cls ≠ "java/lang/invoke/MethodHandle" ∧ m.1.cls ≠ "java/lang/invoke/VarHandle") ∧ m.2.2.1 ≤ 22 := by
  simp only [jplain, Bool.and_eq_true, decide_eq_true_eq] at h
  exact h
theorem take_split {n : Nat} {E : jE} (h : n ≤ st.length) : st.map (cv E) = ((st.take n).reverse.map (cv E)).reverse ++ (st.drop n).map (cv E) := by
  rw [← List.map_reverse, List.reverse_reverse, ← List.map_append, List.take_append_drop]
theorem take_len {n : Nat} {E : jE} (h : n ≤ st.length) : ((st.take n).reverse.map (cv E)).length = n := by
  simp
  omega
theorem jroom_fit {d d' mc ms m1 m2 L : Nat} (h : d' < d) (hL : L ≤ 22) : (jroom d' m1 m2).frames + 1 ≤ (jroom d mc ms).frames ∧ 8 + (L + 11) + (jroom d' m1 m2).locals ≤ (jroom d mc ms).locals := by
  show d' + 1 ≤ d ∧ 8 + (L + 11) + (41 * d' + 32) ≤ 41 * d + 32
  omega

theorem s_invokestatic {i : Nat} (hw : w = 0 ∨ w = 4) (ho : okB m pc (.invokestatic i, len, a, b, w, z, ps, mm) = true) (h : jstep C d mc ms RT (Ev C d mc ms m RT) (.invokestatic i, len, a, b, w, z, ps, mm) pc ls st G σ cs ss) : Ev C d mc ms m RT pc ls st G σ cs ss := by
  intro p e R s mi args below meth c E Q H locs lc X
  have hd := okB_d ho
  have hi := okB_i ho
  have hn : len = 3 := by
    simp only [okB, Bool.and_eq_true, decide_eq_true_eq, jlen] at ho
    exact of_decide_eq_true ho.1.2
  subst hn
  simp only [okI] at hi
  simp only [jstep] at h
  have hc : jcallS C d mm b st G σ (fun r σ' => Ev C d mc ms m RT (pc + 3) ls r G σ' cs ss) := by rcases hw with rfl | rfl <;> exact h
  simp only [jcallS] at hc
  split at hc
  · rename_i hble
    simp only [Bool.and_eq_true] at hble
    have hsw : ((List.map (cv E) (st.drop b)).map fun v => v.category).sum ≤ 8 := jsw_le (E := E) (Nat.le_of_ble_eq_true hble.1)
    have hlen := Nat.le_of_ble_eq_true hble.2
    obtain ⟨d', Post, hd', hM, hk⟩ := hc
    have hrest : ∀ v ∈ st.drop b, jok v := fun v hv => X.hok v (List.mem_of_mem_drop hv)
    have has : ∀ v ∈ (st.take b).reverse, jok v := fun v hv => X.hok v (List.mem_of_mem_take (List.mem_reverse.mp hv))
    have hMet := hM has E
    have hst := take_split (E := E) hlen
    have hR := X.rm
    rcases hw with rfl | rfl
    · simp only [Bool.and_eq_true, decide_eq_true_eq] at hi
      obtain ⟨⟨hpl, hnp⟩, hps⟩ := hi
      obtain ⟨hp1, hp2⟩ := jplain_of hpl
      have hts := fun w hw => jchk_in hps w hw
      have hG : GoodIn jTB (va_wsS m.1.cls i mm.1 (jws mm)) := by
        intro w hw
        rcases List.mem_append.mp hw with h9 | h9
        · exact jgood1 (hts w (by simp at h9 ⊢; rcases h9 with rfl | rfl | rfl <;> simp))
        · exact jgood (Ts := jTB) (hts _ (by simp)) w h9
      refine X.beh (mc1 := 0) (ms1 := 0) (rest := st.drop b) (k := fun _ _ _ _ _ _ _ => True) (va_runS X.fix hMet (va_cwS b X.hts hG rfl rfl rfl ⟨hp1.1, hp1.2, hnp⟩ (by rw [hR]; exact jroom_fit hd' hp2)) X.pre rfl (take_len hlen) X.hl.1 hst (lv_room hsw) hd ⟨by rw [hR]; exact X.2.2.2.2.2.2.2.1, by rw [hR]; exact X.2.2.2.2.2.2.2.2⟩) hrest X.2.2.2.2.2.2.2.1 X.2.2.2.2.2.2.2.2 (fun x G' σ' hp => ?_)
      obtain ⟨rfl, hp⟩ := hp
      exact hk x σ' hp
    · simp only [Bool.and_eq_true, decide_eq_true_eq] at hi
      obtain ⟨⟨⟨hpl, hnp⟩, hnest⟩, hps⟩ := hi
      obtain ⟨hp1, hp2⟩ := jplain_of hpl
      have hts := fun w hw => jchk_in hps w hw
      refine X.beh (mc1 := 0) (ms1 := 0) (rest := st.drop b) (k := fun _ _ _ _ _ _ _ => True) (va_runSN X.fix hMet ⟨va_cnB (host := "WordPlaces") b X.hts (jgood (Ts := jTB) (hts _ (by simp))) rfl rfl rfl (X.stat.2.2.2.2.2.2 _ hnest) (X.hts _ (hts _ (by simp))) ⟨hp1.1, hp1.2, hnp⟩ (by rw [hR]; exact jroom_fit hd' hp2), X.hts _ (hts _ (by simp)), trivial⟩ X.pre rfl (take_len hlen) X.hl.1 hst (lv_room hsw) hd ⟨by rw [hR]; exact X.2.2.2.2.2.2.2.1, by rw [hR]; exact X.2.2.2.2.2.2.2.2⟩) hrest X.2.2.2.2.2.2.2.1 X.2.2.2.2.2.2.2.2 (fun x G' σ' hp => ?_)
      obtain ⟨rfl, hp⟩ := hp
      exact hk x σ' hp
  · exact hc.elim

theorem jrecv_of {v : Option jV} {f : Int → Prop} (h : jrecv v f) : ∃ o, v = some (vR o) ∧ f o := by
  unfold jrecv at h
  split at h
  · exact ⟨_, rfl, h⟩
  · exact h.elim
theorem recv_at {p : Program} {e : Env} {R : Room} {s : State} {mi : MethodId} {args : Array Value} {below : List Frame} {meth : Method} {c : Code} {E : jE} {Q : State → Prop} {H : Heap} {locs : List Loc} {lc : Array Slot} {q : Int} {rr : vw_C} (X : jcx C d mc ms m RT p e R s mi args below meth c E Q ls st G σ cs ss H locs lc) (hq : (G.2.1 q).1 = a + 8) (hcl : jcl[a]? = some rr) : 1 ≤ q ∧ ∃ cell : Cell, H[E.1 + q.toNat]? = some cell ∧ cell.vm.isStatics = false ∧ s.vm.findClass rr.1 = some cell.cls := by
  obtain ⟨g1, g2, -⟩ := X.wd.2.1 q (by rw [hq]; omega)
  have hget := jW_get (E := E) (σ := σ) g1 g2
  rw [jcell_ob hq] at hget
  exact ⟨g1, va_recv X.K X.P hcl hget⟩
theorem recv_split {n : Nat} {E : jE} {v : jV} (h : n ≤ st.length) (h1 : 1 ≤ n) (hv : (st.drop (n - 1)).head? = some v) : st.map (cv E) = ((st.take (n - 1)).reverse.map (cv E)).reverse ++ cv E v :: (st.drop n).map (cv E) ∧ ((st.take n).reverse.map (cv E)) = cv E v :: (st.take (n - 1)).reverse.map (cv E) ∧ ((st.take (n - 1)).reverse.map (cv E)).length = n - 1 := by
  have e1 : st.drop (n - 1) = v :: st.drop n := by
    have hl : n - 1 < st.length := by omega
    rw [List.drop_eq_getElem_cons hl] at hv ⊢
    have h9 : st[n - 1] = v := by
      rw [List.head?_cons] at hv
      exact Option.some.inj hv
    have : n - 1 + 1 = n := by omega
    rw [h9, this]
  have e2 : st.take n = st.take (n - 1) ++ [v] := by
    have hl : n - 1 < st.length := by omega
    have : n - 1 + 1 = n := by omega
    conv => lhs; rw [← this]
    rw [List.take_succ_eq_append_getElem hl]
    rw [List.drop_eq_getElem_cons hl] at e1
    injection e1 with e3
    rw [e3]
  refine ⟨?_, ?_, ?_⟩
  · rw [← List.map_reverse, List.reverse_reverse]
    have : cv E v :: (st.drop n).map (cv E) = (st.drop (n - 1)).map (cv E) := by rw [e1]; rfl
    rw [this, ← List.map_append, List.take_append_drop]
  · rw [e2]
    simp
  · simp
    omega

theorem s_invokevirtual {i : Nat} (hw : w = 1 ∨ w = 4) (ho : okB m pc (.invokevirtual i, len, a, b, w, z, ps, mm) = true) (h : jstep C d mc ms RT (Ev C d mc ms m RT) (.invokevirtual i, len, a, b, w, z, ps, mm) pc ls st G σ cs ss) : Ev C d mc ms m RT pc ls st G σ cs ss := by
  intro p e R s mi args below meth c E Q H locs lc X
  have hd := okB_d ho
  have hi := okB_i ho
  have hn : len = 3 := by
    simp only [okB, Bool.and_eq_true, decide_eq_true_eq, jlen] at ho
    exact of_decide_eq_true ho.1.2
  subst hn
  simp only [okI] at hi
  simp only [jstep] at h
  have hc : jcallV C d mm b a st G σ (fun r σ' => Ev C d mc ms m RT (pc + 3) ls r G σ' cs ss) := by rcases hw with rfl | rfl <;> exact h
  have hi2 : jplain mm = true ∧ jnpar mm = some (b - 1) ∧ 1 ≤ b ∧ (jcl[a]?).map (fun r => r.1) = some mm.1.cls := by
    rcases hw with rfl | rfl
    · simp only [Bool.and_eq_true, decide_eq_true_eq] at hi
      exact ⟨hi.1.1.1.1, hi.1.1.1.2, hi.1.1.2, hi.1.2⟩
    · simp only [Bool.and_eq_true, decide_eq_true_eq] at hi
      exact ⟨hi.1.1.1.1.1, hi.1.1.1.1.2, hi.1.1.1.2, hi.1.1.2⟩
  obtain ⟨hpl, hnp, hb1, hcls⟩ := hi2
  obtain ⟨hp1, hp2⟩ := jplain_of hpl
  simp only [jcallV] at hc
  split at hc
  · rename_i hble
    simp only [Bool.and_eq_true] at hble
    have hsw : ((List.map (cv E) (st.drop b)).map fun v => v.category).sum ≤ 8 := jsw_le (E := E) (Nat.le_of_ble_eq_true hble.1)
    have hlen := Nat.le_of_ble_eq_true hble.2
    obtain ⟨q, hv, hc⟩ := jrecv_of hc
    · skip
      obtain ⟨hq, d', Post, hd', hM, hk⟩ := hc
      have hrest : ∀ v ∈ st.drop b, jok v := fun v hv => X.hok v (List.mem_of_mem_drop hv)
      have has : ∀ v ∈ (st.take b).reverse, jok v := fun v hv => X.hok v (List.mem_of_mem_take (List.mem_reverse.mp hv))
      have hMet := hM has E
      obtain ⟨s1, s2, s3⟩ := recv_split (E := E) hlen hb1 hv
      have hR := X.rm
      obtain ⟨rr, hcl, hnm⟩ : ∃ rr, jcl[a]? = some rr ∧ rr.1 = mm.1.cls := by
        cases hj : jcl[a]? with
        | none => rw [hj] at hcls; cases hcls
        | some rr => rw [hj] at hcls; exact ⟨rr, rfl, Option.some.inj hcls⟩
      obtain ⟨q1, hrecv⟩ := recv_at X hq hcl
      rw [hnm] at hrecv
      have ecv : cv E (.inr (.inr (.inl q))) = .ref (E.1 + q.toNat) := cv_ref q1
      rw [ecv] at s1 s2
      rw [s2] at hMet
      have hpre : PreV s H mm.1.cls (E.1 + q.toNat) (va_Pc (Value.ref (E.1 + q.toNat) :: (st.take (b - 1)).reverse.map (cv E)) (fun U => jat E G σ U)) ((st.take (b - 1)).reverse.map (cv E)) := ⟨X.pre.1, hrecv, X.pre.2⟩
      rcases hw with rfl | rfl
      · simp only [Bool.and_eq_true, decide_eq_true_eq] at hi
        have hts := fun w hw => jchk_in hi.2 w hw
        have hG : GoodIn jTB (wsV m.1.cls i mm.1.cls mm.1 (jws mm)) := by
          intro w hw
          rcases List.mem_append.mp hw with h9 | h9
          · exact jgood1 (hts w (by simp at h9 ⊢; rcases h9 with rfl | rfl | rfl | rfl <;> simp))
          · exact jgood (Ts := jTB) (hts _ (by simp)) w h9
        refine X.beh (mc1 := 0) (ms1 := 0) (rest := st.drop b) (k := fun _ _ _ _ _ _ _ => True) (va_runV X.fix hMet (cwV (b - 1) X.hts hG rfl rfl rfl ⟨rfl, hp1.1, hp1.2, hnp⟩ (by rw [hR]; exact jroom_fit hd' hp2)) hpre rfl s3 X.hl.1 s1 (lv_room hsw) hd ⟨by rw [hR]; exact X.2.2.2.2.2.2.2.1, by rw [hR]; exact X.2.2.2.2.2.2.2.2⟩) hrest X.2.2.2.2.2.2.2.1 X.2.2.2.2.2.2.2.2 (fun x G' σ' hp => ?_)
        obtain ⟨rfl, hp⟩ := hp
        exact hk x σ' hp
      · simp only [Bool.and_eq_true, decide_eq_true_eq] at hi
        have hts := fun w hw => jchk_in hi.2 w hw
        have hnest := hi.1.2
        refine X.beh (mc1 := 0) (ms1 := 0) (rest := st.drop b) (k := fun _ _ _ _ _ _ _ => True) (va_runVN X.fix hMet ⟨va_cnB (host := "WordPlaces") (b - 1) X.hts (jgood (Ts := jTB) (hts _ (by simp))) rfl rfl rfl (X.stat.2.2.2.2.2.2 _ hnest) (X.hts _ (hts _ (by simp))) ⟨hp1.1, hp1.2, hnp⟩ (by rw [hR]; exact jroom_fit hd' hp2), X.hts _ (hts _ (by simp)), X.hts _ (hts _ (by simp))⟩ hpre rfl s3 X.hl.1 s1 (lv_room hsw) hd ⟨by rw [hR]; exact X.2.2.2.2.2.2.2.1, by rw [hR]; exact X.2.2.2.2.2.2.2.2⟩) hrest X.2.2.2.2.2.2.2.1 X.2.2.2.2.2.2.2.2 (fun x G' σ' hp => ?_)
        obtain ⟨rfl, hp⟩ := hp
        exact hk x σ' hp
  · exact hc.elim

theorem s_invokespecial {i : Nat} (ho : okB m pc (.invokespecial i, len, a, b, w, z, ps, mm) = true) (h : jstep C d mc ms RT (Ev C d mc ms m RT) (.invokespecial i, len, a, b, w, z, ps, mm) pc ls st G σ cs ss) : Ev C d mc ms m RT pc ls st G σ cs ss := by
  intro p e R s mi args below meth c E Q H locs lc X
  have hd := okB_d ho
  have hi := okB_i ho
  have hn : len = 3 := by
    simp only [okB, Bool.and_eq_true, decide_eq_true_eq, jlen] at ho
    exact of_decide_eq_true ho.1.2
  subst hn
  simp only [okI] at hi
  simp only [jstep] at h
  split at h
  · split at h
    · rename_i q r hble
      obtain ⟨hd1, hq, hk⟩ := h
      have hts := fun w hw => X.hts w (jchk_in hi w hw)
      have hR := X.rm
      have hsw : ((List.map (cv E) r).map fun v => v.category).sum ≤ 8 := jsw_le (E := E) (Nat.le_of_ble_eq_true hble)
      have := X.go hk (st_tl X.hok)
      show W p C.1 e R s mi args below meth c H locs cs ss Q (F0 mi pc lc (cv E (vR q) :: r.map (cv E)))
      rw [cv_ref (by omega)]
      exact W.objInit X.exec X.code X.own (hts _ (by simp)) (hts _ (by simp)) (hts _ (by simp)) rfl X.ml.symm rfl hd (by rw [hR]; exact hd1) (by rw [hR]; show 2 * 0 + _ + 12 ≤ 41 * d + 32; omega) (W.eq (g2 := F0 mi (pc + 3) lc (r.map (cv E))) rfl this)
    · exact h.elim
  · rename_i w0 hw0
    simp only [jctor] at h
    have hi2 : jplain mm = true ∧ jnpar mm = some (b - 1) ∧ 1 ≤ b ∧ mm.1.name = "<init>" ∧ mm.2.2.2 = none := by
      split at hi
      · exact absurd rfl hw0
      · simp only [Bool.and_eq_true, decide_eq_true_eq] at hi; exact ⟨hi.1.1.1.1.1, hi.1.1.1.1.2, hi.1.1.1.2, hi.1.1.2, hi.1.2⟩
      · simp only [Bool.and_eq_true, decide_eq_true_eq] at hi; exact ⟨hi.1.1.1.1.1.1, hi.1.1.1.1.1.2, hi.1.1.1.1.2, hi.1.1.1.2, hi.1.1.2⟩
    obtain ⟨hpl, hnp, hb1, hnm, hret⟩ := hi2
    obtain ⟨hp1, hp2⟩ := jplain_of hpl
    have hk0 : jrk mm = 0 := by unfold jrk; rw [hret]
    split at h
    · rename_i hble
      simp only [Bool.and_eq_true] at hble
      have hsw : ((List.map (cv E) (st.drop b)).map fun v => v.category).sum ≤ 8 := jsw_le (E := E) (Nat.le_of_ble_eq_true hble.1)
      have hlen := Nat.le_of_ble_eq_true hble.2
      obtain ⟨q, hv, hq, d', Post, hd', hM, hm1, hm2, hk⟩ := jrecv_of h
      have hrest : ∀ v ∈ st.drop b, jok v := fun v hv => X.hok v (List.mem_of_mem_drop hv)
      have has : ∀ v ∈ (st.take b).reverse, jok v := fun v hv => X.hok v (List.mem_of_mem_take (List.mem_reverse.mp hv))
      have hMet := hM has E
      obtain ⟨s1, s2, s3⟩ := recv_split (E := E) hlen hb1 hv
      have hR := X.rm
      have ecv : cv E (.inr (.inr (.inl q))) = .ref (E.1 + q.toNat) := cv_ref (by omega)
      rw [ecv] at s1 s2
      rw [s2] at hMet
      have hpre : PreS s H (va_Pc (Value.ref (E.1 + q.toNat) :: (st.take (b - 1)).reverse.map (cv E)) (fun U => jat E G σ U)) (Value.ref (E.1 + q.toNat) :: (st.take (b - 1)).reverse.map (cv E)) := X.pre
      have hend : ∀ (x : Int) (G' : jG) (σ' : jH), Post G' σ' → Ev C d mc ms m RT (pc + 3) ls (jrv (jrk mm) x ++ st.drop b) G' σ' (cs + a) (ss + z.toNat) := fun x G' σ' hp => by
        rw [hk0]
        exact hk G' σ' hp
      split at hi
      · exact absurd rfl hw0
      · simp only [Bool.and_eq_true, decide_eq_true_eq] at hi
        have hts := fun w hw => jchk_in hi.2 w hw
        have hG : GoodIn jTB (jws mm) := jgood (Ts := jTB) (hts _ (by simp))
        exact X.beh (mc1 := a) (ms1 := z.toNat) (rest := st.drop b) (k := fun _ _ _ _ _ _ _ => True) (va_runI X.fix hMet (cwI (b - 1) X.hts hG (by unfold jws; rw [hret]) rfl rfl (X.hts _ (hts _ (by simp))) (X.hts _ (hts _ (by simp))) (X.hts _ (hts _ (by simp))) hnm ⟨hp1.1, hp1.2, hnp⟩ (by rw [hR]; exact jroom_fit hd' hp2)) hpre rfl s3 X.hl.1 s1 (lv_room hsw) hd ⟨by rw [hR]; exact hm1, by rw [hR]; exact hm2⟩) hrest hm1 hm2 hend
      · simp only [Bool.and_eq_true, decide_eq_true_eq] at hi
        have hts := fun w hw => jchk_in hi.2 w hw
        have hcn := va_cnB (R := R) (host := "WordPlaces") (rm := jroom d' a z.toNat) (mc := a) (ms := z.toNat) (b - 1) X.hts (jgood (Ts := jTB) (m := mm) (hts _ (by simp))) rfl rfl rfl (X.stat.2.2.2.2.2.2 _ hi.1.2) (X.hts _ (hts _ (by simp))) ⟨hp1.1, hp1.2, hnp⟩ (by rw [hR]; exact jroom_fit hd' hp2)
        rw [hret] at hcn
        exact X.beh (mc1 := a) (ms1 := z.toNat) (rest := st.drop b) (k := fun _ _ _ _ _ _ _ => True) (va_runIN X.fix hMet ⟨hcn, hnm, X.hts _ (hts _ (by simp))⟩ hpre rfl s3 X.hl.1 s1 (lv_room hsw) hd ⟨by rw [hR]; exact hm1, by rw [hR]; exact hm2⟩) hrest hm1 hm2 hend
    · exact h.elim

end SV
