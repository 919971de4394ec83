/-! Each step of the small machine is a step of the machine: fields and arrays -/
/-! Rows of writing that also say how many cells there are -/
section JR
variable {p : Program} {l : Launch} {e : Env} {R : Room} {s : State} {m : MethodId} {args : Array Value} {below : List Frame} {meth : Method} {c : Code} {H : Heap} {locs : List Loc} {cells slots : Nat} {Q : State → Prop}
variable {cc : ByteArray} {pc : Nat} {ls : Array Slot} {rest : List Value} {D : va_G} {cl : List vw_C} {A : Nat → Prop} {a : Nat} {tys : List (ClassId × FieldType)} {ws : va_W} {H0 : Heap}
theorem j_put (hexec : p.tables.exec = Jvm.exec) (hb : c.code = cc) {own C : String} {T : u_T} {N ci index : Nat} {Ts : List Jvm.Cond} (hts : ∀ w ∈ Ts, w.before args s = true) (hin : ∀ w ∈ u_ws C T N, w ∈ Ts) (ty0 : Nat → FieldType) (hty : ∀ k, k < N → parseFieldDescriptor (T k).2.2.1 = some (ty0 k)) (hnm : ∀ a, a < N → ∀ b, b < N → a ≠ b → (T a).2.1 ≠ (T b).2.1) (hown : s.vm.findClass own = some m.cls) (hK : va_K D cl tys s) (hP : va_P D cl ws H) (hD : va_D A ws) (hS0 : va_S A H0 H locs) (q0 : Nat) {fs : List Value} (he : ws[q0]? = some (a, .inr (ci, fs))) (hc : cl[ci]? = some (C, T, N)) (k : Nat) (hk : k < N) (hlink : (Cond.fieldLink own index (T k).1 (T k).2.1 (T k).2.2.1).before args s = true) (hfin : (T k).2.2.2 = false) {ty : FieldType} {v : Value} (hd : parseFieldDescriptor (T k).2.2.1 = some ty) (hn : narrow ty v = v) (hfit : fits ty v = true) (hl : k < fs.length)
    (hdg : decode cc pc = .ok (.putfield index, 3)) (kk : ∀ (H1 : Heap) (locs1 : List Loc), H1.size = H.size → va_P D cl (ws.set q0 (a, .inr (ci, fs.set k v))) H1 → va_S A H0 H1 locs1 → W p l e R s m args below meth c H1 locs1 cells slots Q (F0 m (pc + 3) ls rest)) : W p l e R s m args below meth c H locs cells slots Q (F0 m pc ls (v :: .ref a :: rest)) := by
  have hap := va_apart (own := own) hts hin ty0 hty hnm hK hc
  obtain ⟨r, h1, cell, q1, q2, q3, q4⟩ := hP q0 _ he
  cases Option.some.inj (h1.symm.trans hc)
  obtain ⟨hS, hfc, kC, hkC, hkind⟩ := hK.1 ci _ hc
  obtain ⟨cf, kf, fi, f, hi, hsl⟩ := hS k hk
  have hlay := hts _ (hin _ (u_in_lay hk))
  unfold u_lay at hlay
  rw [if_neg (by rw [hfin]; decide)] at hlay
  have hst := (u_facts hfc hkC (u_lays hts hin hk) hi).1
  have h6 := u_store hfc hkC hkind hlay hi hd hn hfit
  refine W.putK hexec hb (f := f) ⟨hown, hlink, ⟨_, _, _, hi⟩, hst⟩ (by rw [q2]; exact h6) q1 q3 (by rw [hsl]; exact k2_hasslot (q4 k hk)) rfl rfl hdg fun H' e1 e2 e3 => ?_
  rw [hsl] at e1 ⊢
  exact kk H' _ e2 (hP.set hD he ⟨_, hc, t_OB.to (V := updV (vp_V fs) k v) ⟨_, e1, q2, q3, t_set q4 hap hk v⟩ (fun j _ => vp_updV_set hl v j)⟩ e3) (hS0.put e2 e3 (hD.2 q0 _ he))
end JR
section SV
variable {C : jC} {d mc ms : Nat} {m : jM} {RT : Int → jG → jH → Prop} {ls : List (Option jV)} {st : List jV} {G : jG} {σ : jH} {cs ss : Nat} {pc : Nat} {len a b w : Nat} {z : Int} {ps : List Nat} {mm : jM}
section SX
variable {p : Program} {e : Env} {R : Room} {s : State} {mi : MethodId} {args : Array Value} {below : List Frame} {meth : Method} {c : Code} {E : jE} {Q : State → Prop} {H H1 : Heap} {locs locs1 : List Loc} {lc : Array Slot}
theorem jcx.wd (X : jcx C d mc ms m RT p e R s mi args below meth c E Q ls st G σ cs ss H locs lc) : jworld E G σ H := X.2.2.2.2.1
theorem jcx.S (X : jcx C d mc ms m RT p e R s mi args below meth c E Q ls st G σ cs ss H locs lc) : va_S (jA E) s.heap H locs := X.2.2.2.2.2.1
theorem jcx.stat (X : jcx C d mc ms m RT p e R s mi args below meth c E Q ls st G σ cs ss H locs lc) : jstat E s s.heap := X.1.2.2.2.2.2.2.1
theorem jcx.K (X : jcx C d mc ms m RT p e R s mi args below meth c E Q ls st G σ cs ss H locs lc) : va_K E.2.1 jcl (jtys E.2.2.1) s := X.stat.1
theorem jcx.P (X : jcx C d mc ms m RT p e R s mi args below meth c E Q ls st G σ cs ss H locs lc) : va_P E.2.1 jcl (jW E G σ) H := X.wd.2.2.2
/-- behind a change of the world that makes no cell -/
theorem jcx.chg {G' : jG} {σ' : jH} {st' : List jV} (X : jcx C d mc ms m RT p e R s mi args below meth c E Q ls st G σ cs ss H locs lc) (hst : ∀ v ∈ st', jok v) (hw : jworld E G' σ' H1) (hS : va_S (jA E) s.heap H1 locs1) : jcx C d mc ms m RT p e R s mi args below meth c E Q ls st' G' σ' cs ss H1 locs1 lc :=
  ⟨X.1, X.2.1, hst, X.2.2.2.1, hw, hS, X.2.2.2.2.2.2.1, X.2.2.2.2.2.2.2⟩
theorem jcx.goC {G' : jG} {σ' : jH} {st' : List jV} (X : jcx C d mc ms m RT p e R s mi args below meth c E Q ls st G σ cs ss H locs lc) (k : Ev C d mc ms m RT pc ls st' G' σ' cs ss) (hst : ∀ v ∈ st', jok v) (hw : jworld E G' σ' H1) (hS : va_S (jA E) s.heap H1 locs1) : W p C.1 e R s mi args below meth c H1 locs1 cs ss Q (F0 mi pc lc (st'.map (cv E))) := k _ _ _ _ _ _ _ _ _ _ _ _ _ _ (X.chg hst hw hS)
end SX
theorem jok_fv {t : Nat} {x y : Int} (h : jokt t x) : jok (jfv t x y) := by
  unfold jokt at h
  unfold jfv
  split
  · exact h
  · trivial
  · trivial
  · rename_i h1 h2 h3
    split at h
    · exact absurd rfl h1
    · exact absurd rfl h2
    · exact absurd rfl h3
    · show r32 x
      unfold r32
      omega
    · exact h
theorem s_getfield {i : Nat} (ho : okB m pc (.getfield i, len, a, b, w, z, ps, mm) = true) (h : jstep C d mc ms RT (Ev C d mc ms m RT) (.getfield i, len, a, b, w, z, ps, mm) pc ls st G σ cs ss) : Ev C d mc ms m RT pc ls st G σ cs ss := by
  intro p e R s mi args below meth c E Q H locs lc X
  have hd := okB_d ho
  have hi := okB_i ho
  have hn : len = 3 := by
    simp only [okB, Bool.and_eq_true, decide_eq_true_eq, jlen] at ho
    exact of_decide_eq_true ho.1.2
  subst hn
  simp only [okI] at hi
  simp only [jstep] at h
  split at h
  · rename_i q r
    obtain ⟨hq, hk⟩ := h
    split at hi
    · rename_i rr hcl
      simp only [Bool.and_eq_true, decide_eq_true_eq] at hi
      obtain ⟨⟨hb, rfl⟩, hps⟩ := hi
      obtain ⟨g1, g2, g3, g4, g5⟩ := X.wd.2.1 q (by rw [hq]; omega)
      obtain ⟨rr', hr1, hr2⟩ := g5 a hq
      rw [hcl] at hr1
      cases hr1
      have hget := jW_get (E := E) (σ := σ) g1 g2
      rw [jcell_ob hq] at hget
      have hv : ((List.range (G.2.1 q).2.toNat).map (fun k => cv E (jfv (jft a k) (σ q (k : Int)) (G.2.2 q (k : Int)))))[b]? = some (cv E (jfv (jft a b) (σ q (b : Int)) (G.2.2 q (b : Int)))) := by
        rw [List.getElem?_map, List.getElem?_range (by rw [hr2]; omega)]
        rfl
      show W p C.1 e R s mi args below meth c H locs cs ss Q (F0 mi pc lc (cv E (vR q) :: r.map (cv E)))
      rw [cv_ref g1]
      refine va_get (D := E.2.1) (C := rr.1) (T := rr.2.1) (N := rr.2.2) X.exec X.code X.hts (jcl_ws hcl) X.own X.K X.P (q.toNat - 1) hget (by rw [hcl]) b hb (X.hts _ (jchk_in hps _ List.mem_cons_self)) (fun _ h9 => h9) hv hd ?_
      refine X.go hk (st_ok1 (jok_fv ?_) (st_tl X.hok))
      have h2 := X.wd.2.2.1 q b (by rw [hr2]; omega)
      rw [hq] at h2
      exact h2
    · cases hi
  · exact h.elim
theorem nar_ok {t : Nat} {ty : FieldType} {x y : Int} {E : jE} (h : jtyk t ty = true) (hx : jokt t x) : narrow ty (cv E (jfv t x y)) = cv E (jfv t x y) ∧ fits ty (cv E (jfv t x y)) = true := by
  unfold jtyk at h
  split at h
  · exact ⟨rfl, rfl⟩
  · exact ⟨rfl, rfl⟩
  · have hx' : x = 0 ∨ x = 1 := by
      have : 0 ≤ x ∧ x ≤ 1 := hx
      omega
    rcases hx' with rfl | rfl <;> exact ⟨rfl, rfl⟩
  · show narrow _ (va_rf (jrf E.1 x)) = va_rf (jrf E.1 x) ∧ _
    show narrow _ (va_rf (jrf E.1 x)) = va_rf (jrf E.1 x) ∧ fits _ (va_rf (jrf E.1 x)) = true
    cases jrf E.1 x <;> exact ⟨rfl, rfl⟩
  · show narrow _ (va_rf (jrf E.1 x)) = va_rf (jrf E.1 x) ∧ fits _ (va_rf (jrf E.1 x)) = true
    cases jrf E.1 x <;> exact ⟨rfl, rfl⟩
  · show narrow _ (va_rf (jrf E.1 y)) = va_rf (jrf E.1 y) ∧ fits _ (va_rf (jrf E.1 y)) = true
    cases jrf E.1 y <;> exact ⟨rfl, rfl⟩
  · show narrow _ (va_rf (jrf E.1 y)) = va_rf (jrf E.1 y) ∧ fits _ (va_rf (jrf E.1 y)) = true
    cases jrf E.1 y <;> exact ⟨rfl, rfl⟩
  · cases h
/-- a written field that isn't final -/
theorem put_row {i : Nat} {p : Program} {e : Env} {R : Room} {s : State} {mi : MethodId} {args : Array Value} {below : List Frame} {meth : Method} {c : Code} {E : jE} {Q : State → Prop} {H : Heap} {locs : List Loc} {lc : Array Slot} {q x y : Int} {r : List jV} {v : jV} {rr : vw_C}
    (X : jcx C d mc ms m RT p e R s mi args below meth c E Q ls (v :: vR q :: r) G σ cs ss H locs lc) (hd : decode m.2.1 pc = .ok (.putfield i, 3)) (hcl : jcl[a]? = some rr) (hb : b < rr.2.2) (hps : jchk ps [jfl m.1.cls i rr b] = true) (hfin : (rr.2.1 b).2.2.2 = false) (hq : (G.2.1 q).1 = a + 8) (hv : v = jfv (jft a b) x y) (hy : jft a b ≠ 3) (hx : jokt (jft a b) x)
    (hk : Ev C d mc ms m RT (pc + 3) ls r G (ju σ q (b : Int) x) cs ss) : W p C.1 e R s mi args below meth c H locs cs ss Q (F0 mi pc lc ((v :: vR q :: r).map (cv E))) := by
  obtain ⟨g1, g2, g3, g4, g5⟩ := X.wd.2.1 q (by rw [hq]; omega)
  obtain ⟨rr', hr1, hr2⟩ := g5 a hq
  rw [hcl] at hr1
  cases hr1
  have hget := jW_get (E := E) (σ := σ) g1 g2
  rw [jcell_ob hq] at hget
  obtain ⟨ty, ht1, ht2⟩ := jcl_ty hcl hb
  obtain ⟨n1, n2⟩ := nar_ok (E := E) (y := y) ht2 hx
  show W p C.1 e R s mi args below meth c H locs cs ss Q (F0 mi pc lc (cv E v :: cv E (vR q) :: r.map (cv E)))
  rw [cv_ref g1]
  refine j_put (D := E.2.1) (C := rr.1) (T := rr.2.1) (N := rr.2.2) X.exec X.code X.hts (jcl_ws hcl) (jtyf rr) (jcl_tyf hcl) (jcl_nm hcl) X.own X.K X.P jW_D X.S (q.toNat - 1) hget (by rw [hcl]) b hb (X.hts _ (jchk_in hps _ List.mem_cons_self)) hfin ht1 (by rw [hv]; exact n1) (by rw [hv]; exact n2) (by rw [List.length_map, List.length_range]; omega) hd (fun H1 locs1 hz hP1 hS1 => ?_)
  have hcell : jcell E G (ju σ q (b : Int) x) q = .inr (a, ((List.range (G.2.1 q).2.toNat).map (fun k => cv E (jfv (jft a k) (σ q (k : Int)) (G.2.2 q (k : Int))))).set b (cv E v)) := by
    refine jcell_put hq rfl ?_ (fun j hj => ⟨ju_ne2 (by omega), rfl⟩)
    rw [ju_self, hv]
    have hyy : ∀ y1 y2 : Int, jfv (jft a b) x y1 = jfv (jft a b) x y2 := fun y1 y2 => by
      unfold jfv
      split <;> first | rfl | (rename_i h3; exact absurd h3 hy)
    rw [hyy _ y]
  have hW : jW E G (ju σ q (b : Int) x) = (jW E G σ).set (q.toNat - 1) (E.1 + q.toNat, .inr (a, ((List.range (G.2.1 q).2.toNat).map (fun k => cv E (jfv (jft a k) (σ q (k : Int)) (G.2.2 q (k : Int))))).set b (cv E v))) :=
    jW_set g1 g2 rfl (by rw [hcell]) (fun u hu => jcell_eq rfl (fun _ => rfl) (fun _ => ju_ne hu))
  rw [← hW] at hP1
  refine X.goC hk (st_tl (st_tl X.hok)) ⟨?_, X.wd.2.1, ?_, hP1⟩ hS1
  · rw [hz]; exact X.wd.1
  · refine jwf_put X.wd.2.2.1 (fun h1 h2 => ?_)
    rw [hq]
    have : ((b : Int)).toNat = b := by omega
    rw [this]
    exact hx
end SV
