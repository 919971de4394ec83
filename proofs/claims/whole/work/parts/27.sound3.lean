/-! Each step of the small machine is a step of the machine: fields (the rest), arrays -/
section JR
variable {p : Program} {l : Launch} {e : Env} {R : Room} {s : State} {m : MethodId} {args : Array Value} {below : List Frame} {meth : Method} {c : Code} {H : Heap} {locs : List Loc} {cells slots : Nat} {Q : State → Prop}
variable {cc : ByteArray} {pc : Nat} {ls : Array Slot} {rest : List Value} {D : va_G} {cl : List vw_C} {A : Nat → Prop} {a : Nat} {tys : List (ClassId × FieldType)} {ws : va_W} {H0 : Heap}
theorem j_putF (hexec : p.tables.exec = Jvm.exec) (hb : c.code = cc) {own C : String} {T : u_T} {N ci index : Nat} {Ts : List Jvm.Cond} (hts : ∀ w ∈ Ts, w.before args s = true) (hin : ∀ w ∈ u_ws C T N, w ∈ Ts) (ty0 : Nat → FieldType) (hty : ∀ k, k < N → parseFieldDescriptor (T k).2.2.1 = some (ty0 k)) (hnm : ∀ a, a < N → ∀ b, b < N → a ≠ b → (T a).2.1 ≠ (T b).2.1) (hown : s.vm.findClass own = some m.cls) (hK : va_K D cl tys s) (hP : va_P D cl ws H) (hD : va_D A ws) (hS0 : va_S A H0 H locs) (q0 : Nat) {fs : List Value} (he : ws[q0]? = some (a, .inr (ci, fs))) (hc : cl[ci]? = some (C, T, N)) (k : Nat) (hk : k < N) (hlink : (Cond.fieldLink own index (T k).1 (T k).2.1 (T k).2.2.1).before args s = true) (hfin : (T k).2.2.2 = true) (hin2 : meth.name = "<init>") (hdecl : (T k).1 = own) {ty : FieldType} {v : Value} (hd : parseFieldDescriptor (T k).2.2.1 = some ty) (hn : narrow ty v = v) (hfit : fits ty v = true) (hl : k < fs.length)
    (hdg : decode cc pc = .ok (.putfield index, 3)) (kk : ∀ (H1 : Heap) (locs1 : List Loc), H1.size = H.size → va_P D cl (ws.set q0 (a, .inr (ci, fs.set k v))) H1 → va_S A H0 H1 locs1 → W p l e R s m args below meth c H1 locs1 cells slots Q (F0 m (pc + 3) ls rest)) : W p l e R s m args below meth c H locs cells slots Q (F0 m pc ls (v :: .ref a :: rest)) := by
  have hap := va_apart (own := own) hts hin ty0 hty hnm hK hc
  obtain ⟨r, h1, cell, q1, q2, q3, q4⟩ := hP q0 _ he
  cases Option.some.inj (h1.symm.trans hc)
  obtain ⟨hS, hfc, kC, hkC, hkind⟩ := hK.1 ci _ hc
  obtain ⟨cf, kf, fi, f, hi, hsl⟩ := hS k hk
  have hlay := hts _ (hin _ (u_in_lay hk))
  unfold u_lay at hlay
  rw [if_pos hfin] at hlay
  have hst := (u_facts hfc hkC (u_lays hts hin hk) hi).1
  have hcf : m.cls = cf := by
    obtain ⟨_, _, c', _, _, _, -, -, hf', -, -, -, hown2, -⟩ := Cond.laysFinal_spec hlay
    have e1 : c' = cf := by have := hi.symm.trans hf'; simp at this; exact this.1.symm
    rw [hdecl] at hown2
    rw [← e1]; exact Option.some.inj (hown.symm.trans hown2)
  have h6 := u_fits hfc hkC hkind (Or.inr hlay) hi hd hn hfit
  refine W.putFinK hexec hb hown hlink hi hst hcf hin2 (by rw [q2]; exact h6) q1 q3 (by rw [hsl]; exact k2_hasslot (q4 k hk)) rfl rfl hdg fun H' e1 e2 e3 => ?_
  rw [hsl] at e1 ⊢
  exact kk H' _ e2 (hP.set hD he ⟨_, hc, t_OB.to (V := updV (vp_V fs) k v) ⟨_, e1, q2, q3, t_set q4 hap hk v⟩ (fun j _ => vp_updV_set hl v j)⟩ e3) (hS0.put e2 e3 (hD.2 q0 _ he))
end JR

section SV
variable {C : jC} {d mc ms : Nat} {m : jM} {RT : Int → jG → jH → Prop} {ls : List (Option jV)} {st : List jV} {G : jG} {σ : jH} {cs ss : Nat} {pc : Nat} {len a b w : Nat} {z : Int} {ps : List Nat} {mm : jM}

theorem putF_row {i : Nat} {p : Program} {e : Env} {R : Room} {s : State} {mi : MethodId} {args : Array Value} {below : List Frame} {meth : Method} {c : Code} {E : jE} {Q : State → Prop} {H : Heap} {locs : List Loc} {lc : Array Slot} {q x : Int} {r : List jV} {rr : vw_C}
    (X : jcx C d mc ms m RT p e R s mi args below meth c E Q ls (vR x :: vR q :: r) G σ cs ss H locs lc) (hd : decode m.2.1 pc = .ok (.putfield i, 3)) (hcl : jcl[a]? = some rr) (hb : b < rr.2.2) (hps : jchk ps [jfl m.1.cls i rr b] = true) (hfin : (rr.2.1 b).2.2.2 = true) (hinit : m.1.name = "<init>") (hdecl : (rr.2.1 b).1 = m.1.cls) (hq : (G.2.1 q).1 = a + 8) (hy : jft a b = 3)
    (hk : Ev C d mc ms m RT (pc + 3) ls r (G.1, G.2.1, ju G.2.2 q (b : Int) x) σ cs ss) : W p C.1 e R s mi args below meth c H locs cs ss Q (F0 mi pc lc ((vR x :: vR q :: r).map (cv E))) := by
  obtain ⟨g1, g2, g3, g4, g5⟩ := X.wd.2.1 q (by rw [hq]; omega)
  obtain ⟨rr', hr1, hr2⟩ := g5 a hq
  rw [hcl] at hr1
  cases hr1
  have hget := jW_get (E := E) (σ := σ) g1 g2
  rw [jcell_ob hq] at hget
  obtain ⟨ty, ht1, ht2⟩ := jcl_ty hcl hb
  obtain ⟨n1, n2⟩ := nar_ok (E := E) (x := 0) (y := x) ht2 (by rw [hy]; trivial)
  have hv : cv E (vR x) = cv E (jfv (jft a b) 0 x) := by rw [hy]; rfl
  show W p C.1 e R s mi args below meth c H locs cs ss Q (F0 mi pc lc (cv E (vR x) :: cv E (vR q) :: r.map (cv E)))
  rw [cv_ref g1]
  refine j_putF (D := E.2.1) (C := rr.1) (T := rr.2.1) (N := rr.2.2) X.exec X.code X.hts (jcl_ws hcl) (jtyf rr) (jcl_tyf hcl) (jcl_nm hcl) X.own X.K X.P jW_D X.S (q.toNat - 1) hget (by rw [hcl]) b hb (X.hts _ (jchk_in hps _ List.mem_cons_self)) hfin (X.1.2.2.2.2.2.2.2.2.2.1 hinit) hdecl ht1 (by rw [hv]; exact n1) (by rw [hv]; exact n2) (by rw [List.length_map, List.length_range]; omega) hd (fun H1 locs1 hz hP1 hS1 => ?_)
  have hcell : jcell E (G.1, G.2.1, ju G.2.2 q (b : Int) x) σ q = .inr (a, ((List.range (G.2.1 q).2.toNat).map (fun k => cv E (jfv (jft a k) (σ q (k : Int)) (G.2.2 q (k : Int))))).set b (cv E (vR x))) := by
    refine jcell_put hq rfl ?_ (fun j hj => ⟨rfl, ju_ne2 (by omega)⟩)
    show cv E (jfv (jft a b) (σ q (b : Int)) (ju G.2.2 q (b : Int) x q (b : Int))) = _
    rw [ju_self, hy]
    rfl
  have hW : jW E (G.1, G.2.1, ju G.2.2 q (b : Int) x) σ = (jW E G σ).set (q.toNat - 1) (E.1 + q.toNat, .inr (a, ((List.range (G.2.1 q).2.toNat).map (fun k => cv E (jfv (jft a k) (σ q (k : Int)) (G.2.2 q (k : Int))))).set b (cv E (vR x)))) :=
    jW_set g1 g2 rfl (by rw [hcell]) (fun u hu => jcell_eq rfl (fun _ => ju_ne hu) (fun _ => rfl))
  rw [← hW] at hP1
  exact X.goC hk (st_tl (st_tl X.hok)) ⟨by rw [hz]; exact X.wd.1, X.wd.2.1, X.wd.2.2.1, hP1⟩ hS1

theorem s_putfield {i : Nat} (ho : okB m pc (.putfield i, len, a, b, w, z, ps, mm) = true) (h : jstep C d mc ms RT (Ev C d mc ms m RT) (.putfield i, len, a, b, w, z, ps, mm) pc ls st G σ cs ss) : Ev C d mc ms m RT pc ls st G σ cs ss := by
  intro p e R s mi args below meth c E Q H locs lc X
  have hd := okB_d ho
  have hi := okB_i ho
  have hn : len = 3 := by
    simp only [okB, Bool.and_eq_true, decide_eq_true_eq, jlen] at ho
    exact of_decide_eq_true ho.1.2
  subst hn
  simp only [okI] at hi
  split at hi
  · rename_i rr hcl
    simp only [Bool.and_eq_true, decide_eq_true_eq] at hi
    obtain ⟨⟨⟨hb, rfl⟩, hps⟩, hf⟩ := hi
    simp only [jstep] at h
    split at h
    · rename_i h9 
      have hfin : (rr.2.1 b).2.2.2 = false := by rw [h9] at hf; simpa using hf
      exact put_row (y := 0) X hd hcl hb hps hfin h.1 (by rw [h9]; rfl) (by rw [h9]; decide) (by rw [h9]; exact st_hd X.hok) h.2
    · rename_i h9
      have hfin : (rr.2.1 b).2.2.2 = false := by rw [h9] at hf; simpa using hf
      exact put_row (y := 0) X hd hcl hb hps hfin h.1 (by rw [h9]; rfl) (by rw [h9]; decide) (by rw [h9]; show _ ∧ _; have := h.2.1; omega) h.2.2
    · rename_i h9
      have hfin : (rr.2.1 b).2.2.2 = false := by rw [h9] at hf; simpa using hf
      exact put_row (y := 0) X hd hcl hb hps hfin h.1 (by rw [h9]; rfl) (by rw [h9]; decide) (by rw [h9]; exact st_hd X.hok) h.2
    · rename_i h9
      have hfin : (rr.2.1 b).2.2.2 = false := by rw [h9] at hf; simpa using hf
      exact put_row (y := 0) X hd hcl hb hps hfin h.1 (by rw [h9]; rfl) (by rw [h9]; decide) (by rw [h9]; trivial) h.2
    · rename_i h9
      rw [h9] at hf
      simp only [Bool.and_eq_true, decide_eq_true_eq] at hf
      exact putF_row X hd hcl hb hps hf.1.1 hf.1.2 hf.2 h.1 h9 h.2
    · exact h.elim
  · cases hi

theorem i32_ofNat (n : Nat) : Int32.ofNat n = Int32.ofInt (n : Int) := by
  first
    | exact (Int32.ofInt_eq_ofNat ..).symm
    | simp
    | rfl

theorem arr_at {E : jE} {H : Heap} {q : Int} {t : Nat} (hw : jworld E G σ H) (hq : (G.2.1 q).1 = t) (h1 : 1 ≤ t) : 1 ≤ q ∧ q ≤ G.1 ∧ 0 ≤ (G.2.1 q).2 ∧ (G.2.1 q).2 < 2147483648 := by
  obtain ⟨g1, g2, g3, g4, -⟩ := hw.2.1 q (by rw [hq]; omega)
  exact ⟨g1, g2, g3, g4⟩
theorem i_at {i : Int} (h : 0 ≤ i) : ((i.toNat : Nat) : Int) = i := by omega

theorem ldi_row {p : Program} {e : Env} {R : Room} {s : State} {mi : MethodId} {args : Array Value} {below : List Frame} {meth : Method} {c : Code} {E : jE} {Q : State → Prop} {H : Heap} {locs : List Loc} {lc : Array Slot} {ins : Instr} {t : Nat}
    (X : jcx C d mc ms m RT p e R s mi args below meth c E Q ls st G σ cs ss H locs lc) (hd : decode m.2.1 pc = .ok (ins, 1)) (ht : (t = 1 ∧ ins = .iaload) ∨ (t = 2 ∧ ins = .baload) ∨ (t = 3 ∧ ins = .baload))
    (h : jldk st G t (fun q i r => Ev C d mc ms m RT (pc + 1) ls (vI (σ q i) :: r) G σ cs ss)) : W p C.1 e R s mi args below meth c H locs cs ss Q (F0 mi pc lc (st.map (cv E))) := by
  unfold jldk at h
  split at h
  · rename_i i q r
    obtain ⟨hq, h0, hl, hk⟩ := h
    have ht1 : 1 ≤ t := by omega
    have ht3 : t ≤ 3 := by omega
    obtain ⟨g1, g2, g3, g4⟩ := arr_at X.wd hq ht1
    have hget := jW_get (E := E) (σ := σ) g1 g2
    rw [jcell_i hq ht1 ht3] at hget
    have hin : vp_in (Int32.ofInt i) (G.2.1 q).2.toNat := vp_in_of32 h0 (by omega) (by omega)
    have hr : r32 (σ q i) := by
      have := X.wd.2.2.1 q i.toNat (by rw [i_at h0]; exact hl)
      rw [i_at h0, hq] at this
      rcases ht with ⟨rfl, -⟩ | ⟨rfl, -⟩ | ⟨rfl, -⟩
      · exact this
      · have h2 : -128 ≤ σ q i ∧ σ q i < 128 := this
        unfold r32; omega
      · have h2 : 0 ≤ σ q i ∧ σ q i ≤ 1 := this
        unfold r32; omega
    have hk2 := X.go hk (st_ok1 hr (st_tl (st_tl X.hok)))
    have hv : Int32.ofInt (σ q (((Int32.ofInt i).toNatClampNeg : Nat) : Int)) = Int32.ofInt (σ q i) := by
      rw [i32_clamp h0 (by omega), i_at h0]
    show W p C.1 e R s mi args below meth c H locs cs ss Q (F0 mi pc lc (.int (Int32.ofInt i) :: cv E (vR q) :: r.map (cv E)))
    rw [cv_ref g1]
    rcases ht with ⟨rfl, rfl⟩ | ⟨rfl, rfl⟩ | ⟨rfl, rfl⟩
    · refine va_iald X.exec X.code X.K X.P (q.toNat - 1) 0 hget rfl hin hd ?_
      rw [hv]; exact hk2
    · refine va_bald X.exec X.code X.K X.P (q.toNat - 1) 1 hget rfl hin hd ?_
      rw [hv]; exact hk2
    · refine va_zald X.exec X.code X.K X.P (q.toNat - 1) 2 hget rfl hin hd ?_
      rw [hv]; exact hk2
  · exact h.elim

theorem s_iaload (ho : okB m pc (.iaload, len, a, b, w, z, ps, mm) = true) (h : jstep C d mc ms RT (Ev C d mc ms m RT) (.iaload, len, a, b, w, z, ps, mm) pc ls st G σ cs ss) : Ev C d mc ms m RT pc ls st G σ cs ss := by
  intro p e R s mi args below meth c E Q H locs lc X
  have hd := okB_d ho
  have hi := okB_i ho
  have hn : len = 1 := by
    simp only [okB, Bool.and_eq_true, decide_eq_true_eq, jlen] at ho
    exact of_decide_eq_true ho.1.2
  subst hn
  simp only [okI] at hi
  simp only [jstep] at h
  split at h
  · exact ldi_row X hd (Or.inl ⟨rfl, rfl⟩) h
  · rename_i hw0
    split at h
    · rename_i i u r
      obtain ⟨h0, hl, hk⟩ := h
      have hlaw : m.1.cls = "WordPlacesLaw" := by
        rcases Bool.or_eq_true_iff.mp hi with h1 | h1
        · exact absurd (of_decide_eq_true h1) (fun q => hw0 q)
        · exact of_decide_eq_true h1
      obtain ⟨x1, x2, x3, x4⟩ := X.1.2.2.2.2.2.2.2.2.1 hlaw
      have hin : vp_in (Int32.ofInt i) C.2.2.toNat := vp_in_of32 h0 (by omega) (by omega)
      have hk2 := X.go hk (st_ok1 (x1 i) (st_tl (st_tl X.hok)))
      refine va_sld X.exec X.code x3 (by have := X.1.2.2.2.2.2.2.2.1; omega) (by show ¬ E.1 < _; omega) X.S hin hd ?_
      have hv : Int32.ofInt (C.2.1 (((Int32.ofInt i).toNatClampNeg : Nat) : Int)) = Int32.ofInt (C.2.1 i) := by
        rw [i32_clamp h0 (by omega), i_at h0]
      rw [hv]
      exact hk2
    · exact h.elim

theorem s_baload (ho : okB m pc (.baload, len, a, b, w, z, ps, mm) = true) (h : jstep C d mc ms RT (Ev C d mc ms m RT) (.baload, len, a, b, w, z, ps, mm) pc ls st G σ cs ss) : Ev C d mc ms m RT pc ls st G σ cs ss := by
  intro p e R s mi args below meth c E Q H locs lc X
  have hd := okB_d ho
  have hi := okB_i ho
  have hn : len = 1 := by
    simp only [okB, Bool.and_eq_true, decide_eq_true_eq, jlen] at ho
    exact of_decide_eq_true ho.1.2
  subst hn
  simp only [jstep] at h
  split at h
  · exact ldi_row X hd (Or.inr (Or.inl ⟨rfl, rfl⟩)) h
  · exact ldi_row X hd (Or.inr (Or.inr ⟨rfl, rfl⟩)) h

theorem s_laload (ho : okB m pc (.laload, len, a, b, w, z, ps, mm) = true) (h : jstep C d mc ms RT (Ev C d mc ms m RT) (.laload, len, a, b, w, z, ps, mm) pc ls st G σ cs ss) : Ev C d mc ms m RT pc ls st G σ cs ss := by
  intro p e R s mi args below meth c E Q H locs lc X
  have hd := okB_d ho
  have hi := okB_i ho
  have hn : len = 1 := by
    simp only [okB, Bool.and_eq_true, decide_eq_true_eq, jlen] at ho
    exact of_decide_eq_true ho.1.2
  subst hn
  simp only [jstep, jldk] at h
  split at h
  · rename_i i q r
    obtain ⟨hq, h0, hl, hk⟩ := h
    obtain ⟨g1, g2, g3, g4⟩ := arr_at X.wd hq (by omega)
    have hget := jW_get (E := E) (σ := σ) g1 g2
    rw [jcell_l hq] at hget
    have hin : vp_in (Int32.ofInt i) (G.2.1 q).2.toNat := vp_in_of32 h0 (by omega) (by omega)
    have hr : r64 (σ q i) := by
      have := X.wd.2.2.1 q i.toNat (by rw [i_at h0]; exact hl)
      rw [i_at h0, hq] at this
      exact this
    have hk2 := X.go hk (st_ok1 hr (st_tl (st_tl X.hok)))
    have hv : Int64.ofInt (σ q (((Int32.ofInt i).toNatClampNeg : Nat) : Int)) = Int64.ofInt (σ q i) := by
      rw [i32_clamp h0 (by omega), i_at h0]
    show W p C.1 e R s mi args below meth c H locs cs ss Q (F0 mi pc lc (.int (Int32.ofInt i) :: cv E (vR q) :: r.map (cv E)))
    rw [cv_ref g1]
    refine va_lald X.exec X.code X.K X.P (q.toNat - 1) 3 hget rfl hin hd ?_
    rw [hv]
    exact hk2
  · exact h.elim

theorem s_aaload (ho : okB m pc (.aaload, len, a, b, w, z, ps, mm) = true) (h : jstep C d mc ms RT (Ev C d mc ms m RT) (.aaload, len, a, b, w, z, ps, mm) pc ls st G σ cs ss) : Ev C d mc ms m RT pc ls st G σ cs ss := by
  intro p e R s mi args below meth c E Q H locs lc X
  have hd := okB_d ho
  have hi := okB_i ho
  have hn : len = 1 := by
    simp only [okB, Bool.and_eq_true, decide_eq_true_eq, jlen] at ho
    exact of_decide_eq_true ho.1.2
  subst hn
  simp only [okI, decide_eq_true_eq] at hi
  simp only [jstep, jldk] at h
  split at h
  · rename_i i q r
    obtain ⟨hq, h0, hl, hk⟩ := h
    obtain ⟨g1, g2, g3, g4⟩ := arr_at X.wd hq (by omega)
    have hget := jW_get (E := E) (σ := σ) g1 g2
    rw [jcell_q hq (by omega) (by omega)] at hget
    have hin : vp_in (Int32.ofInt i) (G.2.1 q).2.toNat := vp_in_of32 h0 (by omega) (by omega)
    have hlt : (Int32.ofInt i).toNatClampNeg < (G.2.1 q).2.toNat := by rw [i32_clamp h0 (by omega)]; omega
    have hk2 := X.go hk (st_ok1 trivial (st_tl (st_tl X.hok)))
    have hv : va_rf (jrf E.1 (G.2.2 q (((Int32.ofInt i).toNatClampNeg : Nat) : Int))) = cv E (vR (G.2.2 q i)) := by
      rw [i32_clamp h0 (by omega), i_at h0]
      rfl
    have hty : ∃ ty, (jtys E.2.2.1)[w + 4]? = some (E.2.2.1 (w + 5), ty) ∧ ty.isReference = true := by
      have : w = 0 ∨ w = 1 ∨ w = 2 := by omega
      rcases this with rfl | rfl | rfl <;> exact ⟨_, rfl, rfl⟩
    obtain ⟨ty, ht1, ht2⟩ := hty
    show W p C.1 e R s mi args below meth c H locs cs ss Q (F0 mi pc lc (.int (Int32.ofInt i) :: cv E (vR q) :: r.map (cv E)))
    rw [cv_ref g1]
    refine W.aald X.exec X.code (X.P (q.toNat - 1) _ hget) ((X.K.2 _ _ ht1).1 _ _) ht2 (fun q => by cases q) (by show ¬ (_ ∨ (arrV _ _ _).slots.size ≤ _); rw [arrV_size]; exact hin) (by show (arrV _ _ _).slots[_]? = _; rw [arrV_read _ _ hlt]) rfl rfl hd ?_
    rw [hv]
    exact hk2
  · exact h.elim

theorem s_arraylength (ho : okB m pc (.arraylength, len, a, b, w, z, ps, mm) = true) (h : jstep C d mc ms RT (Ev C d mc ms m RT) (.arraylength, len, a, b, w, z, ps, mm) pc ls st G σ cs ss) : Ev C d mc ms m RT pc ls st G σ cs ss := by
  intro p e R s mi args below meth c E Q H locs lc X
  have hd := okB_d ho
  have hi := okB_i ho
  have hn : len = 1 := by
    simp only [okB, Bool.and_eq_true, decide_eq_true_eq, jlen] at ho
    exact of_decide_eq_true ho.1.2
  subst hn
  simp only [okI] at hi
  simp only [jstep] at h
  split at h
  · rename_i q r
    obtain ⟨⟨hq1, hq2⟩, hk⟩ := h
    obtain ⟨g1, g2, g3, g4⟩ := arr_at (t := (G.2.1 q).1) X.wd rfl hq1
    have hget := jW_get (E := E) (σ := σ) g1 g2
    have hk2 := X.go hk (st_ok1 (by show r32 _; unfold r32; omega) (st_tl X.hok))
    have hv : Int32.ofNat (G.2.1 q).2.toNat = Int32.ofInt (G.2.1 q).2 := by
      rw [i32_ofNat, i_at g3]
    show W p C.1 e R s mi args below meth c H locs cs ss Q (F0 mi pc lc (cv E (vR q) :: r.map (cv E)))
    rw [cv_ref g1]
    have hc : (G.2.1 q).1 ≤ 3 ∨ (G.2.1 q).1 = 4 ∨ 5 ≤ (G.2.1 q).1 := by omega
    rcases hc with hc | hc | hc
    · rw [jcell_i rfl hq1 hc] at hget
      have hty : ∃ (ty : FieldType) (t0 : Nat), (jtys E.2.2.1)[t0]? = some (E.2.2.1 (G.2.1 q).1, ty) := by
        have : (G.2.1 q).1 = 1 ∨ (G.2.1 q).1 = 2 ∨ (G.2.1 q).1 = 3 := by omega
        rcases this with h1 | h1 | h1 <;> rw [h1]
        · exact ⟨_, 0, rfl⟩
        · exact ⟨_, 1, rfl⟩
        · exact ⟨_, 2, rfl⟩
      obtain ⟨ty, t0, ht⟩ := hty
      exact va_alen X.exec X.code X.K X.P (q.toNat - 1) t0 hget ht hv hd hk2
    · rw [jcell_l hc] at hget
      exact va_alen X.exec X.code X.K X.P (q.toNat - 1) 3 hget rfl hv hd hk2
    · rw [jcell_q rfl hc hq2] at hget
      have hty : ∃ (ty : FieldType) (t0 : Nat), (jtys E.2.2.1)[t0]? = some (E.2.2.1 (G.2.1 q).1, ty) := by
        have : (G.2.1 q).1 = 5 ∨ (G.2.1 q).1 = 6 ∨ (G.2.1 q).1 = 7 := by omega
        rcases this with h1 | h1 | h1 <;> rw [h1]
        · exact ⟨_, 4, rfl⟩
        · exact ⟨_, 5, rfl⟩
        · exact ⟨_, 6, rfl⟩
      obtain ⟨ty, t0, ht⟩ := hty
      exact va_alen X.exec X.code X.K X.P (q.toNat - 1) t0 hget ht hv hd hk2
  · rename_i u r
    have hlaw : m.1.cls = "WordPlacesLaw" := by simpa using hi
    obtain ⟨x1, x2, x3, x4⟩ := X.1.2.2.2.2.2.2.2.2.1 hlaw
    have hk2 := X.go h (st_ok1 (by show r32 _; unfold r32; omega) (st_tl X.hok))
    refine va_slen X.exec X.code x3 (by have := X.1.2.2.2.2.2.2.2.1; omega) (by show ¬ E.1 < _; omega) X.S hd ?_
    rw [i32_ofNat, i_at x2.1]
    exact hk2
  · exact h.elim

/-- a written place of an array of small numbers -/
theorem ast_P {E : jE} {H H' : Heap} {q i x : Int} {t : Nat} (hw : jworld E G σ H) (hq : (G.2.1 q).1 = t) (ht1 : 1 ≤ t) (ht3 : t ≤ 3) (h0 : 0 ≤ i)
    (h1 : H'[E.1 + q.toNat]? = some ((vp_cell (E.2.2.1 t) ((G.2.1 q).2.toNat, .inl (fun j => Int32.ofInt (σ q (j : Int))))).setSlot i.toNat (.int (Int32.ofInt x)))) (h2 : ∀ u, u ≠ E.1 + q.toNat → H'[u]? = H[u]?) : va_P E.2.1 jcl (jW E G (ju σ q i x)) H' := by
  obtain ⟨g1, g2, g3, g4⟩ := arr_at hw hq ht1
  have hget := jW_get (E := E) (σ := σ) g1 g2
  rw [jW_set (G := G) (σ := σ) (o := q) g1 g2 rfl rfl (fun u hu => jcell_eq rfl (fun _ => rfl) (fun _ => ju_ne hu))]
  refine hw.2.2.2.set jW_D hget ?_ h2
  rw [jcell_i hq ht1 ht3]
  show H'[_]? = some (vp_cell _ _)
  rw [h1, vp_cell_i, vp_cell_i, arrV_store]
  congr 2
  funext j
  have := upd_of (f := σ) (q := q) (x := x) h0 j
  unfold upd at this
  unfold updV
  rw [← this]
  split <;> rfl
theorem sti_row {p : Program} {e : Env} {R : Room} {s : State} {mi : MethodId} {args : Array Value} {below : List Frame} {meth : Method} {c : Code} {E : jE} {Q : State → Prop} {H : Heap} {locs : List Loc} {lc : Array Slot} {ins : Instr} {t : Nat} {f : Int → Int} {g : Int → Prop}
    (X : jcx C d mc ms m RT p e R s mi args below meth c E Q ls st G σ cs ss H locs lc) (hd : decode m.2.1 pc = .ok (ins, 1)) (ht : (t = 1 ∧ ins = .iastore ∧ (∀ x, f x = x)) ∨ (t = 2 ∧ ins = .bastore ∧ (∀ x, f x = w8 x)) ∨ (t = 3 ∧ ins = .bastore ∧ (∀ x, f x = x) ∧ (∀ x, g x → x = 0 ∨ x = 1)))
    (h : jstk st G t (fun q i x r => g x ∧ Ev C d mc ms m RT (pc + 1) ls r G (ju σ q i (f x)) cs ss)) : W p C.1 e R s mi args below meth c H locs cs ss Q (F0 mi pc lc (st.map (cv E))) := by
  unfold jstk at h
  split at h
  · rename_i x i q r
    obtain ⟨hq, h0, hl, hg, hk⟩ := h
    have ht1 : 1 ≤ t := by omega
    have ht3 : t ≤ 3 := by omega
    obtain ⟨g1, g2, g3, g4⟩ := arr_at X.wd hq ht1
    have hget := jW_get (E := E) (σ := σ) g1 g2
    rw [jcell_i hq ht1 ht3] at hget
    have hin : vp_in (Int32.ofInt i) (G.2.1 q).2.toNat := vp_in_of32 h0 (by omega) (by omega)
    have hx : r32 x := st_hd X.hok
    have hsz : ∀ f : Nat → Int32, ¬ (Int32.ofInt i < 0 ∨ (vp_cell (E.2.2.1 t) ((G.2.1 q).2.toNat, .inl f)).slots.size ≤ (Int32.ofInt i).toNatClampNeg) := fun f => by
      show ¬ (_ ∨ (arrV _ _ _).slots.size ≤ _)
      rw [arrV_size]
      exact hin
    have hwf : jwf G (ju σ q i (f x)) := by
      refine jwf_put X.wd.2.2.1 (fun _ _ => ?_)
      rw [hq]
      rcases ht with ⟨rfl, -, hf⟩ | ⟨rfl, -, hf⟩ | ⟨rfl, -, hf, hg2⟩
      · rw [hf]; exact hx
      · rw [hf]; show -128 ≤ w8 x ∧ w8 x < 128; unfold w8; omega
      · rw [hf]; show 0 ≤ x ∧ x ≤ 1; have := hg2 x hg; omega
    have key : ∀ (H1 : Heap) (locs1 : List Loc), H1[E.1 + q.toNat]? = some ((vp_cell (E.2.2.1 t) ((G.2.1 q).2.toNat, .inl (fun j => Int32.ofInt (σ q (j : Int))))).setSlot (Int32.ofInt i).toNatClampNeg (.int (Int32.ofInt (f x)))) → H1.size = H.size → (∀ u, u ≠ E.1 + q.toNat → H1[u]? = H[u]?) → va_S (jA E) s.heap H1 locs1 → W p C.1 e R s mi args below meth c H1 locs1 cs ss Q (F0 mi (pc + 1) lc (r.map (cv E))) := fun H1 locs1 e1 e2 e3 e4 => by
      rw [i32_clamp h0 (by omega)] at e1
      exact X.goC hk (st_tl (st_tl (st_tl X.hok))) ⟨by rw [e2]; exact X.wd.1, X.wd.2.1, hwf, ast_P X.wd hq ht1 ht3 h0 e1 e3⟩ e4
    show W p C.1 e R s mi args below meth c H locs cs ss Q (F0 mi pc lc (.int (Int32.ofInt x) :: .int (Int32.ofInt i) :: cv E (vR q) :: r.map (cv E)))
    rw [cv_ref g1]
    have hA : jA E (E.1 + q.toNat) := by show E.1 < _; omega
    rcases ht with ⟨rfl, rfl, hf⟩ | ⟨rfl, rfl, hf⟩ | ⟨rfl, rfl, hf, hg2⟩
    · rw [hf] at key
      exact W.iast X.exec X.code (X.P (q.toNat - 1) _ hget) ((X.K.2 0 _ rfl).1 _ (fun j => .int _)) (fun q => by cases q) (hsz _) rfl rfl hd (fun H1 e1 e2 e3 => key H1 _ e1 e2 e3 (X.S.put e2 e3 hA))
    · rw [hf] at key
      refine W.bast X.exec X.code (X.P (q.toNat - 1) _ hget) ((X.K.2 1 _ rfl).1 _ (fun j => .int _)) (fun q => by cases q) (hsz _) rfl rfl hd (fun H1 e1 e2 e3 => key H1 _ ?_ e2 e3 (X.S.put e2 e3 hA))
      rw [narrow_byte, i32_8] at e1
      exact e1
    · rw [hf] at key
      refine W.zast X.exec X.code (X.P (q.toNat - 1) _ hget) ((X.K.2 2 _ rfl).1 _ (fun j => .int _)) (fun q => by cases q) (hsz _) rfl rfl hd (fun H1 e1 e2 e3 => key H1 _ ?_ e2 e3 (X.S.put e2 e3 hA))
      rcases hg2 x hg with rfl | rfl <;> exact e1
  · exact h.elim

theorem s_iastore (ho : okB m pc (.iastore, len, a, b, w, z, ps, mm) = true) (h : jstep C d mc ms RT (Ev C d mc ms m RT) (.iastore, len, a, b, w, z, ps, mm) pc ls st G σ cs ss) : Ev C d mc ms m RT pc ls st G σ cs ss := by
  intro p e R s mi args below meth c E Q H locs lc X
  have hd := okB_d ho
  have hi := okB_i ho
  have hn : len = 1 := by
    simp only [okB, Bool.and_eq_true, decide_eq_true_eq, jlen] at ho
    exact of_decide_eq_true ho.1.2
  subst hn
  simp only [jstep] at h
  refine sti_row (t := 1) (f := fun x => x) (g := fun _ => True) X hd (Or.inl ⟨rfl, rfl, fun _ => rfl⟩) ?_
  unfold jstk at h ⊢
  split at h
  · exact ⟨h.1, h.2.1, h.2.2.1, trivial, h.2.2.2⟩
  · exact h.elim

theorem s_bastore (ho : okB m pc (.bastore, len, a, b, w, z, ps, mm) = true) (h : jstep C d mc ms RT (Ev C d mc ms m RT) (.bastore, len, a, b, w, z, ps, mm) pc ls st G σ cs ss) : Ev C d mc ms m RT pc ls st G σ cs ss := by
  intro p e R s mi args below meth c E Q H locs lc X
  have hd := okB_d ho
  have hi := okB_i ho
  have hn : len = 1 := by
    simp only [okB, Bool.and_eq_true, decide_eq_true_eq, jlen] at ho
    exact of_decide_eq_true ho.1.2
  subst hn
  simp only [jstep] at h
  split at h
  · refine sti_row (t := 2) (f := w8) (g := fun _ => True) X hd (Or.inr (Or.inl ⟨rfl, rfl, fun _ => rfl⟩)) ?_
    unfold jstk at h ⊢
    split at h
    · exact ⟨h.1, h.2.1, h.2.2.1, trivial, h.2.2.2⟩
    · exact h.elim
  · exact sti_row (t := 3) (f := fun x => x) (g := fun x => x = 0 ∨ x = 1) X hd (Or.inr (Or.inr ⟨rfl, rfl, fun _ => rfl, fun _ h => h⟩)) h

theorem s_lastore (ho : okB m pc (.lastore, len, a, b, w, z, ps, mm) = true) (h : jstep C d mc ms RT (Ev C d mc ms m RT) (.lastore, len, a, b, w, z, ps, mm) pc ls st G σ cs ss) : Ev C d mc ms m RT pc ls st G σ cs ss := by
  intro p e R s mi args below meth c E Q H locs lc X
  have hd := okB_d ho
  have hi := okB_i ho
  have hn : len = 1 := by
    simp only [okB, Bool.and_eq_true, decide_eq_true_eq, jlen] at ho
    exact of_decide_eq_true ho.1.2
  subst hn
  simp only [jstep] at h
  split at h
  · rename_i x i q r
    obtain ⟨hq, h0, hl, hk⟩ := h
    obtain ⟨g1, g2, g3, g4⟩ := arr_at X.wd hq (by omega)
    have hget := jW_get (E := E) (σ := σ) g1 g2
    rw [jcell_l hq] at hget
    have hin : vp_in (Int32.ofInt i) (G.2.1 q).2.toNat := vp_in_of32 h0 (by omega) (by omega)
    have hx : r64 x := st_hd X.hok
    show W p C.1 e R s mi args below meth c H locs cs ss Q (F0 mi pc lc (.long (Int64.ofInt x) :: .int (Int32.ofInt i) :: cv E (vR q) :: r.map (cv E)))
    rw [cv_ref g1]
    refine W.last X.exec X.code (X.P (q.toNat - 1) _ hget) ((X.K.2 3 _ rfl).1 _ (fun j => .long _)) (fun q => by cases q) (by show ¬ (_ ∨ (arrV _ _ _).slots.size ≤ _); rw [arrV_size]; exact hin) rfl rfl hd (fun H1 e1 e2 e3 => ?_)
    rw [i32_clamp h0 (by omega)] at e1 ⊢
    refine X.goC hk (st_tl (st_tl (st_tl X.hok))) ⟨by rw [e2]; exact X.wd.1, X.wd.2.1, jwf_put X.wd.2.2.1 (fun _ _ => by rw [hq]; exact hx), ?_⟩ (X.S.put e2 e3 (by show E.1 < _; omega))
    rw [jW_set (G := G) (σ := σ) (o := q) g1 g2 rfl rfl (fun u hu => jcell_eq rfl (fun _ => rfl) (fun _ => ju_ne hu))]
    have hget2 := jW_get (E := E) (σ := σ) g1 g2
    refine X.P.set jW_D hget2 ?_ e3
    rw [jcell_l hq]
    show H1[_]? = some (vp_cell _ _)
    rw [e1, vp_cell_l, vp_cell_l, arrV_store]
    congr 2
    funext j
    have := updL_of (f := σ) (q := q) (x := x) h0 j
    unfold vp_updL at this
    unfold updV
    rw [← this]
    split <;> rfl
  · exact h.elim

end SV
