/-! All steps; a frame's walk; a method's contract out of its walk -/
section SV
variable {C : jC} {d mc ms : Nat} {m : jM} {RT : Int → jG → jH → Prop} {ls : List (Option jV)} {st : List jV} {G : jG} {σ : jH} {cs ss : Nat} {pc : Nat}
theorem jstep_sound (o : jO) (ho : okB m pc o = true) (h : jstep C d mc ms RT (Ev C d mc ms m RT) o pc ls st G σ cs ss) : Ev C d mc ms m RT pc ls st G σ cs ss := by
  obtain ⟨ins, len, a, b, w, z, ps, mm⟩ := o
  cases ins with
  | iconst n => exact s_iconst ho h
  | bipush n => exact s_bipush ho h
  | sipush n => exact s_sipush ho h
  | lconst n => exact s_lconst ho h
  | ldc i => exact s_ldc ho h
  | ldc_w i => exact s_ldc_w ho h
  | ldc2_w i => exact s_ldc2 ho h
  | iload i => exact s_iload ho h
  | iload_n i => exact s_iload_n ho h
  | lload i => exact s_lload ho h
  | lload_n i => exact s_lload_n ho h
  | aload i => exact s_aload ho h
  | aload_n i => exact s_aload_n ho h
  | istore i => exact s_istore ho h
  | istore_n i => exact s_istore_n ho h
  | lstore i => exact s_lstore ho h
  | lstore_n i => exact s_lstore_n ho h
  | astore i => exact s_astore ho h
  | astore_n i => exact s_astore_n ho h
  | iinc i n => exact s_iinc ho h
  | iadd => exact s_iadd ho h
  | isub => exact s_isub ho h
  | imul => exact s_imul ho h
  | idiv => exact s_idiv ho h
  | irem => exact s_irem ho h
  | iand => exact s_iand ho h
  | ior => exact s_ior ho h
  | ishl => exact s_ishl ho h
  | ishr => exact s_ishr ho h
  | iushr => exact s_iushr ho h
  | ladd => exact s_ladd ho h
  | lsub => exact s_lsub ho h
  | land => exact s_land ho h
  | lor => exact s_lor ho h
  | lxor => exact s_lxor ho h
  | lshl => exact s_lshl ho h
  | lshr => exact s_lshr ho h
  | lcmp => exact s_lcmp ho h
  | i2l => exact s_i2l ho h
  | l2i => exact s_l2i ho h
  | i2b => exact s_i2b ho h
  | i2s => exact s_i2s ho h
  | dup => exact s_dup ho h
  | dup2 => exact s_dup2 ho h
  | ifCond c n => exact s_ifCond ho h
  | if_icmp c n => exact s_if_icmp ho h
  | goto n => exact s_goto ho h
  | tableswitch a b c d => exact s_tableswitch ho h
  | getfield i => exact s_getfield ho h
  | putfield i => exact s_putfield ho h
  | arraylength => exact s_arraylength ho h
  | iaload => exact s_iaload ho h
  | baload => exact s_baload ho h
  | laload => exact s_laload ho h
  | aaload => exact s_aaload ho h
  | iastore => exact s_iastore ho h
  | bastore => exact s_bastore ho h
  | lastore => exact s_lastore ho h
  | aastore => exact s_aastore ho h
  | invokespecial i => exact s_invokespecial ho h
  | new i => exact s_new ho h
  | newarray t => exact s_newarray ho h
  | anewarray i => exact s_anewarray ho h
  | multianewarray i k => exact s_multianewarray ho h
  | ireturn => exact s_ireturn ho h
  | lreturn => exact s_lreturn ho h
  | areturn => exact s_areturn ho h
  | return_ => exact s_return_ ho h
  | invokestatic i =>
    by_cases h1 : w = 0 ∨ w = 4
    · exact s_invokestatic h1 ho h
    · by_cases h2 : 1 ≤ w ∧ w ≤ 3
      · exact s_invokestatic0 h2 ho h
      · exfalso
        simp only [jstep] at h
        split at h <;> omega
  | invokevirtual i =>
    by_cases h1 : w = 1 ∨ w = 4
    · exact s_invokevirtual h1 ho h
    · by_cases h2 : w = 2 ∨ w = 3
      · exact s_text h2 ho h
      · exfalso
        simp only [jstep] at h
        split at h <;> omega
  | _ => exact h.elim
theorem jmask_get : ∀ {bs : List Bool} {ls : List (Option jV)} {i : Nat} {v : jV}, (jmask bs ls)[i]? = some (some v) → ls[i]? = some (some v)
  | [], _, _, _, h => h
  | true :: _, [], _, _, h => h
  | false :: _, [], _, _, h => h
  | true :: bs, l :: ls, 0, _, h => h
  | true :: bs, l :: ls, i + 1, v, h => by
    rw [List.getElem?_cons_succ]
    exact jmask_get (bs := bs) h
  | false :: bs, l :: ls, 0, _, h => by simp [jmask] at h
  | false :: bs, l :: ls, i + 1, v, h => by
    rw [List.getElem?_cons_succ]
    exact jmask_get (bs := bs) h
theorem jmask_len : ∀ {bs : List Bool} {ls : List (Option jV)}, (jmask bs ls).length = ls.length
  | [], _ => rfl
  | true :: _, [] => rfl
  | false :: _, [] => rfl
  | true :: bs, l :: ls => by simp [jmask, jmask_len (bs := bs) (ls := ls)]
  | false :: bs, l :: ls => by simp [jmask, jmask_len (bs := bs) (ls := ls)]
theorem Ev_mask {bs : List Bool} (h : Ev C d mc ms m RT pc (jmask bs ls) st G σ cs ss) : Ev C d mc ms m RT pc ls st G σ cs ss := by
  intro p e R s mi args below meth c E Q H locs lc X
  refine h p e R s mi args below meth c E Q H locs lc ⟨X.1, fun i v hi => X.2.1 i v (jmask_get hi), X.2.2.1, jmask_len.trans X.2.2.2.1, X.2.2.2.2.1, X.2.2.2.2.2.1, lv_has_mono X.hl (fun q hq => ?_), X.2.2.2.2.2.2.2⟩
  obtain ⟨i, v, h1, rfl⟩ := jlv_mem.mp hq
  exact jlv_mem.mpr ⟨i, v, jmask_get h1, rfl⟩
/-- no instruction -/
def j0m : jM := (⟨"", "", ""⟩, ⟨#[]⟩, 0, none)
def j0 : jO := (.nop, 0, 0, 0, 0, 0, [], j0m)
def jisop (o : jO) : Bool := match o.1 with
  | .nop => false
  | _ => true
/-- a table holds what its method's bytes say -/
def okT (m : jM) (rc : List jO) : Bool := rc.zipIdx.all (fun q => !jisop q.1 || okB m q.2 q.1)
theorem okT_at {rc : List jO} (h : okT m rc = true) {o : jO} (ho : rc.getD pc j0 = o) : jisop o = false ∨ okB m pc o = true := by
  subst ho
  rw [List.getD_eq_getElem?_getD]
  cases hc : rc[pc]? with
  | none => exact Or.inl rfl
  | some o =>
    have := List.all_eq_true.mp h (o, pc) (by rw [List.mem_zipIdx_iff_getElem?]; simpa using hc)
    simp only [Bool.or_eq_true, Bool.not_eq_true'] at this
    exact this
theorem jwp_sound {rc : List jO} (hT : okT m rc = true) {cut : List (Nat × List Bool)} : ∀ (n : Nat) {pc : Nat} {ls : List (Option jV)} {st : List jV} {G : jG} {σ : jH} {cs ss : Nat}, jwp C d mc ms RT rc j0 cut (Ev C d mc ms m RT) n pc ls st G σ cs ss → Ev C d mc ms m RT pc ls st G σ cs ss
  | 0, _, _, _, _, _, _, _, h => h
  | n + 1, pc, ls, st, G, σ, cs, ss, h => by
    have hk : ∀ (pc' : Nat) (ls' : List (Option jV)) (st' : List jV) (G' : jG) (σ' : jH) (cs' ss' : Nat), (match jlook cut pc' with
        | some bs => Ev C d mc ms m RT pc' (jmask bs ls') st' G' σ' cs' ss'
        | none => jwp C d mc ms RT rc j0 cut (Ev C d mc ms m RT) n pc' ls' st' G' σ' cs' ss') → Ev C d mc ms m RT pc' ls' st' G' σ' cs' ss' := by
      intro pc' ls' st' G' σ' cs' ss' h'
      split at h'
      · exact Ev_mask h'
      · exact jwp_sound hT n h'
    generalize ho : rc.getD pc j0 = o
    have h2 : jstep C d mc ms RT (Ev C d mc ms m RT) o pc ls st G σ cs ss := by
      rw [← ho]
      exact jstep_mono hk h
    rcases okT_at hT ho with h3 | h3
    · obtain ⟨ins, o⟩ := o
      exfalso
      cases ins <;> first | exact h2 | cases h3
    · exact jstep_sound o h3 h2
/-- the entry's locals -/
def jargs0 : List jV → List (Option jV)
  | [] => []
  | .inr (.inl x) :: vs => some (vL x) :: none :: jargs0 vs
  | v :: vs => some v :: jargs0 vs
def jargs (n : Nat) (as : List jV) : List (Option jV) := jargs0 as ++ List.replicate (n - (jargs0 as).length) none
end SV
