/-! What a frame is to do, and the rows of the stack -/
def jlv (E : jE) (ls : List (Option jV)) : List (Nat × Value) := ls.zipIdx.filterMap (fun q => q.1.map (fun v => (q.2, cv E v)))
theorem jlv_mem {E : jE} {ls : List (Option jV)} {q : Nat × Value} : q ∈ jlv E ls ↔ ∃ (i : Nat) (v : jV), ls[i]? = some (some v) ∧ q = (i, cv E v) := by
  unfold jlv
  rw [List.mem_filterMap]
  constructor
  · rintro ⟨⟨o, i⟩, h1, h2⟩
    rw [List.mem_zipIdx_iff_getElem?] at h1
    cases o with
    | none => simp at h2
    | some v => exact ⟨i, v, by simpa using h1, by simpa using h2.symm⟩
  · rintro ⟨i, v, h1, h2⟩
    exact ⟨(some v, i), by rw [List.mem_zipIdx_iff_getElem?]; simpa using h1, by simp [h2]⟩
theorem lv_has_mono {lc : Array Slot} {n : Nat} {l l' : List (Nat × Value)} (h : lv_has lc n l) (hs : ∀ q ∈ l', q ∈ l) : lv_has lc n l' := ⟨h.1, h.2.1, fun q hq => h.2.2 q (hs q hq)⟩
theorem jlv_get {E : jE} {ls : List (Option jV)} {lc : Array Slot} {n i : Nat} {v : jV} (h : lv_has lc n (jlv E ls)) (hi : ls[i]? = some (some v)) : lc[i]? = some (.val (cv E v)) := h.2.2 (i, cv E v) (jlv_mem.mpr ⟨i, v, hi, rfl⟩)
/-- a method's last instruction -/
def jrins (m : jM) : Instr := match jrk m with
  | 0 => .return_
  | 1 => .ireturn
  | 2 => .lreturn
  | _ => .areturn
def jworld (E : jE) (G : jG) (σ : jH) (H : Heap) : Prop := H.size = E.1 + G.1 + 1 ∧ jgw G ∧ jwf G σ ∧ va_P E.2.1 jcl (jW E G σ) H
def jfx (C : jC) (d mc ms : Nat) (m : jM) (RT : Int → jG → jH → Prop) (p : Program) (e : Env) (R : Room) (s : State) (mi : MethodId) (args : Array Value) (below : List Frame) (meth : Method) (c : Code) (E : jE) (Q : State → Prop) : Prop :=
  p.tables.exec = Jvm.exec ∧ c.code = m.2.1 ∧ c.maxLocals = m.2.2.1 ∧ s.vm.findClass m.1.cls = some mi.cls ∧ (∀ w ∈ jTB, w.before args s = true) ∧ R = jroom d mc ms ∧ jstat E s s.heap ∧ E.1 < s.heap.size ∧
  (m.1.cls = "WordPlacesLaw" → (∀ j : Int, r32 (C.2.1 j)) ∧ (0 ≤ C.2.2 ∧ C.2.2 < 2147483648) ∧ va_X E.2.2.2.2.2 C.2.2.toNat (fun j => Int32.ofInt (C.2.1 j)) s s.heap ∧ E.2.2.2.2.2 ≤ E.1) ∧
  (m.1.name = "<init>" → meth.name = "<init>") ∧
  ∀ (pc : Nat) (lc : Array Slot) (H : Heap) (locs : List Loc) (x : Int) (G : jG) (σ : jH) (cs ss : Nat), cs ≤ mc → ss ≤ ms → RT x G σ → (∀ v ∈ jrv (jrk m) x, jok v) → (m.2.2.2 = some .boolean → x = 0 ∨ x = 1) → jworld E G σ H → va_S (jA E) s.heap H locs → decode m.2.1 pc = .ok (jrins m, 1) →
    W p C.1 e R s mi args below meth c H locs cs ss Q (F0 mi pc lc ((jrv (jrk m) x).map (cv E)))
def jcx (C : jC) (d mc ms : Nat) (m : jM) (RT : Int → jG → jH → Prop) (p : Program) (e : Env) (R : Room) (s : State) (mi : MethodId) (args : Array Value) (below : List Frame) (meth : Method) (c : Code) (E : jE) (Q : State → Prop)
    (ls : List (Option jV)) (st : List jV) (G : jG) (σ : jH) (cs ss : Nat) (H : Heap) (locs : List Loc) (lc : Array Slot) : Prop :=
  jfx C d mc ms m RT p e R s mi args below meth c E Q ∧ (∀ (i : Nat) (v : jV), ls[i]? = some (some v) → jok v) ∧ (∀ v ∈ st, jok v) ∧ ls.length = m.2.2.1 ∧ jworld E G σ H ∧ va_S (jA E) s.heap H locs ∧ lv_has lc m.2.2.1 (jlv E ls) ∧ cs ≤ mc ∧ ss ≤ ms
/-- from here the frame comes to its end as it should -/
def Ev (C : jC) (d mc ms : Nat) (m : jM) (RT : Int → jG → jH → Prop) : jK := fun pc ls st G σ cs ss =>
  ∀ (p : Program) (e : Env) (R : Room) (s : State) (mi : MethodId) (args : Array Value) (below : List Frame) (meth : Method) (c : Code) (E : jE) (Q : State → Prop) (H : Heap) (locs : List Loc) (lc : Array Slot),
    jcx C d mc ms m RT p e R s mi args below meth c E Q ls st G σ cs ss H locs lc → W p C.1 e R s mi args below meth c H locs cs ss Q (F0 mi pc lc (st.map (cv E)))
-- what an entry of a table must have
def jchk : List Nat → List Jvm.Cond → Bool
  | [], [] => true
  | q :: qs, w :: ws => decide ((jtbl (q / 1000))[q % 1000]? = some w) && goodWord w && jchk qs ws
  | _, _ => false
theorem jchk_in : ∀ {qs : List Nat} {ws : List Jvm.Cond}, jchk qs ws = true → ∀ w ∈ ws, w ∈ jTB
  | [], [], _ => by simp
  | q :: qs, w :: ws, h => by
    simp only [jchk, Bool.and_eq_true, decide_eq_true_eq] at h
    intro v hv
    rcases List.mem_cons.mp hv with rfl | hv
    · exact List.mem_filter.mpr ⟨jtbl_in _ _ (List.mem_of_getElem? h.1.1), h.1.2⟩
    · exact jchk_in h.2 v hv
  | [], _ :: _, h => by simp [jchk] at h
  | _ :: _, [], h => by simp [jchk] at h
def jlen : Instr → Nat
  | .bipush _ => 2
  | .sipush _ => 3
  | .ldc _ => 2
  | .ldc_w _ => 3
  | .ldc2_w _ => 3
  | .iload _ => 2
  | .lload _ => 2
  | .aload _ => 2
  | .istore _ => 2
  | .lstore _ => 2
  | .astore _ => 2
  | .iinc _ _ => 3
  | .ifCond _ _ => 3
  | .if_icmp _ _ => 3
  | .goto _ => 3
  | .getfield _ => 3
  | .putfield _ => 3
  | .invokestatic _ => 3
  | .invokevirtual _ => 3
  | .invokespecial _ => 3
  | .new _ => 3
  | .newarray _ => 2
  | .anewarray _ => 3
  | .multianewarray _ _ => 4
  | _ => 1
def jnpar (m : jM) : Option Nat := (parseMethodDescriptor m.1.desc).map (fun d => d.parameters.length)
def jplain (m : jM) : Bool := decide (m.1.cls ≠ "java/lang/invoke/MethodHandle") && decide (m.1.cls ≠ "java/lang/invoke/VarHandle") && decide (m.2.2.1 ≤ 22)
def jfl (own : String) (idx : Nat) (r : vw_C) (k : Nat) : Jvm.Cond := .fieldLink own idx (r.2.1 k).1 (r.2.1 k).2.1 (r.2.1 k).2.2.1
def jcw (m : jM) : Jvm.Cond := .code m.1 m.2.1 m.2.2.1 m.2.2.2
def okI (m : jM) (pc : Nat) (o : jO) : Bool :=
  let a := o.2.2.1; let b := o.2.2.2.1; let w := o.2.2.2.2.1; let z := o.2.2.2.2.2.1; let ps := o.2.2.2.2.2.2.1; let mm := o.2.2.2.2.2.2.2
  match o.1 with
  | .iconst n => decide (-2147483648 ≤ n) && decide (n < 2147483648)
  | .bipush n => decide (-128 ≤ n) && decide (n < 128)
  | .sipush n => decide (-32768 ≤ n) && decide (n < 32768)
  | .lconst n => decide (z = ((n : Nat) : Int))
  | .ldc i => (match w with
    | 0 => decide (-2147483648 ≤ z) && decide (z < 2147483648) && jchk ps [.constant m.1.cls i (Int32.ofInt z)]
    | _ => decide ((m.1.cls, i, a) ∈ jtx))
  | .ldc_w i => (match w with
    | 0 => decide (-2147483648 ≤ z) && decide (z < 2147483648) && jchk ps [.constant m.1.cls i (Int32.ofInt z)]
    | _ => decide ((m.1.cls, i, a) ∈ jtx))
  | .ldc2_w i => decide (-9223372036854775808 ≤ z) && decide (z < 9223372036854775808) && jchk ps [.constantLong m.1.cls i (Int64.ofInt z)]
  | .iload i => decide (i = a)
  | .lload i => decide (i = a)
  | .aload i => decide (i = a)
  | .iload_n i => decide (i.val = a)
  | .lload_n i => decide (i.val = a)
  | .aload_n i => decide (i.val = a)
  | .istore i => decide (i = a) && decide (a < m.2.2.1)
  | .astore i => decide (i = a) && decide (a < m.2.2.1)
  | .istore_n i => decide (i.val = a) && decide (a < m.2.2.1)
  | .astore_n i => decide (i.val = a) && decide (a < m.2.2.1)
  | .lstore i => decide (i = a) && decide (a + 1 < m.2.2.1)
  | .lstore_n i => decide (i.val = a) && decide (a + 1 < m.2.2.1)
  | .iinc i _ => decide (i = a) && decide (a < m.2.2.1)
  | .ifCond _ off => decide ((pc : Int) + off = (b : Int))
  | .if_icmp _ off => decide ((pc : Int) + off = (b : Int))
  | .goto off => decide ((pc : Int) + off = (b : Int))
  | .tableswitch df lo hi9 os => decide (os.size = (hi9 - lo + 1).toNat) && decide (0 ≤ (pc : Int) + df) && os.toList.all (fun x => decide (0 ≤ (pc : Int) + x))
  | .getfield i => (match jcl[a]? with
    | some r => decide (b < r.2.2) && decide (z = (b : Int)) && jchk ps [jfl m.1.cls i r b]
    | none => false)
  | .putfield i => (match jcl[a]? with
    | some r => decide (b < r.2.2) && decide (z = (b : Int)) && jchk ps [jfl m.1.cls i r b] && (match jft a b with
      | 3 => (r.2.1 b).2.2.2 && decide (m.1.name = "<init>") && decide ((r.2.1 b).1 = m.1.cls)
      | _ => !(r.2.1 b).2.2.2)
    | none => false)
  | .arraylength => decide (w = 0) || decide (m.1.cls = "WordPlacesLaw")
  | .iaload => decide (w = 0) || decide (m.1.cls = "WordPlacesLaw")
  | .aaload => decide (w ≤ 2)
  | .aastore => (match jcl[a]? with
    | some r => decide (r.1 = "WordPlaces$Image")
    | none => false)
  | .invokestatic i => (match w with
    | 0 => jplain mm && decide (jnpar mm = some b) && jchk ps [.methodLink m.1.cls i mm.1, .static mm.1, .initialized mm.1.cls, jcw mm]
    | 1 => jchk ps [.methodLink m.1.cls i Lib.Math.min.name, .static Lib.Math.min.name, .initialized "java/lang/Math", .code Lib.Math.min.name Lib.Math.min.code 2 (some .int)]
    | 2 => jchk ps [.methodLink m.1.cls i Lib.Math.max.name, .static Lib.Math.max.name, .initialized "java/lang/Math", .code Lib.Math.max.name Lib.Math.max.code 2 (some .int)]
    | 3 => decide (1 ≤ a) && decide (a ≤ 4) && jchk ps [.methodLink m.1.cls i arraycopyName, .native arraycopyName, .static arraycopyName, .initialized "java/lang/System"]
    | 4 => jplain mm && decide (jnpar mm = some b) && decide ((m.1.cls, i, mm.1, "WordPlaces") ∈ jnests) && jchk ps [.static mm.1, .initialized mm.1.cls, jcw mm]
    | _ => true)
  | .invokevirtual i => (match w with
    | 1 => jplain mm && decide (jnpar mm = some (b - 1)) && decide (1 ≤ b) && decide ((jcl[a]?).map (fun r => r.1) = some mm.1.cls) && jchk ps [.methodLink m.1.cls i mm.1, .instanceMethod mm.1, .selects mm.1.cls mm.1 mm.1, .initialized mm.1.cls, jcw mm]
    | 4 => jplain mm && decide (jnpar mm = some (b - 1)) && decide (1 ≤ b) && decide ((jcl[a]?).map (fun r => r.1) = some mm.1.cls) && decide ((m.1.cls, i, mm.1, "WordPlaces") ∈ jnests) && jchk ps [.instanceMethod mm.1, .selects mm.1.cls mm.1 mm.1, .initialized mm.1.cls, jcw mm]
    | 2 => decide (mm = m_String_length) && jchk ps [.methodLink m.1.cls i mm.1, .instanceMethod mm.1, .selects mm.1.cls mm.1 mm.1, .initialized mm.1.cls, jcw mm]
    | 3 => decide (mm = m_String_charAt) && jchk ps [.methodLink m.1.cls i mm.1, .instanceMethod mm.1, .selects mm.1.cls mm.1 mm.1, .initialized mm.1.cls, jcw mm]
    | _ => true)
  | .invokespecial i => (match w with
    | 0 => jchk ps [.methodLink m.1.cls i objectInit, .instanceMethod objectInit, .code objectInit ⟨#[0xb1]⟩ 1 none]
    | 1 => jplain mm && decide (jnpar mm = some (b - 1)) && decide (1 ≤ b) && decide (mm.1.name = "<init>") && decide (mm.2.2.2 = none) && jchk ps [.methodLink m.1.cls i mm.1, .initialized mm.1.cls, .instanceMethod mm.1, jcw mm]
    | _ => jplain mm && decide (jnpar mm = some (b - 1)) && decide (1 ≤ b) && decide (mm.1.name = "<init>") && decide (mm.2.2.2 = none) && decide ((m.1.cls, i, mm.1, "WordPlaces") ∈ jnests) && jchk ps [.initialized mm.1.cls, .instanceMethod mm.1, jcw mm])
  | .new i => (match jcl[a]? with
    | some r => decide (b = r.2.2) && decide (b < 2147483648) && jchk ps [.classLink m.1.cls i r.1, .instantiable r.1 r.2.2, .initialized r.1]
    | none => false)
  | .newarray t => (match t, w with
    | .int, 1 => true
    | .byte, 2 => true
    | .boolean, 3 => true
    | .long, 4 => true
    | _, _ => false) && jchk ps [.arrayClass (newarray.typeOf t)]
  | .anewarray i => jchk ps [.classLink m.1.cls i "WordPlaces$Image"]
  | .multianewarray i n => decide (n = 2) && (match w with
    | 2 => jchk ps [.classLink m.1.cls i ("[" ++ (FieldType.array .byte).toString), .arrayClass .byte]
    | 3 => jchk ps [.classLink m.1.cls i ("[" ++ (FieldType.array .boolean).toString), .arrayClass .boolean]
    | _ => false)
  | .ireturn => (match w with
    | 0 => decide (m.2.2.2 = some .int)
    | _ => decide (m.2.2.2 = some .boolean))
  | .lreturn => decide (m.2.2.2 = some .long)
  | .areturn => decide (jrk m = 3)
  | .return_ => decide (m.2.2.2 = none)
  | _ => true
def okB (m : jM) (pc : Nat) (o : jO) : Bool := decide (decode m.2.1 pc = .ok (o.1, o.2.1)) && (match o.1 with
  | .tableswitch _ _ _ _ => true
  | _ => decide (o.2.1 = jlen o.1)) && okI m pc o
theorem jcmp_r (x y : Int) : r32 (jcmp x y) := by
  unfold r32 jcmp
  split
  · omega
  · split <;> omega
theorem jcmp_lg {x y : Int} (hx : r64 x) (hy : r64 y) : lg_cmp (Int64.ofInt x) (Int64.ofInt y) = Int32.ofInt (jcmp x y) := by
  unfold lg_cmp jcmp
  simp only [gt_iff_lt, i64_lt hy hx, i64_eq hx hy]
  split
  · rfl
  · split <;> rfl
section RV
variable {C : jC} {d mc ms : Nat} {m : jM} {RT : Int → jG → jH → Prop} {p : Program} {e : Env} {R : Room} {s : State} {mi : MethodId} {args : Array Value} {below : List Frame} {meth : Method} {c : Code} {E : jE} {Q : State → Prop}
variable {ls ls' : List (Option jV)} {st st' : List jV} {G : jG} {σ : jH} {cs ss : Nat} {H : Heap} {locs : List Loc} {lc lc' : Array Slot} {pc : Nat}
theorem jcx.stk (h : jcx C d mc ms m RT p e R s mi args below meth c E Q ls st G σ cs ss H locs lc) (h' : ∀ v ∈ st', jok v) : jcx C d mc ms m RT p e R s mi args below meth c E Q ls st' G σ cs ss H locs lc := by
  obtain ⟨h1, h2, h3, h4⟩ := h
  exact ⟨h1, h2, h', h4⟩
theorem jcx.hok (h : jcx C d mc ms m RT p e R s mi args below meth c E Q ls st G σ cs ss H locs lc) : ∀ v ∈ st, jok v := h.2.2.1
theorem jcx.go (h : jcx C d mc ms m RT p e R s mi args below meth c E Q ls st G σ cs ss H locs lc) (k : Ev C d mc ms m RT pc ls st' G σ cs ss) (h' : ∀ v ∈ st', jok v) : W p C.1 e R s mi args below meth c H locs cs ss Q (F0 mi pc lc (st'.map (cv E))) := k _ _ _ _ _ _ _ _ _ _ _ _ _ _ (h.stk h')
theorem jcx.exec (h : jcx C d mc ms m RT p e R s mi args below meth c E Q ls st G σ cs ss H locs lc) : p.tables.exec = Jvm.exec := h.1.1
theorem jcx.code (h : jcx C d mc ms m RT p e R s mi args below meth c E Q ls st G σ cs ss H locs lc) : c.code = m.2.1 := h.1.2.1
theorem jcx.own (h : jcx C d mc ms m RT p e R s mi args below meth c E Q ls st G σ cs ss H locs lc) : s.vm.findClass m.1.cls = some mi.cls := h.1.2.2.2.1
theorem jcx.hts (h : jcx C d mc ms m RT p e R s mi args below meth c E Q ls st G σ cs ss H locs lc) : ∀ w ∈ jTB, w.before args s = true := h.1.2.2.2.2.1
-- stack rows
theorem st_ok1 {v : jV} {r : List jV} (h1 : jok v) (h2 : ∀ u ∈ r, jok u) : ∀ u ∈ v :: r, jok u := fun u hu => by
  rcases List.mem_cons.mp hu with rfl | hu
  · exact h1
  · exact h2 u hu
theorem st_tl {v : jV} {r : List jV} (h : ∀ u ∈ v :: r, jok u) : ∀ u ∈ r, jok u := fun u hu => h u (List.mem_cons_of_mem _ hu)
theorem st_hd {v : jV} {r : List jV} (h : ∀ u ∈ v :: r, jok u) : jok v := h v List.mem_cons_self
end RV
