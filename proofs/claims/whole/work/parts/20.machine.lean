/-! A small machine: bytecode over numbers. A value: an int, a long, a cell (0: none), a text constant, the script. -/
abbrev jV : Type := Int ⊕ Int ⊕ Int ⊕ Nat ⊕ Unit
abbrev vI (x : Int) : jV := .inl x
abbrev vL (x : Int) : jV := .inr (.inl x)
abbrev vR (x : Int) : jV := .inr (.inr (.inl x))
abbrev vT (j : Nat) : jV := .inr (.inr (.inr (.inl j)))
abbrev vS : jV := .inr (.inr (.inr (.inr ())))
/-- how many cells; of each its kind (1 ints, 2 bytes, 3 booleans, 4 longs, 5 .. cells, 8 + k an object) and how many places; its cells that stay -/
abbrev jG : Type := Nat × (Int → Nat × Int) × (Int → Int → Int)
abbrev jH : Type := Int → Int → Int
/-- an instruction: it, its length, two numbers, a way, a target or number, a whole number, places of words, a method -/
abbrev jO : Type := Instr × Nat × Nat × Nat × Nat × Int × List Nat × jM
abbrev jK : Type := Nat → List (Option jV) → List jV → jG → jH → Nat → Nat → Prop
abbrev jC : Type := Launch × (Int → Int) × Int
/-- where a world lies: its first cell, the classes, the classes of arrays, the texts and their rows, the script -/
abbrev jE : Type := Nat × va_G × (Nat → ClassId) × (Nat → Nat) × (Nat → Nat) × Nat
def ju (f : Int → Int → Int) (a i v : Int) : Int → Int → Int := fun b j => if b = a ∧ j = i then v else f b j
def jcpy (f : jH) (a sp b dp n : Int) : jH := fun c j => if c = b ∧ dp ≤ j ∧ j < dp + n then f a (sp + (j - dp)) else f c j
def jclr : List (Option jV) → Nat → List (Option jV)
  | ls, 0 => ls
  | ls, i + 1 => match ls[i]? with
    | some (some (.inr (.inl _))) => ls.set i none
    | _ => ls
def jset (ls : List (Option jV)) (i : Nat) (v : jV) : List (Option jV) := (jclr ls i).set i (some v)
def jset2 (ls : List (Option jV)) (i : Nat) (v : jV) : List (Option jV) := ((jclr ls i).set i (some v)).set (i + 1) none
def jcat (v : jV) : Nat := match v with
  | .inr (.inl _) => 2
  | _ => 1
def jsw (st : List jV) : Nat := (st.map jcat).sum
-- bits, by the machine's own words
def jshl32 (x s : Int) : Int := (Int32.ofInt x <<< (Int32.ofInt s &&& 31)).toInt
def jshr32 (x s : Int) : Int := (Int32.ofInt x >>> (Int32.ofInt s &&& 31)).toInt
def jushr32 (x s : Int) : Int := (((Int32.ofInt x).toUInt32 >>> ((Int32.ofInt s).toUInt32 &&& Int32.toUInt32 31)).toInt32).toInt
def jshl64 (x s : Int) : Int := (Int64.ofInt x <<< ((Int32.ofInt s).toInt64 &&& 63)).toInt
def jshr64 (x s : Int) : Int := (Int64.ofInt x >>> ((Int32.ofInt s).toInt64 &&& 63)).toInt
def jand32 (x y : Int) : Int := (Int32.ofInt x &&& Int32.ofInt y).toInt
def jor32 (x y : Int) : Int := (Int32.ofInt x ||| Int32.ofInt y).toInt
def jand64 (x y : Int) : Int := (Int64.ofInt x &&& Int64.ofInt y).toInt
def jor64 (x y : Int) : Int := (Int64.ofInt x ||| Int64.ofInt y).toInt
def jxor64 (x y : Int) : Int := (Int64.ofInt x ^^^ Int64.ofInt y).toInt
def jcmp (x y : Int) : Int := if y < x then 1 else if x = y then 0 else -1
/-- a field's value by its tag -/
def jfv (t : Nat) (x y : Int) : jV := match t with
  | 1 => vL x
  | 2 => vR x
  | 3 => vR y
  | _ => vI x
-- where the cells are
def jrf (B : Nat) (x : Int) : Option Nat := if x ≤ 0 then none else some (B + x.toNat)
def cv (E : jE) : jV → Value
  | .inl x => .int (Int32.ofInt x)
  | .inr (.inl x) => .long (Int64.ofInt x)
  | .inr (.inr (.inl x)) => va_rf (jrf E.1 x)
  | .inr (.inr (.inr (.inl j))) => .ref (E.2.2.2.1 j)
  | .inr (.inr (.inr (.inr _))) => .ref E.2.2.2.2.2
def jcell (E : jE) (G : jG) (σ : jH) (o : Int) : va_E := match (G.2.1 o).1 with
  | 0 => .inr (0, [])
  | 1 => .inl (E.2.2.1 1, (G.2.1 o).2.toNat, .inl (fun j => Int32.ofInt (σ o (j : Int))))
  | 2 => .inl (E.2.2.1 2, (G.2.1 o).2.toNat, .inl (fun j => Int32.ofInt (σ o (j : Int))))
  | 3 => .inl (E.2.2.1 3, (G.2.1 o).2.toNat, .inl (fun j => Int32.ofInt (σ o (j : Int))))
  | 4 => .inl (E.2.2.1 4, (G.2.1 o).2.toNat, .inr (.inl (fun j => Int64.ofInt (σ o (j : Int)))))
  | 5 => .inl (E.2.2.1 5, (G.2.1 o).2.toNat, .inr (.inr (.inr (.inr (fun j => jrf E.1 (G.2.2 o (j : Int)))))))
  | 6 => .inl (E.2.2.1 6, (G.2.1 o).2.toNat, .inr (.inr (.inr (.inr (fun j => jrf E.1 (G.2.2 o (j : Int)))))))
  | 7 => .inl (E.2.2.1 7, (G.2.1 o).2.toNat, .inr (.inr (.inr (.inr (fun j => jrf E.1 (G.2.2 o (j : Int)))))))
  | ci + 8 => .inr (ci, (List.range (G.2.1 o).2.toNat).map (fun k => cv E (jfv (jft ci k) (σ o (k : Int)) (G.2.2 o (k : Int)))))
def jW (E : jE) (G : jG) (σ : jH) : va_W := (List.range G.1).map (fun i => (E.1 + (i + 1), jcell E G σ (((i + 1 : Nat)) : Int)))
/-- what is in reach of a value's kind -/
def jok (v : jV) : Prop := match v with
  | .inl x => r32 x
  | .inr (.inl x) => r64 x
  | _ => True
def jokt (t : Nat) (x : Int) : Prop := match t with
  | 1 => r64 x
  | 2 => True
  | 3 => True
  | 4 => 0 ≤ x ∧ x ≤ 1
  | _ => r32 x
def jgw (G : jG) : Prop := ∀ o : Int, (G.2.1 o).1 ≠ 0 → 1 ≤ o ∧ o ≤ G.1 ∧ 0 ≤ (G.2.1 o).2 ∧ (G.2.1 o).2 < 2147483648 ∧ ∀ ci, (G.2.1 o).1 = ci + 8 → ∃ r : vw_C, jcl[ci]? = some r ∧ (G.2.1 o).2 = (r.2.2 : Int)
def jwf (G : jG) (σ : jH) : Prop := ∀ (o : Int) (i : Nat), (i : Int) < (G.2.1 o).2 → match (G.2.1 o).1 with
  | 1 => r32 (σ o i)
  | 2 => -128 ≤ σ o i ∧ σ o i < 128
  | 3 => 0 ≤ σ o i ∧ σ o i ≤ 1
  | 4 => r64 (σ o i)
  | ci + 8 => jokt (jft ci i) (σ o i)
  | _ => True
def jtys (cA : Nat → ClassId) : List (ClassId × FieldType) := [(cA 1, .int), (cA 2, .byte), (cA 3, .boolean), (cA 4, .long), (cA 5, .object "WordPlaces$Image"), (cA 6, .array .byte), (cA 7, .array .boolean)]
def jTB : List Jvm.Cond := lw_tbl.filter goodWord
def jws (m : jM) : List Jvm.Cond := .code m.1 m.2.1 m.2.2.1 m.2.2.2 :: jTB
def jroom (d mc ms : Nat) : Room := { frames := d, cells := mc, slots := ms, locals := 41 * d + 32 }
def jA (E : jE) : Nat → Prop := fun q => E.1 < q
/-- what stays of a state all along: classes, texts, the script -/
def jAOA (ty : FieldType) (U : State) : Prop := (Cond.arrayOver (.array ty)).before #[] U = true
def jstat (E : jE) (U : State) (H : Heap) : Prop := va_K E.2.1 jcl (jtys E.2.2.1) U ∧ (va_AO "WordPlaces$Image" U ∧ jAOA .byte U ∧ jAOA .boolean U) ∧
  (∀ q ∈ jtx, vk_R q.1 q.2.1 (jtex q.2.2) (E.2.2.2.1 q.2.2) U) ∧ vk_S jtxs.length (jtxs.map List.length) (jtxs.map (fun l => l.map (fun c => Int32.ofNat c))) E.2.2.2.1 E.2.2.2.2.1 (jA E) U H ∧
  va_Z "java/lang/String" "COMPACT_STRINGS" "Z" (.int 1) (jA E) U H ∧ va_Zq "jdk/internal/util/Preconditions" "SIOOBE_FORMATTER" "Ljava/util/function/BiFunction;" (jA E) U H ∧ ∀ q ∈ jnests, va_Nw (.methodLinkNest q.1 q.2.1 q.2.2.1 q.2.2.2) U
/-- a world in a state -/
def jat (E : jE) (G : jG) (σ : jH) (U : State) : Prop := jstat E U U.heap ∧ U.heap.size = E.1 + G.1 + 1 ∧ jgw G ∧ jwf G σ ∧ va_P E.2.1 jcl (jW E G σ) U.heap
/-- a method's answer by its kind: 0 none, 1 an int, 2 a long, 3 a cell -/
def jrv (t : Nat) (x : Int) : List jV := match t with
  | 0 => []
  | 1 => [vI x]
  | 2 => [vL x]
  | _ => [vR x]
def jrk (m : jM) : Nat := match m.2.2.2 with
  | none => 0
  | some .long => 2
  | some (.object _) => 3
  | some (.array _) => 3
  | some _ => 1
/-- A CALL: from any world that is so the method comes back, and Post holds of its answer and the world behind it -/
def CallG (l : Launch) (d mc ms : Nat) (m : jM) (as : List jV) (G : jG) (σ : jH) (Post : Int → jG → jH → Prop) : Prop :=
  (∀ v ∈ as, jok v) → ∀ E : jE, Met l m.1 (jws m) (jroom d mc ms) (va_Pc (as.map (cv E)) (fun U => jat E G σ U))
    (fun _ st oc t => (∃ (x : Int) (G' : jG) (σ' : jH), oc = .returned ((jrv (jrk m) x).map (cv E)).head? ∧ (∀ v ∈ jrv (jrk m) x, jok v) ∧ Post x G' σ' ∧ jat E G' σ' t) ∧ va_F (jA E) st t) mc ms (jA E)
/-- a call that makes no cells -/
def CallN (l : Launch) (d : Nat) (m : jM) (as : List jV) (G : jG) (σ : jH) (Post : Int → jH → Prop) : Prop :=
  CallG l d 0 0 m as G σ (fun x G' σ' => G' = G ∧ Post x σ')
/-- jumps of a table -/
def jtab (pc : Nat) (x : Int) (kk : Nat → Prop) : Int → List Int → Prop
  | _, [] => True
  | lo, o :: os => (x = lo → kk ((pc : Int) + o).toNat) ∧ jtab pc x kk (lo + 1) os
