/-! One step of the small machine, from behind: what must hold ahead of an instruction, so that k holds behind it -/
def jbin (st : List jV) (f : Int → Int → Int) (kk : List jV → Prop) : Prop := match st with
  | .inl y :: .inl x :: r => kk (vI (f x y) :: r)
  | _ => False
def jbinL (st : List jV) (f : Int → Int → Int) (kk : List jV → Prop) : Prop := match st with
  | .inr (.inl y) :: .inr (.inl x) :: r => kk (vL (f x y) :: r)
  | _ => False
def jsh (st : List jV) (f : Int → Int → Int) (kk : List jV → Prop) : Prop := match st with
  | .inl y :: .inr (.inl x) :: r => kk (vL (f x y) :: r)
  | _ => False
def jun (st : List jV) (f : Int → Int) (kk : List jV → Prop) : Prop := match st with
  | .inl x :: r => kk (vI (f x) :: r)
  | _ => False
def jcond (c : Jvm.ClassFile.Cond) (x y : Int) (kt kf : Prop) : Prop := match c with
  | .eq => (x = y → kt) ∧ (x ≠ y → kf)
  | .ne => (x ≠ y → kt) ∧ (x = y → kf)
  | .lt => (x < y → kt) ∧ (y ≤ x → kf)
  | .ge => (y ≤ x → kt) ∧ (x < y → kf)
  | .gt => (y < x → kt) ∧ (x ≤ y → kf)
  | .le => (x ≤ y → kt) ∧ (y < x → kf)
def jget (ls : List (Option jV)) (i : Nat) (t : Nat) (kk : jV → Prop) : Prop := match ls[i]? with
  | some (some v) => (match t, v with
    | 0, .inl x => kk (vI x)
    | 1, .inr (.inl x) => kk (vL x)
    | 2, .inr (.inr (.inl x)) => kk (vR x)
    | 2, .inr (.inr (.inr (.inl x))) => kk (vT x)
    | 2, .inr (.inr (.inr (.inr _))) => kk vS
    | _, _ => False)
  | _ => False
def jput (ls : List (Option jV)) (i : Nat) (t : Nat) (st : List jV) (kk : List (Option jV) → List jV → Prop) : Prop := match t, st with
  | 0, .inl x :: r => kk (jset ls i (vI x)) r
  | 1, .inr (.inl x) :: r => kk (jset2 ls i (vL x)) r
  | 2, .inr (.inr (.inl x)) :: r => kk (jset ls i (vR x)) r
  | 2, .inr (.inr (.inr (.inl x))) :: r => kk (jset ls i (vT x)) r
  | _, _ => False
/-- a place of an array -/
def jin (G : jG) (a i : Int) (kind : Nat) (kk : Prop) : Prop := (G.2.1 a).1 = kind ∧ 0 ≤ i ∧ i < (G.2.1 a).2 ∧ kk
def jldk (st : List jV) (G : jG) (kind : Nat) (kk : Int → Int → List jV → Prop) : Prop := match st with
  | .inl i :: .inr (.inr (.inl a)) :: r => jin G a i kind (kk a i r)
  | _ => False
def jstk (st : List jV) (G : jG) (kind : Nat) (kk : Int → Int → Int → List jV → Prop) : Prop := match st with
  | .inl x :: .inl i :: .inr (.inr (.inl a)) :: r => jin G a i kind (kk a i x r)
  | _ => False
def jrecv (v : Option jV) (f : Int → Prop) : Prop := match v with
  | some (.inr (.inr (.inl o))) => f o
  | _ => False
/-- a call of a static method -/
def jcallS (C : jC) (d : Nat) (m : jM) (n : Nat) (st : List jV) (G : jG) (σ : jH) (kk : List jV → jH → Prop) : Prop :=
  match Nat.ble (jsw (st.drop n)) 8 && Nat.ble n st.length with
  | true => ∃ (d' : Nat) (Post : Int → jH → Prop), d' < d ∧ CallN C.1 d' m (st.take n).reverse G σ Post ∧ ∀ x σ', Post x σ' → kk (jrv (jrk m) x ++ st.drop n) σ'
  | false => False
/-- a call of an object's method -/
def jcallV (C : jC) (d : Nat) (m : jM) (n ci : Nat) (st : List jV) (G : jG) (σ : jH) (kk : List jV → jH → Prop) : Prop :=
  match Nat.ble (jsw (st.drop n)) 8 && Nat.ble n st.length with
  | true => jrecv (st.drop (n - 1)).head? (fun o => (G.2.1 o).1 = ci + 8 ∧ ∃ (d' : Nat) (Post : Int → jH → Prop), d' < d ∧ CallN C.1 d' m (st.take n).reverse G σ Post ∧ ∀ x σ', Post x σ' → kk (jrv (jrk m) x ++ st.drop n) σ')
  | false => False
/-- a constructor's call: it makes m1 cells of m2 places -/
def jctor (C : jC) (d mc ms : Nat) (m : jM) (n m1 m2 : Nat) (st : List jV) (G : jG) (σ : jH) (cs ss : Nat) (kk : List jV → jG → jH → Prop) : Prop :=
  match Nat.ble (jsw (st.drop n)) 8 && Nat.ble n st.length with
  | true => jrecv (st.drop (n - 1)).head? (fun o => 0 < o ∧ ∃ (d' : Nat) (Post : jG → jH → Prop), d' < d ∧ CallG C.1 d' m1 m2 m (st.take n).reverse G σ (fun _ => Post) ∧ cs + m1 ≤ mc ∧ ss + m2 ≤ ms ∧ ∀ G' σ', Post G' σ' → kk (st.drop n) G' σ')
  | false => False
/-- a new cell -/
def jnewG (G : jG) (kind : Nat) (n : Int) : jG := (G.1 + 1, fun o => if o = ((G.1 + 1 : Nat) : Int) then (kind, n) else G.2.1 o, fun o j => if o = ((G.1 + 1 : Nat) : Int) then 0 else G.2.2 o j)
def jnewH (G : jG) (σ : jH) : jH := fun o j => if o = ((G.1 + 1 : Nat) : Int) then 0 else σ o j
/-- rows of a new grid of n rows of k places -/
def jgridG (G : jG) (kind kind2 : Nat) (n k : Int) : jG := (G.1 + 1 + n.toNat, fun o => if o = ((G.1 + 1 : Nat) : Int) then (kind, n) else if ((G.1 + 1 : Nat) : Int) < o ∧ o ≤ ((G.1 + 1 : Nat) : Int) + n then (kind2, k) else G.2.1 o,
  fun o j => if o = ((G.1 + 1 : Nat) : Int) then ((G.1 + 1 : Nat) : Int) + 1 + j else if ((G.1 + 1 : Nat) : Int) < o ∧ o ≤ ((G.1 + 1 : Nat) : Int) + n then 0 else G.2.2 o j)
def jgridH (G : jG) (σ : jH) (n : Int) : jH := fun o j => if ((G.1 + 1 : Nat) : Int) ≤ o ∧ o ≤ ((G.1 + 1 : Nat) : Int) + n then 0 else σ o j
def jstep (C : jC) (d mc ms : Nat) (RT : Int → jG → jH → Prop) (k : jK) (o : jO) : jK := fun pc ls st G σ cs ss =>
  let a := o.2.2.1; let b := o.2.2.2.1; let w := o.2.2.2.2.1; let z := o.2.2.2.2.2.1; let m := o.2.2.2.2.2.2.2
  match o.1 with
  | .iconst n => k (pc + 1) ls (vI n :: st) G σ cs ss
  | .bipush n => k (pc + 2) ls (vI n :: st) G σ cs ss
  | .sipush n => k (pc + 3) ls (vI n :: st) G σ cs ss
  | .lconst _ => k (pc + 1) ls (vL z :: st) G σ cs ss
  | .ldc _ => (match w with
    | 0 => k (pc + 2) ls (vI z :: st) G σ cs ss
    | _ => k (pc + 2) ls (vT a :: st) G σ cs ss)
  | .ldc_w _ => (match w with
    | 0 => k (pc + 3) ls (vI z :: st) G σ cs ss
    | _ => k (pc + 3) ls (vT a :: st) G σ cs ss)
  | .ldc2_w _ => k (pc + 3) ls (vL z :: st) G σ cs ss
  | .iload _ => jget ls a 0 (fun v => k (pc + 2) ls (v :: st) G σ cs ss)
  | .iload_n _ => jget ls a 0 (fun v => k (pc + 1) ls (v :: st) G σ cs ss)
  | .lload _ => jget ls a 1 (fun v => k (pc + 2) ls (v :: st) G σ cs ss)
  | .lload_n _ => jget ls a 1 (fun v => k (pc + 1) ls (v :: st) G σ cs ss)
  | .aload _ => jget ls a 2 (fun v => k (pc + 2) ls (v :: st) G σ cs ss)
  | .aload_n _ => jget ls a 2 (fun v => k (pc + 1) ls (v :: st) G σ cs ss)
  | .istore _ => jput ls a 0 st (fun ls' r => k (pc + 2) ls' r G σ cs ss)
  | .istore_n _ => jput ls a 0 st (fun ls' r => k (pc + 1) ls' r G σ cs ss)
  | .lstore _ => jput ls a 1 st (fun ls' r => k (pc + 2) ls' r G σ cs ss)
  | .lstore_n _ => jput ls a 1 st (fun ls' r => k (pc + 1) ls' r G σ cs ss)
  | .astore _ => jput ls a 2 st (fun ls' r => k (pc + 2) ls' r G σ cs ss)
  | .astore_n _ => jput ls a 2 st (fun ls' r => k (pc + 1) ls' r G σ cs ss)
  | .iinc _ n => jget ls a 0 (fun v => match v with
    | .inl x => k (pc + 3) (jset ls a (vI (w32 (x + n)))) st G σ cs ss
    | _ => False)
  | .iadd => jbin st (fun x y => w32 (x + y)) (fun r => k (pc + 1) ls r G σ cs ss)
  | .isub => jbin st (fun x y => w32 (x - y)) (fun r => k (pc + 1) ls r G σ cs ss)
  | .imul => jbin st (fun x y => w32 (x * y)) (fun r => k (pc + 1) ls r G σ cs ss)
  | .idiv => (match st with
    | .inl y :: .inl x :: r => y ≠ 0 ∧ k (pc + 1) ls (vI (w32 (x.tdiv y)) :: r) G σ cs ss
    | _ => False)
  | .irem => (match st with
    | .inl y :: .inl x :: r => y ≠ 0 ∧ k (pc + 1) ls (vI (x.tmod y) :: r) G σ cs ss
    | _ => False)
  | .iand => jbin st jand32 (fun r => k (pc + 1) ls r G σ cs ss)
  | .ior => jbin st jor32 (fun r => k (pc + 1) ls r G σ cs ss)
  | .ishl => jbin st jshl32 (fun r => k (pc + 1) ls r G σ cs ss)
  | .ishr => jbin st jshr32 (fun r => k (pc + 1) ls r G σ cs ss)
  | .iushr => jbin st jushr32 (fun r => k (pc + 1) ls r G σ cs ss)
  | .ladd => jbinL st (fun x y => w64 (x + y)) (fun r => k (pc + 1) ls r G σ cs ss)
  | .lsub => jbinL st (fun x y => w64 (x - y)) (fun r => k (pc + 1) ls r G σ cs ss)
  | .land => jbinL st jand64 (fun r => k (pc + 1) ls r G σ cs ss)
  | .lor => jbinL st jor64 (fun r => k (pc + 1) ls r G σ cs ss)
  | .lxor => jbinL st jxor64 (fun r => k (pc + 1) ls r G σ cs ss)
  | .lshl => jsh st jshl64 (fun r => k (pc + 1) ls r G σ cs ss)
  | .lshr => jsh st jshr64 (fun r => k (pc + 1) ls r G σ cs ss)
  | .lcmp => (match st with
    | .inr (.inl y) :: .inr (.inl x) :: r => k (pc + 1) ls (vI (jcmp x y) :: r) G σ cs ss
    | _ => False)
  | .i2l => (match st with
    | .inl x :: r => k (pc + 1) ls (vL x :: r) G σ cs ss
    | _ => False)
  | .l2i => (match st with
    | .inr (.inl x) :: r => k (pc + 1) ls (vI (w32 x) :: r) G σ cs ss
    | _ => False)
  | .i2b => jun st w8 (fun r => k (pc + 1) ls r G σ cs ss)
  | .i2s => jun st w16 (fun r => k (pc + 1) ls r G σ cs ss)
  | .dup => (match st with
    | .inl x :: r => k (pc + 1) ls (vI x :: vI x :: r) G σ cs ss
    | .inr (.inr x) :: r => k (pc + 1) ls (.inr (.inr x) :: .inr (.inr x) :: r) G σ cs ss
    | _ => False)
  | .dup2 => (match st with
    | .inl y :: .inr (.inr x) :: r => k (pc + 1) ls (.inl y :: .inr (.inr x) :: .inl y :: .inr (.inr x) :: r) G σ cs ss
    | _ => False)
  | .ifCond c _ => (match st with
    | .inl x :: r => jcond c x 0 (k b ls r G σ cs ss) (k (pc + 3) ls r G σ cs ss)
    | _ => False)
  | .if_icmp c _ => (match st with
    | .inl y :: .inl x :: r => jcond c x y (k b ls r G σ cs ss) (k (pc + 3) ls r G σ cs ss)
    | _ => False)
  | .goto _ => k b ls st G σ cs ss
  | .tableswitch df lo hi os => (match st with
    | .inl x :: r => ((x < lo ∨ hi < x) → k ((pc : Int) + df).toNat ls r G σ cs ss) ∧ jtab pc x (fun q => k q ls r G σ cs ss) lo os.toList
    | _ => False)
  | .getfield _ => (match st with
    | .inr (.inr (.inl q)) :: r => (G.2.1 q).1 = a + 8 ∧ k (pc + 3) ls (jfv (jft a b) (σ q z) (G.2.2 q z) :: r) G σ cs ss
    | _ => False)
  | .putfield _ => (match jft a b, st with
    | 0, .inl x :: .inr (.inr (.inl q)) :: r => (G.2.1 q).1 = a + 8 ∧ k (pc + 3) ls r G (ju σ q z x) cs ss
    | 4, .inl x :: .inr (.inr (.inl q)) :: r => (G.2.1 q).1 = a + 8 ∧ (x = 0 ∨ x = 1) ∧ k (pc + 3) ls r G (ju σ q z x) cs ss
    | 1, .inr (.inl x) :: .inr (.inr (.inl q)) :: r => (G.2.1 q).1 = a + 8 ∧ k (pc + 3) ls r G (ju σ q z x) cs ss
    | 2, .inr (.inr (.inl x)) :: .inr (.inr (.inl q)) :: r => (G.2.1 q).1 = a + 8 ∧ k (pc + 3) ls r G (ju σ q z x) cs ss
    | 3, .inr (.inr (.inl x)) :: .inr (.inr (.inl q)) :: r => (G.2.1 q).1 = a + 8 ∧ k (pc + 3) ls r (G.1, G.2.1, ju G.2.2 q z x) σ cs ss
    | _, _ => False)
  | .arraylength => (match w, st with
    | 0, .inr (.inr (.inl q)) :: r => (1 ≤ (G.2.1 q).1 ∧ (G.2.1 q).1 ≤ 7) ∧ k (pc + 1) ls (vI (G.2.1 q).2 :: r) G σ cs ss
    | 1, .inr (.inr (.inr (.inr _))) :: r => k (pc + 1) ls (vI C.2.2 :: r) G σ cs ss
    | _, _ => False)
  | .iaload => (match w with
    | 0 => jldk st G 1 (fun q i r => k (pc + 1) ls (vI (σ q i) :: r) G σ cs ss)
    | _ => (match st with
      | .inl i :: .inr (.inr (.inr (.inr _))) :: r => 0 ≤ i ∧ i < C.2.2 ∧ k (pc + 1) ls (vI (C.2.1 i) :: r) G σ cs ss
      | _ => False))
  | .baload => (match w with
    | 2 => jldk st G 2 (fun q i r => k (pc + 1) ls (vI (σ q i) :: r) G σ cs ss)
    | _ => jldk st G 3 (fun q i r => k (pc + 1) ls (vI (σ q i) :: r) G σ cs ss))
  | .laload => jldk st G 4 (fun q i r => k (pc + 1) ls (vL (σ q i) :: r) G σ cs ss)
  | .aaload => jldk st G (w + 5) (fun q i r => k (pc + 1) ls (vR (G.2.2 q i) :: r) G σ cs ss)
  | .iastore => jstk st G 1 (fun q i x r => k (pc + 1) ls r G (ju σ q i x) cs ss)
  | .bastore => (match w with
    | 2 => jstk st G 2 (fun q i x r => k (pc + 1) ls r G (ju σ q i (w8 x)) cs ss)
    | _ => jstk st G 3 (fun q i x r => (x = 0 ∨ x = 1) ∧ k (pc + 1) ls r G (ju σ q i x) cs ss))
  | .lastore => (match st with
    | .inr (.inl x) :: .inl i :: .inr (.inr (.inl q)) :: r => jin G q i 4 (k (pc + 1) ls r G (ju σ q i x) cs ss)
    | _ => False)
  | .aastore => (match st with
    | .inr (.inr (.inl x)) :: .inl i :: .inr (.inr (.inl q)) :: r => jin G q i 5 ((G.2.1 x).1 = a + 8 ∧ k (pc + 1) ls r (G.1, G.2.1, ju G.2.2 q i x) σ cs ss)
    | _ => False)
  | .invokestatic _ => (match w with
    | 0 => jcallS C d m b st G σ (fun r σ' => k (pc + 3) ls r G σ' cs ss)
    | 1 => (match st, Nat.ble (jsw (st.drop 2)) 8 with
      | .inl y :: .inl x :: r, true => 1 ≤ d ∧ k (pc + 3) ls (vI (min x y) :: r) G σ cs ss
      | _, _ => False)
    | 2 => (match st, Nat.ble (jsw (st.drop 2)) 8 with
      | .inl y :: .inl x :: r, true => 1 ≤ d ∧ k (pc + 3) ls (vI (max x y) :: r) G σ cs ss
      | _, _ => False)
    | 3 => (match st, Nat.ble (jsw (st.drop 5)) 8 with
      | .inl n :: .inl dp :: .inr (.inr (.inl q)) :: .inl sp :: .inr (.inr (.inl p)) :: r, true => 1 ≤ d ∧ (G.2.1 p).1 = a ∧ (G.2.1 q).1 = a ∧ 0 ≤ sp ∧ 0 ≤ dp ∧ 0 ≤ n ∧ sp + n ≤ (G.2.1 p).2 ∧ dp + n ≤ (G.2.1 q).2 ∧ k (pc + 3) ls r G (jcpy σ p sp q dp n) cs ss
      | _, _ => False)
    | 4 => jcallS C d m b st G σ (fun r σ' => k (pc + 3) ls r G σ' cs ss)
    | _ => False)
  | .invokevirtual _ => (match w with
    | 1 => jcallV C d m b a st G σ (fun r σ' => k (pc + 3) ls r G σ' cs ss)
    | 4 => jcallV C d m b a st G σ (fun r σ' => k (pc + 3) ls r G σ' cs ss)
    | 2 => (match st, Nat.ble (jsw (st.drop 1)) 8 with
      | .inr (.inr (.inr (.inl j))) :: r, true => j < jtxs.length ∧ 9 ≤ d ∧ k (pc + 3) ls (vI (((jtb j).length : Nat) : Int) :: r) G σ cs ss
      | _, _ => False)
    | 3 => (match st, Nat.ble (jsw (st.drop 2)) 8 with
      | .inl i :: .inr (.inr (.inr (.inl j))) :: r, true => 9 ≤ d ∧ 0 ≤ i ∧ i < (((jtb j).length : Nat) : Int) ∧ k (pc + 3) ls (vI ((((jtb j).getD i.toNat 0) : Nat) : Int) :: r) G σ cs ss
      | _, _ => False)
    | _ => False)
  | .invokespecial _ => (match w with
    | 0 => (match st, Nat.ble (jsw (st.drop 1)) 8 with
      | .inr (.inr (.inl q)) :: r, true => 1 ≤ d ∧ 0 < q ∧ k (pc + 3) ls r G σ cs ss
      | _, _ => False)
    | _ => jctor C d mc ms m b a z.toNat st G σ cs ss (fun r G' σ' => k (pc + 3) ls r G' σ' (cs + a) (ss + z.toNat)))
  | .new _ => cs + 1 ≤ mc ∧ ss + b ≤ ms ∧ k (pc + 3) ls (vR ((G.1 + 1 : Nat) : Int) :: st) (jnewG G (a + 8) b) (jnewH G σ) (cs + 1) (ss + b)
  | .newarray _ => (match st with
    | .inl n :: r => 0 ≤ n ∧ n < 60000000 ∧ cs + 1 ≤ mc ∧ ss + n.toNat ≤ ms ∧ k (pc + 2) ls (vR ((G.1 + 1 : Nat) : Int) :: r) (jnewG G w n) (jnewH G σ) (cs + 1) (ss + n.toNat)
    | _ => False)
  | .anewarray _ => (match st with
    | .inl n :: r => 0 ≤ n ∧ n < 60000000 ∧ cs + 1 ≤ mc ∧ ss + n.toNat ≤ ms ∧ k (pc + 3) ls (vR ((G.1 + 1 : Nat) : Int) :: r) (jnewG G 5 n) (jnewH G σ) (cs + 1) (ss + n.toNat)
    | _ => False)
  | .multianewarray _ _ => (match st with
    | .inl n2 :: .inl n :: r => 0 ≤ n ∧ n < 60000000 ∧ 0 ≤ n2 ∧ n2 < 60000000 ∧ cs + 1 + n.toNat ≤ mc ∧ ss + n.toNat + n.toNat * n2.toNat ≤ ms ∧ k (pc + 4) ls (vR ((G.1 + 1 : Nat) : Int) :: r) (jgridG G (w + 4) w n n2) (jgridH G σ n) (cs + 1 + n.toNat) (ss + n.toNat + n.toNat * n2.toNat)
    | _ => False)
  | .ireturn => (match st with
    | [.inl x] => (match w with
      | 0 => RT x G σ
      | _ => (x = 0 ∨ x = 1) ∧ RT x G σ)
    | _ => False)
  | .lreturn => (match st with
    | [.inr (.inl x)] => RT x G σ
    | _ => False)
  | .areturn => (match st with
    | [.inr (.inr (.inl x))] => RT x G σ
    | _ => False)
  | .return_ => (match st with
    | [] => RT 0 G σ
    | _ => False)
  | _ => False
/-- locals of a mask alone -/
def jmask : List Bool → List (Option jV) → List (Option jV)
  | true :: bs, l :: ls => l :: jmask bs ls
  | false :: bs, _ :: ls => none :: jmask bs ls
  | _, ls => ls
def jlook : List (Nat × List Bool) → Nat → Option (List Bool)
  | [], _ => none
  | q :: qs, pc => match Nat.beq q.1 pc with
    | true => some q.2
    | false => jlook qs pc
def jwp (C : jC) (d mc ms : Nat) (RT : Int → jG → jH → Prop) (rc : List jO) (j0 : jO) (cut : List (Nat × List Bool)) (P : jK) : Nat → jK
  | 0 => P
  | n + 1 => jstep C d mc ms RT (fun pc' ls' st' G' σ' cs' ss' => match jlook cut pc' with
    | some bs => P pc' (jmask bs ls') st' G' σ' cs' ss'
    | none => jwp C d mc ms RT rc j0 cut P n pc' ls' st' G' σ' cs' ss') |> fun f pc ls st G σ cs ss => f (rc.getD pc j0) pc ls st G σ cs ss
