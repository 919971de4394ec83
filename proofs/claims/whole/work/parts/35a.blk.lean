/-! Blocks: what must hold ahead of each piece of a method -/
def q_KeyRow_init : List (Nat × List Bool) := [(17, [true, false, true]), (24, [false, false, false])]
set_option maxRecDepth 20000 in
theorem b_KeyRow_init_0 {C : jC} {d mc ms : Nat} {RT : Int → jG → jH → Prop} {P : jK} {G : jG} {σ : jH} {cs ss : Nat} {x0 : Int} {x1 : Int} (h :
  1 ≤ d ∧ 0 < x0 ∧
  1 ≤ d ∧
  (0 : Int) ≤ (max 0 x1) ∧ (max 0 x1) < 60000000 ∧ cs + 1 ≤ mc ∧ ss + Int.toNat (max 0 x1) ≤ ms ∧
  ((jnewG G 4 (max 0 x1)).2.1 x0).1 = 12 ∧
  P 17 [some (vR x0), none, some (vI (max 0 x1))] [] (((jnewG G 4 (max 0 x1)).1, (jnewG G 4 (max 0 x1)).2.1, ju (jnewG G 4 (max 0 x1)).2.2 x0 0 ((G.1 + 1 : Nat) : Int)) : jG) (jnewH G σ) (cs + 1) (ss + Int.toNat (max 0 x1))) :
  jwp C d mc ms RT k_KeyRow_init j0 q_KeyRow_init P 10 0 [some (vR x0), some (vI x1), none] [] G σ cs ss := h
set_option maxRecDepth 20000 in
theorem b_KeyRow_init_17 {C : jC} {d mc ms : Nat} {RT : Int → jG → jH → Prop} {P : jK} {G : jG} {σ : jH} {cs ss : Nat} {x0 : Int} {x2 : Int} (h :
  (0 : Int) ≤ x2 ∧ x2 < 60000000 ∧ cs + 1 ≤ mc ∧ ss + Int.toNat x2 ≤ ms ∧
  ((jnewG G 4 x2).2.1 x0).1 = 12 ∧
  P 24 [none, none, none] [] (((jnewG G 4 x2).1, (jnewG G 4 x2).2.1, ju (jnewG G 4 x2).2.2 x0 1 ((G.1 + 1 : Nat) : Int)) : jG) (jnewH G σ) (cs + 1) (ss + Int.toNat x2)) :
  jwp C d mc ms RT k_KeyRow_init j0 q_KeyRow_init P 4 17 [some (vR x0), none, some (vI x2)] [] G σ cs ss := h
set_option maxRecDepth 20000 in
theorem b_KeyRow_init_24 {C : jC} {d mc ms : Nat} {RT : Int → jG → jH → Prop} {P : jK} {G : jG} {σ : jH} {cs ss : Nat} (h :
  RT 0 G σ) :
  jwp C d mc ms RT k_KeyRow_init j0 q_KeyRow_init P 1 24 [none, none, none] [] G σ cs ss := h

def q_Key_init : List (Nat × List Bool) := [(9, [true]), (14, [true]), (19, [false])]
set_option maxRecDepth 20000 in
theorem b_Key_init_0 {C : jC} {d mc ms : Nat} {RT : Int → jG → jH → Prop} {P : jK} {G : jG} {σ : jH} {cs ss : Nat} {x0 : Int} (h :
  1 ≤ d ∧ 0 < x0 ∧
  (G.2.1 x0).1 = 11 ∧
  P 9 [some (vR x0)] [] G (ju σ x0 0 0) cs ss) :
  jwp C d mc ms RT k_Key_init j0 q_Key_init P 5 0 [some (vR x0)] [] G σ cs ss := h
set_option maxRecDepth 20000 in
theorem b_Key_init_9 {C : jC} {d mc ms : Nat} {RT : Int → jG → jH → Prop} {P : jK} {G : jG} {σ : jH} {cs ss : Nat} {x0 : Int} (h :
  (G.2.1 x0).1 = 11 ∧
  P 14 [some (vR x0)] [] G (ju σ x0 1 0) cs ss) :
  jwp C d mc ms RT k_Key_init j0 q_Key_init P 3 9 [some (vR x0)] [] G σ cs ss := h
set_option maxRecDepth 20000 in
theorem b_Key_init_14 {C : jC} {d mc ms : Nat} {RT : Int → jG → jH → Prop} {P : jK} {G : jG} {σ : jH} {cs ss : Nat} {x0 : Int} (h :
  (G.2.1 x0).1 = 11 ∧
  P 19 [none] [] G (ju σ x0 2 0) cs ss) :
  jwp C d mc ms RT k_Key_init j0 q_Key_init P 3 14 [some (vR x0)] [] G σ cs ss := h
set_option maxRecDepth 20000 in
theorem b_Key_init_19 {C : jC} {d mc ms : Nat} {RT : Int → jG → jH → Prop} {P : jK} {G : jG} {σ : jH} {cs ss : Nat} (h :
  RT 0 G σ) :
  jwp C d mc ms RT k_Key_init j0 q_Key_init P 1 19 [none] [] G σ cs ss := h

def q_Slots_init : List (Nat × List Bool) := [(13, [true]), (20, [true]), (27, [true]), (35, [true])]
set_option maxRecDepth 20000 in
theorem b_Slots_init_0 {C : jC} {d mc ms : Nat} {RT : Int → jG → jH → Prop} {P : jK} {G : jG} {σ : jH} {cs ss : Nat} {x0 : Int} (h :
  1 ≤ d ∧ 0 < x0 ∧
  (0 : Int) ≤ 240 ∧ (240 : Int) < 60000000 ∧ cs + 1 ≤ mc ∧ ss + Int.toNat 240 ≤ ms ∧
  ((jnewG G 4 240).2.1 x0).1 = 16 ∧
  P 13 [some (vR x0)] [] (((jnewG G 4 240).1, (jnewG G 4 240).2.1, ju (jnewG G 4 240).2.2 x0 0 ((G.1 + 1 : Nat) : Int)) : jG) (jnewH G σ) (cs + 1) (ss + Int.toNat 240)) :
  jwp C d mc ms RT k_Slots_init j0 q_Slots_init P 6 0 [some (vR x0)] [] G σ cs ss := h
set_option maxRecDepth 20000 in
theorem b_Slots_init_13 {C : jC} {d mc ms : Nat} {RT : Int → jG → jH → Prop} {P : jK} {G : jG} {σ : jH} {cs ss : Nat} {x0 : Int} (h :
  (0 : Int) ≤ 4 ∧ (4 : Int) < 60000000 ∧ cs + 1 ≤ mc ∧ ss + Int.toNat 4 ≤ ms ∧
  ((jnewG G 1 4).2.1 x0).1 = 16 ∧
  P 20 [some (vR x0)] [] (((jnewG G 1 4).1, (jnewG G 1 4).2.1, ju (jnewG G 1 4).2.2 x0 1 ((G.1 + 1 : Nat) : Int)) : jG) (jnewH G σ) (cs + 1) (ss + Int.toNat 4)) :
  jwp C d mc ms RT k_Slots_init j0 q_Slots_init P 4 13 [some (vR x0)] [] G σ cs ss := h
set_option maxRecDepth 20000 in
theorem b_Slots_init_20 {C : jC} {d mc ms : Nat} {RT : Int → jG → jH → Prop} {P : jK} {G : jG} {σ : jH} {cs ss : Nat} {x0 : Int} (h :
  (0 : Int) ≤ 4 ∧ (4 : Int) < 60000000 ∧ cs + 1 ≤ mc ∧ ss + Int.toNat 4 ≤ ms ∧
  ((jnewG G 1 4).2.1 x0).1 = 16 ∧
  P 27 [some (vR x0)] [] (((jnewG G 1 4).1, (jnewG G 1 4).2.1, ju (jnewG G 1 4).2.2 x0 2 ((G.1 + 1 : Nat) : Int)) : jG) (jnewH G σ) (cs + 1) (ss + Int.toNat 4)) :
  jwp C d mc ms RT k_Slots_init j0 q_Slots_init P 4 20 [some (vR x0)] [] G σ cs ss := h
set_option maxRecDepth 20000 in
theorem b_Slots_init_27 {C : jC} {d mc ms : Nat} {RT : Int → jG → jH → Prop} {P : jK} {G : jG} {σ : jH} {cs ss : Nat} {x0 : Int} (h :
  (0 : Int) ≤ 60 ∧ (60 : Int) < 60000000 ∧ cs + 1 ≤ mc ∧ ss + Int.toNat 60 ≤ ms ∧
  ((jnewG G 2 60).2.1 x0).1 = 16 ∧
  P 35 [some (vR x0)] [] (((jnewG G 2 60).1, (jnewG G 2 60).2.1, ju (jnewG G 2 60).2.2 x0 3 ((G.1 + 1 : Nat) : Int)) : jG) (jnewH G σ) (cs + 1) (ss + Int.toNat 60)) :
  jwp C d mc ms RT k_Slots_init j0 q_Slots_init P 4 27 [some (vR x0)] [] G σ cs ss := h
set_option maxRecDepth 20000 in
theorem b_Slots_init_35 {C : jC} {d mc ms : Nat} {RT : Int → jG → jH → Prop} {P : jK} {G : jG} {σ : jH} {cs ss : Nat} {x0 : Int} (h :
  (G.2.1 x0).1 = 16 ∧
  cN C.1 d m_Arrays_fill [vR (G.2.2 x0 2), vI (-1)] G σ (fun (r1 : Int) (σ1 : jH) =>
  RT 0 G σ1)) :
  jwp C d mc ms RT k_Slots_init j0 q_Slots_init P 5 35 [some (vR x0)] [] G σ cs ss := h

def q_Key_clear : List (Nat × List Bool) := []
set_option maxRecDepth 20000 in
theorem b_Key_clear_0 {C : jC} {d mc ms : Nat} {RT : Int → jG → jH → Prop} {P : jK} {G : jG} {σ : jH} {cs ss : Nat} {x0 : Int} (h :
  (G.2.1 x0).1 = 11 ∧
  (G.2.1 x0).1 = 11 ∧
  (G.2.1 x0).1 = 11 ∧
  RT 0 G (ju (ju (ju σ x0 0 0) x0 1 0) x0 2 0)) :
  jwp C d mc ms RT k_Key_clear j0 q_Key_clear P 10 0 [some (vR x0)] [] G σ cs ss := h

def q_Key_add : List (Nat × List Bool) := []
set_option maxRecDepth 20000 in
theorem b_Key_add_0 {C : jC} {d mc ms : Nat} {RT : Int → jG → jH → Prop} {P : jK} {G : jG} {σ : jH} {cs ss : Nat} {x0 : Int} {x1 : Int} (h :
  (G.2.1 x0).1 = 11 ∧
  (((20 : Int) ≤ (σ x0 2) →
    RT 0 G σ) ∧
  ((σ x0 2) < 20 →
    ((x1 < 0 →
      RT 0 G σ) ∧
    ((0 : Int) ≤ x1 →
      ((x1 < 26 →
        (G.2.1 x0).1 = 11 ∧
        (10 : Int) ≠ 0 ∧
        (G.2.1 x0).1 = 11 ∧
        (((10 : Int) ≤ (σ x0 2) →
          (G.2.1 x0).1 = 11 ∧
          (G.2.1 x0).1 = 11 ∧
          (G.2.1 x0).1 = 11 ∧
          (G.2.1 x0).1 = 11 ∧
          RT 0 G (ju (ju σ x0 1 (jor64 (σ x0 1) (jshl64 (w64 (x1 + 1)) (w32 (45 - (w32 (5 * (Int.tmod (σ x0 2) 10)))))))) x0 2 (w32 (((ju σ x0 1 (jor64 (σ x0 1) (jshl64 (w64 (x1 + 1)) (w32 (45 - (w32 (5 * (Int.tmod (σ x0 2) 10)))))))) x0 2) + 1)))) ∧
        ((σ x0 2) < 10 →
          (G.2.1 x0).1 = 11 ∧
          (G.2.1 x0).1 = 11 ∧
          (G.2.1 x0).1 = 11 ∧
          (G.2.1 x0).1 = 11 ∧
          RT 0 G (ju (ju σ x0 0 (jor64 (σ x0 0) (jshl64 (w64 (x1 + 1)) (w32 (45 - (w32 (5 * (Int.tmod (σ x0 2) 10)))))))) x0 2 (w32 (((ju σ x0 0 (jor64 (σ x0 0) (jshl64 (w64 (x1 + 1)) (w32 (45 - (w32 (5 * (Int.tmod (σ x0 2) 10)))))))) x0 2) + 1)))))) ∧
      ((26 : Int) ≤ x1 →
        RT 0 G σ))))))) :
  jwp C d mc ms RT k_Key_add j0 q_Key_add P 41 0 [some (vR x0), some (vI x1), none, none] [] G σ cs ss := h

def q_KeyRow_put : List (Nat × List Bool) := []
set_option maxRecDepth 20000 in
theorem b_KeyRow_put_0 {C : jC} {d mc ms : Nat} {RT : Int → jG → jH → Prop} {P : jK} {G : jG} {σ : jH} {cs ss : Nat} {x0 : Int} {x1 : Int} {x2 : Int} {x4 : Int} (h :
  ((x1 < 0 →
    RT 0 G σ) ∧
  ((0 : Int) ≤ x1 →
    (G.2.1 x0).1 = 12 ∧
    (1 ≤ (G.2.1 (G.2.2 x0 0)).1 ∧ (G.2.1 (G.2.2 x0 0)).1 ≤ 7) ∧
    (((G.2.1 (G.2.2 x0 0)).2 ≤ x1 →
      RT 0 G σ) ∧
    (x1 < (G.2.1 (G.2.2 x0 0)).2 →
      (G.2.1 x0).1 = 12 ∧
      (G.2.1 (G.2.2 x0 0)).1 = 4 ∧ (0 : Int) ≤ x1 ∧ x1 < (G.2.1 (G.2.2 x0 0)).2 ∧
      (G.2.1 x0).1 = 12 ∧
      (G.2.1 (G.2.2 x0 1)).1 = 4 ∧ (0 : Int) ≤ x1 ∧ x1 < (G.2.1 (G.2.2 x0 1)).2 ∧
      RT 0 G (ju (ju σ (G.2.2 x0 0) x1 x2) (G.2.2 x0 1) x1 x4)))))) :
  jwp C d mc ms RT k_KeyRow_put j0 q_KeyRow_put P 18 0 [some (vR x0), some (vI x1), some (vL x2), none, some (vL x4), none] [] G σ cs ss := h

def q_KeyRow_map : List (Nat × List Bool) := []
set_option maxRecDepth 20000 in
theorem b_KeyRow_map_0 {C : jC} {d mc ms : Nat} {RT : Int → jG → jH → Prop} {P : jK} {G : jG} {σ : jH} {cs ss : Nat} {x0 : Int} {x1 : Int} {x2 : Int} (h :
  ((x1 < 0 →
    RT 0 G σ) ∧
  ((0 : Int) ≤ x1 →
    (G.2.1 x0).1 = 12 ∧
    (1 ≤ (G.2.1 (G.2.2 x0 0)).1 ∧ (G.2.1 (G.2.2 x0 0)).1 ≤ 7) ∧
    (((G.2.1 (G.2.2 x0 0)).2 ≤ x1 →
      RT 0 G σ) ∧
    (x1 < (G.2.1 (G.2.2 x0 0)).2 →
      (G.2.1 x0).1 = 12 ∧
      (G.2.1 (G.2.2 x0 0)).1 = 4 ∧ (0 : Int) ≤ x1 ∧ x1 < (G.2.1 (G.2.2 x0 0)).2 ∧
      cN C.1 d m_Key_mapped [vL (σ (G.2.2 x0 0) x1), vR x2] G σ (fun (r1 : Int) (σ1 : jH) =>
      (G.2.1 x0).1 = 12 ∧
      (G.2.1 (G.2.2 x0 1)).1 = 4 ∧ (0 : Int) ≤ x1 ∧ x1 < (G.2.1 (G.2.2 x0 1)).2 ∧
      cN C.1 d m_Key_mapped [vL (σ1 (G.2.2 x0 1) x1), vR x2] G σ1 (fun (r2 : Int) (σ2 : jH) =>
      (G.2.1 x0).1 = 12 ∧
      cN C.1 d m_KeyRow_put [vR x0, vI x1, vL r1, vL r2] G σ2 (fun (r3 : Int) (σ3 : jH) =>
      RT 0 G σ3)))))))) :
  jwp C d mc ms RT k_KeyRow_map j0 q_KeyRow_map P 23 0 [some (vR x0), some (vI x1), some (vR x2)] [] G σ cs ss := h

def q_Key_mapped : List (Nat × List Bool) := [(6, [true, false, true, true, false, true, false])]
set_option maxRecDepth 20000 in
theorem b_Key_mapped_0 {C : jC} {d mc ms : Nat} {RT : Int → jG → jH → Prop} {P : jK} {G : jG} {σ : jH} {cs ss : Nat} {x0 : Int} {x2 : Int} (h :
  P 6 [some (vL x0), none, some (vR x2), some (vL 0), none, some (vI 45), none] [] G σ cs ss) :
  jwp C d mc ms RT k_Key_mapped j0 q_Key_mapped P 4 0 [some (vL x0), none, some (vR x2), none, none, none, none] [] G σ cs ss := h
set_option maxRecDepth 20000 in
theorem b_Key_mapped_6 {C : jC} {d mc ms : Nat} {RT : Int → jG → jH → Prop} {P : jK} {G : jG} {σ : jH} {cs ss : Nat} {x0 : Int} {x2 : Int} {x3 : Int} {x5 : Int} (h :
  ((x5 < 0 →
    RT x3 G σ) ∧
  ((0 : Int) ≤ x5 →
    (((w32 ((w32 (jand64 (jshr64 x0 x5) 31)) - 1)) < 0 →
      P 6 [some (vL x0), none, some (vR x2), some (vL x3), none, some (vI (w32 (x5 + (-5)))), none] [] G σ cs ss) ∧
    ((0 : Int) ≤ (w32 ((w32 (jand64 (jshr64 x0 x5) 31)) - 1)) →
      (1 ≤ (G.2.1 x2).1 ∧ (G.2.1 x2).1 ≤ 7) ∧
      (((G.2.1 x2).2 ≤ (w32 ((w32 (jand64 (jshr64 x0 x5) 31)) - 1)) →
        P 6 [some (vL x0), none, some (vR x2), some (vL x3), none, some (vI (w32 (x5 + (-5)))), none] [] G σ cs ss) ∧
      ((w32 ((w32 (jand64 (jshr64 x0 x5) 31)) - 1)) < (G.2.1 x2).2 →
        (G.2.1 x2).1 = 2 ∧ (0 : Int) ≤ (w32 ((w32 (jand64 (jshr64 x0 x5) 31)) - 1)) ∧ (w32 ((w32 (jand64 (jshr64 x0 x5) 31)) - 1)) < (G.2.1 x2).2 ∧
        P 6 [some (vL x0), none, some (vR x2), some (vL (jor64 x3 (jshl64 (w64 ((σ x2 (w32 ((w32 (jand64 (jshr64 x0 x5) 31)) - 1))) + 1)) x5))), none, some (vI (w32 (x5 + (-5)))), none] [] G σ cs ss))))))) :
  jwp C d mc ms RT k_Key_mapped j0 q_Key_mapped P 30 6 [some (vL x0), none, some (vR x2), some (vL x3), none, some (vI x5), none] [] G σ cs ss := h

def q_KeyRow_copyFrom : List (Nat × List Bool) := []
set_option maxRecDepth 20000 in
theorem b_KeyRow_copyFrom_0 {C : jC} {d mc ms : Nat} {RT : Int → jG → jH → Prop} {P : jK} {G : jG} {σ : jH} {cs ss : Nat} {x0 : Int} {x1 : Int} (h :
  (G.2.1 x0).1 = 12 ∧
  (1 ≤ (G.2.1 (G.2.2 x0 0)).1 ∧ (G.2.1 (G.2.2 x0 0)).1 ≤ 7) ∧
  (G.2.1 x1).1 = 12 ∧
  (1 ≤ (G.2.1 (G.2.2 x1 0)).1 ∧ (G.2.1 (G.2.2 x1 0)).1 ≤ 7) ∧
  1 ≤ d ∧
  (G.2.1 x1).1 = 12 ∧
  (G.2.1 x0).1 = 12 ∧
  1 ≤ d ∧ (G.2.1 (G.2.2 x1 0)).1 = 4 ∧ (G.2.1 (G.2.2 x0 0)).1 = 4 ∧ (0 : Int) ≤ 0 ∧ (0 : Int) ≤ 0 ∧ (0 : Int) ≤ (min (G.2.1 (G.2.2 x0 0)).2 (G.2.1 (G.2.2 x1 0)).2) ∧ 0 + (min (G.2.1 (G.2.2 x0 0)).2 (G.2.1 (G.2.2 x1 0)).2) ≤ (G.2.1 (G.2.2 x1 0)).2 ∧ 0 + (min (G.2.1 (G.2.2 x0 0)).2 (G.2.1 (G.2.2 x1 0)).2) ≤ (G.2.1 (G.2.2 x0 0)).2 ∧
  (G.2.1 x1).1 = 12 ∧
  (G.2.1 x0).1 = 12 ∧
  1 ≤ d ∧ (G.2.1 (G.2.2 x1 1)).1 = 4 ∧ (G.2.1 (G.2.2 x0 1)).1 = 4 ∧ (0 : Int) ≤ 0 ∧ (0 : Int) ≤ 0 ∧ (0 : Int) ≤ (min (G.2.1 (G.2.2 x0 0)).2 (G.2.1 (G.2.2 x1 0)).2) ∧ 0 + (min (G.2.1 (G.2.2 x0 0)).2 (G.2.1 (G.2.2 x1 0)).2) ≤ (G.2.1 (G.2.2 x1 1)).2 ∧ 0 + (min (G.2.1 (G.2.2 x0 0)).2 (G.2.1 (G.2.2 x1 0)).2) ≤ (G.2.1 (G.2.2 x0 1)).2 ∧
  RT 0 G (jcpy (jcpy σ (G.2.2 x1 0) 0 (G.2.2 x0 0) 0 (min (G.2.1 (G.2.2 x0 0)).2 (G.2.1 (G.2.2 x1 0)).2)) (G.2.2 x1 1) 0 (G.2.2 x0 1) 0 (min (G.2.1 (G.2.2 x0 0)).2 (G.2.1 (G.2.2 x1 0)).2))) :
  jwp C d mc ms RT k_KeyRow_copyFrom j0 q_KeyRow_copyFrom P 25 0 [some (vR x0), some (vR x1), none] [] G σ cs ss := h

def q_Slots_isSlot : List (Nat × List Bool) := []
set_option maxRecDepth 20000 in
theorem b_Slots_isSlot_0 {C : jC} {d mc ms : Nat} {RT : Int → jG → jH → Prop} {P : jK} {G : jG} {σ : jH} {cs ss : Nat} {x0 : Int} {x1 : Int} (h :
  ((x1 < 0 →
    ((0 : Int) = 0 ∨ (0 : Int) = 1) ∧ RT 0 G σ) ∧
  ((0 : Int) ≤ x1 →
    (((4 : Int) ≤ x1 →
      ((0 : Int) = 0 ∨ (0 : Int) = 1) ∧ RT 0 G σ) ∧
    (x1 < 4 →
      ((1 : Int) = 0 ∨ (1 : Int) = 1) ∧ RT 1 G σ))))) :
  jwp C d mc ms RT k_Slots_isSlot j0 q_Slots_isSlot P 8 0 [some (vR x0), some (vI x1)] [] G σ cs ss := h

def q_Slots_isEmpty : List (Nat × List Bool) := []
set_option maxRecDepth 20000 in
theorem b_Slots_isEmpty_0 {C : jC} {d mc ms : Nat} {RT : Int → jG → jH → Prop} {P : jK} {G : jG} {σ : jH} {cs ss : Nat} {x0 : Int} {x1 : Int} (h :
  (G.2.1 x0).1 = 16 ∧
  cN C.1 d m_Slots_isSlot [vR x0, vI x1] G σ (fun (r1 : Int) (σ1 : jH) =>
  ((r1 = 0 →
    ((1 : Int) = 0 ∨ (1 : Int) = 1) ∧ RT 1 G σ1) ∧
  (r1 ≠ 0 →
    (G.2.1 x0).1 = 16 ∧
    (G.2.1 (G.2.2 x0 2)).1 = 1 ∧ (0 : Int) ≤ x1 ∧ x1 < (G.2.1 (G.2.2 x0 2)).2 ∧
    (((σ1 (G.2.2 x0 2) x1) ≠ (-1) →
      ((0 : Int) = 0 ∨ (0 : Int) = 1) ∧ RT 0 G σ1) ∧
    ((σ1 (G.2.2 x0 2) x1) = (-1) →
      ((1 : Int) = 0 ∨ (1 : Int) = 1) ∧ RT 1 G σ1)))))) :
  jwp C d mc ms RT k_Slots_isEmpty j0 q_Slots_isEmpty P 13 0 [some (vR x0), some (vI x1)] [] G σ cs ss := h

def q_Slots_widthOf : List (Nat × List Bool) := []
set_option maxRecDepth 20000 in
theorem b_Slots_widthOf_0 {C : jC} {d mc ms : Nat} {RT : Int → jG → jH → Prop} {P : jK} {G : jG} {σ : jH} {cs ss : Nat} {x0 : Int} {x1 : Int} (h :
  (G.2.1 x0).1 = 16 ∧
  cN C.1 d m_Slots_isSlot [vR x0, vI x1] G σ (fun (r1 : Int) (σ1 : jH) =>
  ((r1 = 0 →
    RT (-1) G σ1) ∧
  (r1 ≠ 0 →
    (G.2.1 x0).1 = 16 ∧
    (G.2.1 (G.2.2 x0 1)).1 = 1 ∧ (0 : Int) ≤ x1 ∧ x1 < (G.2.1 (G.2.2 x0 1)).2 ∧
    RT (σ1 (G.2.2 x0 1) x1) G σ1)))) :
  jwp C d mc ms RT k_Slots_widthOf j0 q_Slots_widthOf P 10 0 [some (vR x0), some (vI x1)] [] G σ cs ss := h

def q_Slots_takeBytes : List (Nat × List Bool) := [(26, [true, true, true, true])]
set_option maxRecDepth 20000 in
theorem b_Slots_takeBytes_0 {C : jC} {d mc ms : Nat} {RT : Int → jG → jH → Prop} {P : jK} {G : jG} {σ : jH} {cs ss : Nat} {x0 : Int} {x1 : Int} (h :
  (G.2.1 x0).1 = 16 ∧
  cN C.1 d m_Slots_isEmpty [vR x0, vI x1] G σ (fun (r1 : Int) (σ1 : jH) =>
  ((r1 = 0 →
    (G.2.1 x0).1 = 16 ∧
    (G.2.1 (G.2.2 x0 2)).1 = 1 ∧ (0 : Int) ≤ x1 ∧ x1 < (G.2.1 (G.2.2 x0 2)).2 ∧
    1 ≤ d ∧
    P 26 [some (vR x0), some (vI x1), some (vI (min (σ1 (G.2.2 x0 2) x1) 60)), some (vI 0)] [] G σ1 cs ss) ∧
  (r1 ≠ 0 →
    P 26 [some (vR x0), some (vI x1), some (vI 0), some (vI 0)] [] G σ1 cs ss)))) :
  jwp C d mc ms RT k_Slots_takeBytes j0 q_Slots_takeBytes P 13 0 [some (vR x0), some (vI x1), none, none] [] G σ cs ss := h
set_option maxRecDepth 20000 in
theorem b_Slots_takeBytes_26 {C : jC} {d mc ms : Nat} {RT : Int → jG → jH → Prop} {P : jK} {G : jG} {σ : jH} {cs ss : Nat} {x0 : Int} {x1 : Int} {x2 : Int} {x3 : Int} (h :
  ((x2 ≤ x3 →
    RT x2 G σ) ∧
  (x3 < x2 →
    (G.2.1 x0).1 = 16 ∧
    (G.2.1 x0).1 = 16 ∧
    (G.2.1 (G.2.2 x0 0)).1 = 4 ∧ (0 : Int) ≤ (w32 ((w32 (x1 * 60)) + x3)) ∧ (w32 ((w32 (x1 * 60)) + x3)) < (G.2.1 (G.2.2 x0 0)).2 ∧
    (G.2.1 (G.2.2 x0 3)).1 = 2 ∧ (0 : Int) ≤ x3 ∧ x3 < (G.2.1 (G.2.2 x0 3)).2 ∧
    P 26 [some (vR x0), some (vI x1), some (vI x2), some (vI (w32 (x3 + 1)))] [] G (ju σ (G.2.2 x0 3) x3 (w8 (w8 (w32 (σ (G.2.2 x0 0) (w32 ((w32 (x1 * 60)) + x3))))))) cs ss))) :
  jwp C d mc ms RT k_Slots_takeBytes j0 q_Slots_takeBytes P 19 26 [some (vR x0), some (vI x1), some (vI x2), some (vI x3)] [] G σ cs ss := h

def q_KeyRow_find : List (Nat × List Bool) := [(14, [true, false, true, false, true, false, true, true, false, false]), (62, [true, false, true, false, true, false, true, true, true, true])]
set_option maxRecDepth 20000 in
theorem b_KeyRow_find_0 {C : jC} {d mc ms : Nat} {RT : Int → jG → jH → Prop} {P : jK} {G : jG} {σ : jH} {cs ss : Nat} {x0 : Int} {x1 : Int} {x2 : Int} {x4 : Int} (h :
  (G.2.1 x0).1 = 12 ∧
  (1 ≤ (G.2.1 (G.2.2 x0 0)).1 ∧ (G.2.1 (G.2.2 x0 0)).1 ≤ 7) ∧
  1 ≤ d ∧
  P 14 [some (vR x0), none, some (vL x2), none, some (vL x4), none, some (vI 0), some (vI (min x1 (G.2.1 (G.2.2 x0 0)).2)), none, none] [] G σ cs ss) :
  jwp C d mc ms RT k_KeyRow_find j0 q_KeyRow_find P 8 0 [some (vR x0), some (vI x1), some (vL x2), none, some (vL x4), none, none, none, none, none] [] G σ cs ss := h
set_option maxRecDepth 20000 in
theorem b_KeyRow_find_14 {C : jC} {d mc ms : Nat} {RT : Int → jG → jH → Prop} {P : jK} {G : jG} {σ : jH} {cs ss : Nat} {x0 : Int} {x2 : Int} {x4 : Int} {x6 : Int} {x7 : Int} (h :
  ((x7 ≤ x6 →
    RT (w32 ((-1) - x6)) G σ) ∧
  (x6 < x7 →
    (G.2.1 x0).1 = 12 ∧
    (G.2.1 (G.2.2 x0 0)).1 = 4 ∧ (0 : Int) ≤ (jushr32 (w32 (x6 + x7)) 1) ∧ (jushr32 (w32 (x6 + x7)) 1) < (G.2.1 (G.2.2 x0 0)).2 ∧
    cN C.1 d m_Long_compare [vL (σ (G.2.2 x0 0) (jushr32 (w32 (x6 + x7)) 1)), vL x2] G σ (fun (r1 : Int) (σ1 : jH) =>
    ((r1 ≠ 0 →
      P 62 [some (vR x0), none, some (vL x2), none, some (vL x4), none, some (vI x6), some (vI x7), some (vI (jushr32 (w32 (x6 + x7)) 1)), some (vI r1)] [] G σ1 cs ss) ∧
    (r1 = 0 →
      (G.2.1 x0).1 = 12 ∧
      (G.2.1 (G.2.2 x0 1)).1 = 4 ∧ (0 : Int) ≤ (jushr32 (w32 (x6 + x7)) 1) ∧ (jushr32 (w32 (x6 + x7)) 1) < (G.2.1 (G.2.2 x0 1)).2 ∧
      cN C.1 d m_Long_compare [vL (σ1 (G.2.2 x0 1) (jushr32 (w32 (x6 + x7)) 1)), vL x4] G σ1 (fun (r2 : Int) (σ2 : jH) =>
      P 62 [some (vR x0), none, some (vL x2), none, some (vL x4), none, some (vI x6), some (vI x7), some (vI (jushr32 (w32 (x6 + x7)) 1)), some (vI r2)] [] G σ2 cs ss))))))) :
  jwp C d mc ms RT k_KeyRow_find j0 q_KeyRow_find P 25 14 [some (vR x0), none, some (vL x2), none, some (vL x4), none, some (vI x6), some (vI x7), none, none] [] G σ cs ss := h
set_option maxRecDepth 20000 in
theorem b_KeyRow_find_62 {C : jC} {d mc ms : Nat} {RT : Int → jG → jH → Prop} {P : jK} {G : jG} {σ : jH} {cs ss : Nat} {x0 : Int} {x2 : Int} {x4 : Int} {x6 : Int} {x7 : Int} {x8 : Int} {x9 : Int} (h :
  ((x9 ≠ 0 →
    (((0 : Int) ≤ x9 →
      P 14 [some (vR x0), none, some (vL x2), none, some (vL x4), none, some (vI x6), some (vI x8), none, none] [] G σ cs ss) ∧
    (x9 < 0 →
      P 14 [some (vR x0), none, some (vL x2), none, some (vL x4), none, some (vI (w32 (x8 + 1))), some (vI x7), none, none] [] G σ cs ss))) ∧
  (x9 = 0 →
    RT x8 G σ))) :
  jwp C d mc ms RT k_KeyRow_find j0 q_KeyRow_find P 10 62 [some (vR x0), none, some (vL x2), none, some (vL x4), none, some (vI x6), some (vI x7), some (vI x8), some (vI x9)] [] G σ cs ss := h

def q_KeyRow_insert : List (Nat × List Bool) := []
set_option maxRecDepth 20000 in
theorem b_KeyRow_insert_0 {C : jC} {d mc ms : Nat} {RT : Int → jG → jH → Prop} {P : jK} {G : jG} {σ : jH} {cs ss : Nat} {x0 : Int} {x1 : Int} {x2 : Int} {x3 : Int} {x5 : Int} (h :
  ((x2 < 0 →
    RT 0 G σ) ∧
  ((0 : Int) ≤ x2 →
    ((x1 < x2 →
      RT 0 G σ) ∧
    (x2 ≤ x1 →
      (G.2.1 x0).1 = 12 ∧
      (1 ≤ (G.2.1 (G.2.2 x0 0)).1 ∧ (G.2.1 (G.2.2 x0 0)).1 ≤ 7) ∧
      ((x1 < (G.2.1 (G.2.2 x0 0)).2 →
        (G.2.1 x0).1 = 12 ∧
        (G.2.1 x0).1 = 12 ∧
        1 ≤ d ∧ (G.2.1 (G.2.2 x0 0)).1 = 4 ∧ (G.2.1 (G.2.2 x0 0)).1 = 4 ∧ (0 : Int) ≤ x2 ∧ (0 : Int) ≤ (w32 (x2 + 1)) ∧ (0 : Int) ≤ (w32 (x1 - x2)) ∧ x2 + (w32 (x1 - x2)) ≤ (G.2.1 (G.2.2 x0 0)).2 ∧ (w32 (x2 + 1)) + (w32 (x1 - x2)) ≤ (G.2.1 (G.2.2 x0 0)).2 ∧
        (G.2.1 x0).1 = 12 ∧
        (G.2.1 x0).1 = 12 ∧
        1 ≤ d ∧ (G.2.1 (G.2.2 x0 1)).1 = 4 ∧ (G.2.1 (G.2.2 x0 1)).1 = 4 ∧ (0 : Int) ≤ x2 ∧ (0 : Int) ≤ (w32 (x2 + 1)) ∧ (0 : Int) ≤ (w32 (x1 - x2)) ∧ x2 + (w32 (x1 - x2)) ≤ (G.2.1 (G.2.2 x0 1)).2 ∧ (w32 (x2 + 1)) + (w32 (x1 - x2)) ≤ (G.2.1 (G.2.2 x0 1)).2 ∧
        (G.2.1 x0).1 = 12 ∧
        cN C.1 d m_KeyRow_put [vR x0, vI x2, vL x3, vL x5] G (jcpy (jcpy σ (G.2.2 x0 0) x2 (G.2.2 x0 0) (w32 (x2 + 1)) (w32 (x1 - x2))) (G.2.2 x0 1) x2 (G.2.2 x0 1) (w32 (x2 + 1)) (w32 (x1 - x2))) (fun (r1 : Int) (σ1 : jH) =>
        RT 0 G σ1)) ∧
      ((G.2.1 (G.2.2 x0 0)).2 ≤ x1 →
        RT 0 G σ))))))) :
  jwp C d mc ms RT k_KeyRow_insert j0 q_KeyRow_insert P 40 0 [some (vR x0), some (vI x1), some (vI x2), some (vL x3), none, some (vL x5), none] [] G σ cs ss := h

def q_Key_letterAt : List (Nat × List Bool) := [(26, [false, false, false, false, true, false, false])]
set_option maxRecDepth 20000 in
theorem b_Key_letterAt_0 {C : jC} {d mc ms : Nat} {RT : Int → jG → jH → Prop} {P : jK} {G : jG} {σ : jH} {cs ss : Nat} {x0 : Int} {x2 : Int} {x4 : Int} (h :
  ((x4 < 0 →
    RT (-1) G σ) ∧
  ((0 : Int) ≤ x4 →
    ((x4 < 20 →
      (((10 : Int) ≤ x4 →
        P 26 [none, none, none, none, some (vI x4), none, none] [vL x2] G σ cs ss) ∧
      (x4 < 10 →
        P 26 [none, none, none, none, some (vI x4), none, none] [vL x0] G σ cs ss))) ∧
    ((20 : Int) ≤ x4 →
      RT (-1) G σ))))) :
  jwp C d mc ms RT k_Key_letterAt j0 q_Key_letterAt P 10 0 [some (vL x0), none, some (vL x2), none, some (vI x4), none, none] [] G σ cs ss := h
set_option maxRecDepth 20000 in
theorem b_Key_letterAt_26 {C : jC} {d mc ms : Nat} {RT : Int → jG → jH → Prop} {P : jK} {G : jG} {σ : jH} {cs ss : Nat} {x4 : Int} {s0 : Int} (h :
  (10 : Int) ≠ 0 ∧
  RT (w32 ((w32 (jand64 (jshr64 s0 (w32 (45 - (w32 (5 * (Int.tmod x4 10)))))) 31)) - 1)) G σ) :
  jwp C d mc ms RT k_Key_letterAt j0 q_Key_letterAt P 16 26 [none, none, none, none, some (vI x4), none, none] [vL s0] G σ cs ss := h

def q_Key_lengthOf : List (Nat × List Bool) := [(3, [true, false, true, false, true])]
set_option maxRecDepth 20000 in
theorem b_Key_lengthOf_0 {C : jC} {d mc ms : Nat} {RT : Int → jG → jH → Prop} {P : jK} {G : jG} {σ : jH} {cs ss : Nat} {x0 : Int} {x2 : Int} (h :
  P 3 [some (vL x0), none, some (vL x2), none, some (vI 0)] [] G σ cs ss) :
  jwp C d mc ms RT k_Key_lengthOf j0 q_Key_lengthOf P 2 0 [some (vL x0), none, some (vL x2), none, none] [] G σ cs ss := h
set_option maxRecDepth 20000 in
theorem b_Key_lengthOf_3 {C : jC} {d mc ms : Nat} {RT : Int → jG → jH → Prop} {P : jK} {G : jG} {σ : jH} {cs ss : Nat} {x0 : Int} {x2 : Int} {x4 : Int} (h :
  (((20 : Int) ≤ x4 →
    RT x4 G σ) ∧
  (x4 < 20 →
    cN C.1 d m_Key_letterAt [vL x0, vL x2, vI x4] G σ (fun (r1 : Int) (σ1 : jH) =>
    ((r1 = (-1) →
      RT x4 G σ1) ∧
    (r1 ≠ (-1) →
      P 3 [some (vL x0), none, some (vL x2), none, some (vI (w32 (x4 + 1)))] [] G σ1 cs ss)))))) :
  jwp C d mc ms RT k_Key_lengthOf j0 q_Key_lengthOf P 11 3 [some (vL x0), none, some (vL x2), none, some (vI x4)] [] G σ cs ss := h

def q_KeyRow_holds : List (Nat × List Bool) := []
set_option maxRecDepth 20000 in
theorem b_KeyRow_holds_0 {C : jC} {d mc ms : Nat} {RT : Int → jG → jH → Prop} {P : jK} {G : jG} {σ : jH} {cs ss : Nat} {x0 : Int} {x1 : Int} {x2 : Int} {x4 : Int} (h :
  ((x1 < 0 →
    ((0 : Int) = 0 ∨ (0 : Int) = 1) ∧ RT 0 G σ) ∧
  ((0 : Int) ≤ x1 →
    (G.2.1 x0).1 = 12 ∧
    (1 ≤ (G.2.1 (G.2.2 x0 0)).1 ∧ (G.2.1 (G.2.2 x0 0)).1 ≤ 7) ∧
    (((G.2.1 (G.2.2 x0 0)).2 ≤ x1 →
      ((0 : Int) = 0 ∨ (0 : Int) = 1) ∧ RT 0 G σ) ∧
    (x1 < (G.2.1 (G.2.2 x0 0)).2 →
      (G.2.1 x0).1 = 12 ∧
      (G.2.1 (G.2.2 x0 0)).1 = 4 ∧ (0 : Int) ≤ x1 ∧ x1 < (G.2.1 (G.2.2 x0 0)).2 ∧
      (((jcmp (σ (G.2.2 x0 0) x1) x2) ≠ 0 →
        ((0 : Int) = 0 ∨ (0 : Int) = 1) ∧ RT 0 G σ) ∧
      ((jcmp (σ (G.2.2 x0 0) x1) x2) = 0 →
        (G.2.1 x0).1 = 12 ∧
        (G.2.1 (G.2.2 x0 1)).1 = 4 ∧ (0 : Int) ≤ x1 ∧ x1 < (G.2.1 (G.2.2 x0 1)).2 ∧
        (((jcmp (σ (G.2.2 x0 1) x1) x4) ≠ 0 →
          ((0 : Int) = 0 ∨ (0 : Int) = 1) ∧ RT 0 G σ) ∧
        ((jcmp (σ (G.2.2 x0 1) x1) x4) = 0 →
          ((1 : Int) = 0 ∨ (1 : Int) = 1) ∧ RT 1 G σ))))))))) :
  jwp C d mc ms RT k_KeyRow_holds j0 q_KeyRow_holds P 24 0 [some (vR x0), some (vI x1), some (vL x2), none, some (vL x4), none] [] G σ cs ss := h

def q_Key_map : List (Nat × List Bool) := []
set_option maxRecDepth 20000 in
theorem b_Key_map_0 {C : jC} {d mc ms : Nat} {RT : Int → jG → jH → Prop} {P : jK} {G : jG} {σ : jH} {cs ss : Nat} {x0 : Int} {x1 : Int} (h :
  (G.2.1 x0).1 = 11 ∧
  cN C.1 d m_Key_mapped [vL (σ x0 0), vR x1] G σ (fun (r1 : Int) (σ1 : jH) =>
  (G.2.1 x0).1 = 11 ∧
  (G.2.1 x0).1 = 11 ∧
  cN C.1 d m_Key_mapped [vL ((ju σ1 x0 0 r1) x0 1), vR x1] G (ju σ1 x0 0 r1) (fun (r2 : Int) (σ2 : jH) =>
  (G.2.1 x0).1 = 11 ∧
  RT 0 G (ju σ2 x0 1 r2)))) :
  jwp C d mc ms RT k_Key_map j0 q_Key_map P 13 0 [some (vR x0), some (vR x1)] [] G σ cs ss := h

def q_Key_firstBits : List (Nat × List Bool) := []
set_option maxRecDepth 20000 in
theorem b_Key_firstBits_0 {C : jC} {d mc ms : Nat} {RT : Int → jG → jH → Prop} {P : jK} {G : jG} {σ : jH} {cs ss : Nat} {x0 : Int} (h :
  1 ≤ d ∧
  1 ≤ d ∧
  RT (jand64 1125899906842623 (jxor64 (w64 ((jshl64 1 (w32 (50 - (w32 (5 * (max 0 (min 10 x0))))))) - 1)) (-1))) G σ) :
  jwp C d mc ms RT k_Key_firstBits j0 q_Key_firstBits P 20 0 [some (vI x0), none] [] G σ cs ss := h

def q_Slots_filled : List (Nat × List Bool) := [(4, [true, true, true])]
set_option maxRecDepth 20000 in
theorem b_Slots_filled_0 {C : jC} {d mc ms : Nat} {RT : Int → jG → jH → Prop} {P : jK} {G : jG} {σ : jH} {cs ss : Nat} {x0 : Int} (h :
  P 4 [some (vR x0), some (vI 0), some (vI 0)] [] G σ cs ss) :
  jwp C d mc ms RT k_Slots_filled j0 q_Slots_filled P 4 0 [some (vR x0), none, none] [] G σ cs ss := h
set_option maxRecDepth 20000 in
theorem b_Slots_filled_4 {C : jC} {d mc ms : Nat} {RT : Int → jG → jH → Prop} {P : jK} {G : jG} {σ : jH} {cs ss : Nat} {x0 : Int} {x1 : Int} {x2 : Int} (h :
  (((4 : Int) ≤ x2 →
    RT x1 G σ) ∧
  (x2 < 4 →
    (G.2.1 x0).1 = 16 ∧
    cN C.1 d m_Slots_isEmpty [vR x0, vI x2] G σ (fun (r1 : Int) (σ1 : jH) =>
    ((r1 = 0 →
      P 4 [some (vR x0), some (vI (w32 (x1 + 1))), some (vI (w32 (x2 + 1)))] [] G σ1 cs ss) ∧
    (r1 ≠ 0 →
      P 4 [some (vR x0), some (vI (w32 (x1 + 0))), some (vI (w32 (x2 + 1)))] [] G σ1 cs ss)))))) :
  jwp C d mc ms RT k_Slots_filled j0 q_Slots_filled P 14 4 [some (vR x0), some (vI x1), some (vI x2)] [] G σ cs ss := h

def q_Slots_make : List (Nat × List Bool) := []
set_option maxRecDepth 20000 in
theorem b_Slots_make_0 {C : jC} {d mc ms : Nat} {RT : Int → jG → jH → Prop} {P : jK} {G : jG} {σ : jH} {cs ss : Nat} {x0 : Int} {x1 : Int} {x2 : Int} {x3 : Int} (h :
  (G.2.1 x0).1 = 16 ∧
  cN C.1 d m_Slots_isSlot [vR x0, vI x1] G σ (fun (r1 : Int) (σ1 : jH) =>
  ((r1 = 0 →
    RT 0 G σ1) ∧
  (r1 ≠ 0 →
    ((x3 < 0 →
      RT 0 G σ1) ∧
    ((0 : Int) ≤ x3 →
      ((x3 ≤ 60 →
        (G.2.1 x0).1 = 16 ∧
        (G.2.1 (G.2.2 x0 1)).1 = 1 ∧ (0 : Int) ≤ x1 ∧ x1 < (G.2.1 (G.2.2 x0 1)).2 ∧
        (G.2.1 x0).1 = 16 ∧
        (G.2.1 (G.2.2 x0 2)).1 = 1 ∧ (0 : Int) ≤ x1 ∧ x1 < (G.2.1 (G.2.2 x0 2)).2 ∧
        (G.2.1 x0).1 = 16 ∧
        cN C.1 d m_Arrays_fill4 [vR (G.2.2 x0 0), vI (w32 (x1 * 60)), vI (w32 ((w32 (x1 * 60)) + x3)), vL 0] G (ju (ju σ1 (G.2.2 x0 1) x1 x2) (G.2.2 x0 2) x1 x3) (fun (r2 : Int) (σ2 : jH) =>
        RT 0 G σ2)) ∧
      ((60 : Int) < x3 →
        RT 0 G σ1)))))))) :
  jwp C d mc ms RT k_Slots_make j0 q_Slots_make P 32 0 [some (vR x0), some (vI x1), some (vI x2), some (vI x3)] [] G σ cs ss := h

def q_Slots_put : List (Nat × List Bool) := []
set_option maxRecDepth 20000 in
theorem b_Slots_put_0 {C : jC} {d mc ms : Nat} {RT : Int → jG → jH → Prop} {P : jK} {G : jG} {σ : jH} {cs ss : Nat} {x0 : Int} {x1 : Int} {x2 : Int} {x3 : Int} (h :
  (G.2.1 x0).1 = 16 ∧
  cN C.1 d m_Slots_isSlot [vR x0, vI x1] G σ (fun (r1 : Int) (σ1 : jH) =>
  ((r1 = 0 →
    ((0 : Int) = 0 ∨ (0 : Int) = 1) ∧ RT 0 G σ1) ∧
  (r1 ≠ 0 →
    ((x2 < 0 →
      ((0 : Int) = 0 ∨ (0 : Int) = 1) ∧ RT 0 G σ1) ∧
    ((0 : Int) ≤ x2 →
      (G.2.1 x0).1 = 16 ∧
      (G.2.1 (G.2.2 x0 2)).1 = 1 ∧ (0 : Int) ≤ x1 ∧ x1 < (G.2.1 (G.2.2 x0 2)).2 ∧
      (((σ1 (G.2.2 x0 2) x1) ≤ x2 →
        ((0 : Int) = 0 ∨ (0 : Int) = 1) ∧ RT 0 G σ1) ∧
      (x2 < (σ1 (G.2.2 x0 2) x1) →
        ((x2 < 60 →
          (G.2.1 x0).1 = 16 ∧
          (G.2.1 x0).1 = 16 ∧
          (G.2.1 (G.2.2 x0 1)).1 = 1 ∧ (0 : Int) ≤ x1 ∧ x1 < (G.2.1 (G.2.2 x0 1)).2 ∧
          cN C.1 d m_Slots_cut [vL x3, vI (σ1 (G.2.2 x0 1) x1)] G σ1 (fun (r2 : Int) (σ2 : jH) =>
          (G.2.1 (G.2.2 x0 0)).1 = 4 ∧ (0 : Int) ≤ (w32 ((w32 (x1 * 60)) + x2)) ∧ (w32 ((w32 (x1 * 60)) + x2)) < (G.2.1 (G.2.2 x0 0)).2 ∧
          ((1 : Int) = 0 ∨ (1 : Int) = 1) ∧ RT 1 G (ju σ2 (G.2.2 x0 0) (w32 ((w32 (x1 * 60)) + x2)) r2))) ∧
        ((60 : Int) ≤ x2 →
          ((0 : Int) = 0 ∨ (0 : Int) = 1) ∧ RT 0 G σ1)))))))))) :
  jwp C d mc ms RT k_Slots_put j0 q_Slots_put P 31 0 [some (vR x0), some (vI x1), some (vI x2), some (vL x3), none] [] G σ cs ss := h

def q_Slots_cut : List (Nat × List Bool) := []
set_option maxRecDepth 20000 in
theorem b_Slots_cut_0 {C : jC} {d mc ms : Nat} {RT : Int → jG → jH → Prop} {P : jK} {G : jG} {σ : jH} {cs ss : Nat} {x0 : Int} {x2 : Int} (h :
  ((x2 < 0 ∨ 2 < x2 →
    RT x0 G σ) ∧
  (x2 = 0 →
    RT (w8 (w32 x0)) G σ) ∧
  (x2 = 1 →
    RT (w16 (w32 x0)) G σ) ∧
  (x2 = 2 →
    RT (w32 x0) G σ) ∧ True)) :
  jwp C d mc ms RT k_Slots_cut j0 q_Slots_cut P 7 0 [some (vL x0), none, some (vI x2)] [] G σ cs ss := h

def q_Slots_move : List (Nat × List Bool) := []
set_option maxRecDepth 20000 in
theorem b_Slots_move_0 {C : jC} {d mc ms : Nat} {RT : Int → jG → jH → Prop} {P : jK} {G : jG} {σ : jH} {cs ss : Nat} {x0 : Int} {x1 : Int} {x2 : Int} {x3 : Int} {x4 : Int} {x5 : Int} (h :
  (G.2.1 x0).1 = 16 ∧
  cN C.1 d m_Slots_hasAll [vR x0, vI x1, vI x2, vI x5] G σ (fun (r1 : Int) (σ1 : jH) =>
  ((r1 = 0 →
    ((0 : Int) = 0 ∨ (0 : Int) = 1) ∧ RT 0 G σ1) ∧
  (r1 ≠ 0 →
    (G.2.1 x0).1 = 16 ∧
    cN C.1 d m_Slots_hasAll [vR x0, vI x3, vI x4, vI x5] G σ1 (fun (r2 : Int) (σ2 : jH) =>
    ((r2 ≠ 0 →
      (G.2.1 x0).1 = 16 ∧
      (G.2.1 x0).1 = 16 ∧
      1 ≤ d ∧ (G.2.1 (G.2.2 x0 0)).1 = 4 ∧ (G.2.1 (G.2.2 x0 0)).1 = 4 ∧ (0 : Int) ≤ (w32 ((w32 (x1 * 60)) + x2)) ∧ (0 : Int) ≤ (w32 ((w32 (x3 * 60)) + x4)) ∧ (0 : Int) ≤ x5 ∧ (w32 ((w32 (x1 * 60)) + x2)) + x5 ≤ (G.2.1 (G.2.2 x0 0)).2 ∧ (w32 ((w32 (x3 * 60)) + x4)) + x5 ≤ (G.2.1 (G.2.2 x0 0)).2 ∧
      ((1 : Int) = 0 ∨ (1 : Int) = 1) ∧ RT 1 G (jcpy σ2 (G.2.2 x0 0) (w32 ((w32 (x1 * 60)) + x2)) (G.2.2 x0 0) (w32 ((w32 (x3 * 60)) + x4)) x5)) ∧
    (r2 = 0 →
      ((0 : Int) = 0 ∨ (0 : Int) = 1) ∧ RT 0 G σ2))))))) :
  jwp C d mc ms RT k_Slots_move j0 q_Slots_move P 30 0 [some (vR x0), some (vI x1), some (vI x2), some (vI x3), some (vI x4), some (vI x5)] [] G σ cs ss := h

def q_Slots_hasAll : List (Nat × List Bool) := [(23, [false, false, true, true, false])]
set_option maxRecDepth 20000 in
theorem b_Slots_hasAll_0 {C : jC} {d mc ms : Nat} {RT : Int → jG → jH → Prop} {P : jK} {G : jG} {σ : jH} {cs ss : Nat} {x0 : Int} {x1 : Int} {x2 : Int} {x3 : Int} (h :
  (G.2.1 x0).1 = 16 ∧
  cN C.1 d m_Slots_isSlot [vR x0, vI x1] G σ (fun (r1 : Int) (σ1 : jH) =>
  ((r1 = 0 →
    P 23 [none, none, some (vI x2), some (vI x3), none] [vI (-1)] G σ1 cs ss) ∧
  (r1 ≠ 0 →
    (G.2.1 x0).1 = 16 ∧
    (G.2.1 (G.2.2 x0 2)).1 = 1 ∧ (0 : Int) ≤ x1 ∧ x1 < (G.2.1 (G.2.2 x0 2)).2 ∧
    1 ≤ d ∧
    P 23 [none, none, some (vI x2), some (vI x3), none] [vI (min (σ1 (G.2.2 x0 2) x1) 60)] G σ1 cs ss)))) :
  jwp C d mc ms RT k_Slots_hasAll j0 q_Slots_hasAll P 11 0 [some (vR x0), some (vI x1), some (vI x2), some (vI x3), none] [] G σ cs ss := h
set_option maxRecDepth 20000 in
theorem b_Slots_hasAll_23 {C : jC} {d mc ms : Nat} {RT : Int → jG → jH → Prop} {P : jK} {G : jG} {σ : jH} {cs ss : Nat} {x2 : Int} {x3 : Int} {s0 : Int} (h :
  ((x2 < 0 →
    ((0 : Int) = 0 ∨ (0 : Int) = 1) ∧ RT 0 G σ) ∧
  ((0 : Int) ≤ x2 →
    ((x3 < 0 →
      ((0 : Int) = 0 ∨ (0 : Int) = 1) ∧ RT 0 G σ) ∧
    ((0 : Int) ≤ x3 →
      ((s0 < x2 →
        ((0 : Int) = 0 ∨ (0 : Int) = 1) ∧ RT 0 G σ) ∧
      (x2 ≤ s0 →
        (((w32 (s0 - x2)) < x3 →
          ((0 : Int) = 0 ∨ (0 : Int) = 1) ∧ RT 0 G σ) ∧
        (x3 ≤ (w32 (s0 - x2)) →
          ((1 : Int) = 0 ∨ (1 : Int) = 1) ∧ RT 1 G σ))))))))) :
  jwp C d mc ms RT k_Slots_hasAll j0 q_Slots_hasAll P 16 23 [none, none, some (vI x2), some (vI x3), none] [vI s0] G σ cs ss := h
