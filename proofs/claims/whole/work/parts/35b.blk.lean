/-! Blocks: what must hold ahead of each piece of a method -/
def q_Image_init : List (Nat × List Bool) := [(15, [true]), (24, [true]), (32, [true]), (40, [true]), (48, [true]), (55, [true]), (69, [false])]
set_option maxRecDepth 20000 in
theorem b_Image_init_0 {C : jC} {d mc ms : Nat} {RT : Int → jG → jH → Prop} {P : jK} {G : jG} {σ : jH} {cs ss : Nat} {x0 : Int} (h :
  1 ≤ d ∧ 0 < x0 ∧
  cs + 1 ≤ mc ∧ ss + 12 ≤ ms ∧
  0 < ((G.1 + 1 : Nat) : Int) ∧ ∃ (d1 : Nat) (P1 : jG → jH → Prop), d1 < d ∧ CallG C.1 d1 13 344 m_Rules_init [vR ((G.1 + 1 : Nat) : Int)] (jnewG G 15 12) (jnewH G σ) (fun _ => P1) ∧ (cs + 1) + 13 ≤ mc ∧ (ss + 12) + 344 ≤ ms ∧ ∀ (G1 : jG) (σ1 : jH), P1 G1 σ1 →
  (G1.2.1 x0).1 = 10 ∧
  P 15 [some (vR x0)] [] ((G1.1, G1.2.1, ju G1.2.2 x0 0 ((G.1 + 1 : Nat) : Int)) : jG) σ1 ((cs + 1) + 13) ((ss + 12) + 344)) :
  jwp C d mc ms RT k_Image_init j0 q_Image_init P 7 0 [some (vR x0)] [] G σ cs ss := h
set_option maxRecDepth 20000 in
theorem b_Image_init_15 {C : jC} {d mc ms : Nat} {RT : Int → jG → jH → Prop} {P : jK} {G : jG} {σ : jH} {cs ss : Nat} {x0 : Int} (h :
  (0 : Int) ≤ 4800 ∧ (4800 : Int) < 60000000 ∧ cs + 1 ≤ mc ∧ ss + Int.toNat 4800 ≤ ms ∧
  ((jnewG G 2 4800).2.1 x0).1 = 10 ∧
  P 24 [some (vR x0)] [] (((jnewG G 2 4800).1, (jnewG G 2 4800).2.1, ju (jnewG G 2 4800).2.2 x0 1 ((G.1 + 1 : Nat) : Int)) : jG) (jnewH G σ) (cs + 1) (ss + Int.toNat 4800)) :
  jwp C d mc ms RT k_Image_init j0 q_Image_init P 4 15 [some (vR x0)] [] G σ cs ss := h
set_option maxRecDepth 20000 in
theorem b_Image_init_24 {C : jC} {d mc ms : Nat} {RT : Int → jG → jH → Prop} {P : jK} {G : jG} {σ : jH} {cs ss : Nat} {x0 : Int} (h :
  (0 : Int) ≤ 80 ∧ (80 : Int) < 60000000 ∧ cs + 1 ≤ mc ∧ ss + Int.toNat 80 ≤ ms ∧
  ((jnewG G 1 80).2.1 x0).1 = 10 ∧
  P 32 [some (vR x0)] [] (((jnewG G 1 80).1, (jnewG G 1 80).2.1, ju (jnewG G 1 80).2.2 x0 2 ((G.1 + 1 : Nat) : Int)) : jG) (jnewH G σ) (cs + 1) (ss + Int.toNat 80)) :
  jwp C d mc ms RT k_Image_init j0 q_Image_init P 4 24 [some (vR x0)] [] G σ cs ss := h
set_option maxRecDepth 20000 in
theorem b_Image_init_32 {C : jC} {d mc ms : Nat} {RT : Int → jG → jH → Prop} {P : jK} {G : jG} {σ : jH} {cs ss : Nat} {x0 : Int} (h :
  (0 : Int) ≤ 80 ∧ (80 : Int) < 60000000 ∧ cs + 1 ≤ mc ∧ ss + Int.toNat 80 ≤ ms ∧
  ((jnewG G 1 80).2.1 x0).1 = 10 ∧
  P 40 [some (vR x0)] [] (((jnewG G 1 80).1, (jnewG G 1 80).2.1, ju (jnewG G 1 80).2.2 x0 3 ((G.1 + 1 : Nat) : Int)) : jG) (jnewH G σ) (cs + 1) (ss + Int.toNat 80)) :
  jwp C d mc ms RT k_Image_init j0 q_Image_init P 4 32 [some (vR x0)] [] G σ cs ss := h
set_option maxRecDepth 20000 in
theorem b_Image_init_40 {C : jC} {d mc ms : Nat} {RT : Int → jG → jH → Prop} {P : jK} {G : jG} {σ : jH} {cs ss : Nat} {x0 : Int} (h :
  (0 : Int) ≤ 80 ∧ (80 : Int) < 60000000 ∧ cs + 1 ≤ mc ∧ ss + Int.toNat 80 ≤ ms ∧
  ((jnewG G 2 80).2.1 x0).1 = 10 ∧
  P 48 [some (vR x0)] [] (((jnewG G 2 80).1, (jnewG G 2 80).2.1, ju (jnewG G 2 80).2.2 x0 4 ((G.1 + 1 : Nat) : Int)) : jG) (jnewH G σ) (cs + 1) (ss + Int.toNat 80)) :
  jwp C d mc ms RT k_Image_init j0 q_Image_init P 4 40 [some (vR x0)] [] G σ cs ss := h
set_option maxRecDepth 20000 in
theorem b_Image_init_48 {C : jC} {d mc ms : Nat} {RT : Int → jG → jH → Prop} {P : jK} {G : jG} {σ : jH} {cs ss : Nat} {x0 : Int} (h :
  (0 : Int) ≤ 2 ∧ (2 : Int) < 60000000 ∧ cs + 1 ≤ mc ∧ ss + Int.toNat 2 ≤ ms ∧
  ((jnewG G 1 2).2.1 x0).1 = 10 ∧
  P 55 [some (vR x0)] [] (((jnewG G 1 2).1, (jnewG G 1 2).2.1, ju (jnewG G 1 2).2.2 x0 5 ((G.1 + 1 : Nat) : Int)) : jG) (jnewH G σ) (cs + 1) (ss + Int.toNat 2)) :
  jwp C d mc ms RT k_Image_init j0 q_Image_init P 4 48 [some (vR x0)] [] G σ cs ss := h
set_option maxRecDepth 20000 in
theorem b_Image_init_55 {C : jC} {d mc ms : Nat} {RT : Int → jG → jH → Prop} {P : jK} {G : jG} {σ : jH} {cs ss : Nat} {x0 : Int} (h :
  cs + 1 ≤ mc ∧ ss + 2 ≤ ms ∧
  0 < ((G.1 + 1 : Nat) : Int) ∧ ∃ (d1 : Nat) (P1 : jG → jH → Prop), d1 < d ∧ CallG C.1 d1 2 2400 m_KeyRow_init [vR ((G.1 + 1 : Nat) : Int), vI 1200] (jnewG G 12 2) (jnewH G σ) (fun _ => P1) ∧ (cs + 1) + 2 ≤ mc ∧ (ss + 2) + 2400 ≤ ms ∧ ∀ (G1 : jG) (σ1 : jH), P1 G1 σ1 →
  (G1.2.1 x0).1 = 10 ∧
  P 69 [none] [] ((G1.1, G1.2.1, ju G1.2.2 x0 6 ((G.1 + 1 : Nat) : Int)) : jG) σ1 ((cs + 1) + 2) ((ss + 2) + 2400)) :
  jwp C d mc ms RT k_Image_init j0 q_Image_init P 6 55 [some (vR x0)] [] G σ cs ss := h
set_option maxRecDepth 20000 in
theorem b_Image_init_69 {C : jC} {d mc ms : Nat} {RT : Int → jG → jH → Prop} {P : jK} {G : jG} {σ : jH} {cs ss : Nat} (h :
  RT 0 G σ) :
  jwp C d mc ms RT k_Image_init j0 q_Image_init P 1 69 [none] [] G σ cs ss := h

def q_Rules_init : List (Nat × List Bool) := [(9, [true]), (17, [true]), (25, [true]), (30, [true]), (43, [true]), (48, [true]), (61, [true]), (66, [true]), (79, [true]), (87, [true]), (95, [true]), (100, [true])]
set_option maxRecDepth 20000 in
theorem b_Rules_init_0 {C : jC} {d mc ms : Nat} {RT : Int → jG → jH → Prop} {P : jK} {G : jG} {σ : jH} {cs ss : Nat} {x0 : Int} (h :
  1 ≤ d ∧ 0 < x0 ∧
  (G.2.1 x0).1 = 15 ∧
  P 9 [some (vR x0)] [] G (ju σ x0 0 0) cs ss) :
  jwp C d mc ms RT k_Rules_init j0 q_Rules_init P 5 0 [some (vR x0)] [] G σ cs ss := h
set_option maxRecDepth 20000 in
theorem b_Rules_init_9 {C : jC} {d mc ms : Nat} {RT : Int → jG → jH → Prop} {P : jK} {G : jG} {σ : jH} {cs ss : Nat} {x0 : Int} (h :
  (0 : Int) ≤ 26 ∧ (26 : Int) < 60000000 ∧ cs + 1 ≤ mc ∧ ss + Int.toNat 26 ≤ ms ∧
  ((jnewG G 2 26).2.1 x0).1 = 15 ∧
  P 17 [some (vR x0)] [] (((jnewG G 2 26).1, (jnewG G 2 26).2.1, ju (jnewG G 2 26).2.2 x0 1 ((G.1 + 1 : Nat) : Int)) : jG) (jnewH G σ) (cs + 1) (ss + Int.toNat 26)) :
  jwp C d mc ms RT k_Rules_init j0 q_Rules_init P 4 9 [some (vR x0)] [] G σ cs ss := h
set_option maxRecDepth 20000 in
theorem b_Rules_init_17 {C : jC} {d mc ms : Nat} {RT : Int → jG → jH → Prop} {P : jK} {G : jG} {σ : jH} {cs ss : Nat} {x0 : Int} (h :
  (0 : Int) ≤ 26 ∧ (26 : Int) < 60000000 ∧ cs + 1 ≤ mc ∧ ss + Int.toNat 26 ≤ ms ∧
  ((jnewG G 2 26).2.1 x0).1 = 15 ∧
  P 25 [some (vR x0)] [] (((jnewG G 2 26).1, (jnewG G 2 26).2.1, ju (jnewG G 2 26).2.2 x0 2 ((G.1 + 1 : Nat) : Int)) : jG) (jnewH G σ) (cs + 1) (ss + Int.toNat 26)) :
  jwp C d mc ms RT k_Rules_init j0 q_Rules_init P 4 17 [some (vR x0)] [] G σ cs ss := h
set_option maxRecDepth 20000 in
theorem b_Rules_init_25 {C : jC} {d mc ms : Nat} {RT : Int → jG → jH → Prop} {P : jK} {G : jG} {σ : jH} {cs ss : Nat} {x0 : Int} (h :
  (G.2.1 x0).1 = 15 ∧
  P 30 [some (vR x0)] [] G (ju σ x0 3 0) cs ss) :
  jwp C d mc ms RT k_Rules_init j0 q_Rules_init P 3 25 [some (vR x0)] [] G σ cs ss := h
set_option maxRecDepth 20000 in
theorem b_Rules_init_30 {C : jC} {d mc ms : Nat} {RT : Int → jG → jH → Prop} {P : jK} {G : jG} {σ : jH} {cs ss : Nat} {x0 : Int} (h :
  cs + 1 ≤ mc ∧ ss + 2 ≤ ms ∧
  0 < ((G.1 + 1 : Nat) : Int) ∧ ∃ (d1 : Nat) (P1 : jG → jH → Prop), d1 < d ∧ CallG C.1 d1 2 40 m_KeyRow_init [vR ((G.1 + 1 : Nat) : Int), vI 20] (jnewG G 12 2) (jnewH G σ) (fun _ => P1) ∧ (cs + 1) + 2 ≤ mc ∧ (ss + 2) + 40 ≤ ms ∧ ∀ (G1 : jG) (σ1 : jH), P1 G1 σ1 →
  (G1.2.1 x0).1 = 15 ∧
  P 43 [some (vR x0)] [] ((G1.1, G1.2.1, ju G1.2.2 x0 4 ((G.1 + 1 : Nat) : Int)) : jG) σ1 ((cs + 1) + 2) ((ss + 2) + 40)) :
  jwp C d mc ms RT k_Rules_init j0 q_Rules_init P 6 30 [some (vR x0)] [] G σ cs ss := h
set_option maxRecDepth 20000 in
theorem b_Rules_init_43 {C : jC} {d mc ms : Nat} {RT : Int → jG → jH → Prop} {P : jK} {G : jG} {σ : jH} {cs ss : Nat} {x0 : Int} (h :
  (G.2.1 x0).1 = 15 ∧
  P 48 [some (vR x0)] [] G (ju σ x0 5 0) cs ss) :
  jwp C d mc ms RT k_Rules_init j0 q_Rules_init P 3 43 [some (vR x0)] [] G σ cs ss := h
set_option maxRecDepth 20000 in
theorem b_Rules_init_48 {C : jC} {d mc ms : Nat} {RT : Int → jG → jH → Prop} {P : jK} {G : jG} {σ : jH} {cs ss : Nat} {x0 : Int} (h :
  cs + 1 ≤ mc ∧ ss + 2 ≤ ms ∧
  0 < ((G.1 + 1 : Nat) : Int) ∧ ∃ (d1 : Nat) (P1 : jG → jH → Prop), d1 < d ∧ CallG C.1 d1 2 40 m_KeyRow_init [vR ((G.1 + 1 : Nat) : Int), vI 20] (jnewG G 12 2) (jnewH G σ) (fun _ => P1) ∧ (cs + 1) + 2 ≤ mc ∧ (ss + 2) + 40 ≤ ms ∧ ∀ (G1 : jG) (σ1 : jH), P1 G1 σ1 →
  (G1.2.1 x0).1 = 15 ∧
  P 61 [some (vR x0)] [] ((G1.1, G1.2.1, ju G1.2.2 x0 6 ((G.1 + 1 : Nat) : Int)) : jG) σ1 ((cs + 1) + 2) ((ss + 2) + 40)) :
  jwp C d mc ms RT k_Rules_init j0 q_Rules_init P 6 48 [some (vR x0)] [] G σ cs ss := h
set_option maxRecDepth 20000 in
theorem b_Rules_init_61 {C : jC} {d mc ms : Nat} {RT : Int → jG → jH → Prop} {P : jK} {G : jG} {σ : jH} {cs ss : Nat} {x0 : Int} (h :
  (G.2.1 x0).1 = 15 ∧
  P 66 [some (vR x0)] [] G (ju σ x0 7 0) cs ss) :
  jwp C d mc ms RT k_Rules_init j0 q_Rules_init P 3 61 [some (vR x0)] [] G σ cs ss := h
set_option maxRecDepth 20000 in
theorem b_Rules_init_66 {C : jC} {d mc ms : Nat} {RT : Int → jG → jH → Prop} {P : jK} {G : jG} {σ : jH} {cs ss : Nat} {x0 : Int} (h :
  cs + 1 ≤ mc ∧ ss + 2 ≤ ms ∧
  0 < ((G.1 + 1 : Nat) : Int) ∧ ∃ (d1 : Nat) (P1 : jG → jH → Prop), d1 < d ∧ CallG C.1 d1 2 160 m_KeyRow_init [vR ((G.1 + 1 : Nat) : Int), vI 80] (jnewG G 12 2) (jnewH G σ) (fun _ => P1) ∧ (cs + 1) + 2 ≤ mc ∧ (ss + 2) + 160 ≤ ms ∧ ∀ (G1 : jG) (σ1 : jH), P1 G1 σ1 →
  (G1.2.1 x0).1 = 15 ∧
  P 79 [some (vR x0)] [] ((G1.1, G1.2.1, ju G1.2.2 x0 8 ((G.1 + 1 : Nat) : Int)) : jG) σ1 ((cs + 1) + 2) ((ss + 2) + 160)) :
  jwp C d mc ms RT k_Rules_init j0 q_Rules_init P 6 66 [some (vR x0)] [] G σ cs ss := h
set_option maxRecDepth 20000 in
theorem b_Rules_init_79 {C : jC} {d mc ms : Nat} {RT : Int → jG → jH → Prop} {P : jK} {G : jG} {σ : jH} {cs ss : Nat} {x0 : Int} (h :
  (0 : Int) ≤ 20 ∧ (20 : Int) < 60000000 ∧ cs + 1 ≤ mc ∧ ss + Int.toNat 20 ≤ ms ∧
  ((jnewG G 1 20).2.1 x0).1 = 15 ∧
  P 87 [some (vR x0)] [] (((jnewG G 1 20).1, (jnewG G 1 20).2.1, ju (jnewG G 1 20).2.2 x0 9 ((G.1 + 1 : Nat) : Int)) : jG) (jnewH G σ) (cs + 1) (ss + Int.toNat 20)) :
  jwp C d mc ms RT k_Rules_init j0 q_Rules_init P 4 79 [some (vR x0)] [] G σ cs ss := h
set_option maxRecDepth 20000 in
theorem b_Rules_init_87 {C : jC} {d mc ms : Nat} {RT : Int → jG → jH → Prop} {P : jK} {G : jG} {σ : jH} {cs ss : Nat} {x0 : Int} (h :
  (0 : Int) ≤ 26 ∧ (26 : Int) < 60000000 ∧ cs + 1 ≤ mc ∧ ss + Int.toNat 26 ≤ ms ∧
  ((jnewG G 2 26).2.1 x0).1 = 15 ∧
  P 95 [some (vR x0)] [] (((jnewG G 2 26).1, (jnewG G 2 26).2.1, ju (jnewG G 2 26).2.2 x0 10 ((G.1 + 1 : Nat) : Int)) : jG) (jnewH G σ) (cs + 1) (ss + Int.toNat 26)) :
  jwp C d mc ms RT k_Rules_init j0 q_Rules_init P 4 87 [some (vR x0)] [] G σ cs ss := h
set_option maxRecDepth 20000 in
theorem b_Rules_init_95 {C : jC} {d mc ms : Nat} {RT : Int → jG → jH → Prop} {P : jK} {G : jG} {σ : jH} {cs ss : Nat} {x0 : Int} (h :
  (G.2.1 x0).1 = 15 ∧
  ((0 : Int) = 0 ∨ (0 : Int) = 1) ∧
  P 100 [some (vR x0)] [] G (ju σ x0 11 0) cs ss) :
  jwp C d mc ms RT k_Rules_init j0 q_Rules_init P 3 95 [some (vR x0)] [] G σ cs ss := h
set_option maxRecDepth 20000 in
theorem b_Rules_init_100 {C : jC} {d mc ms : Nat} {RT : Int → jG → jH → Prop} {P : jK} {G : jG} {σ : jH} {cs ss : Nat} {x0 : Int} (h :
  (G.2.1 x0).1 = 15 ∧
  cN C.1 d m_Rules_clear [vR x0] G σ (fun (r1 : Int) (σ1 : jH) =>
  RT 0 G σ1)) :
  jwp C d mc ms RT k_Rules_init j0 q_Rules_init P 3 100 [some (vR x0)] [] G σ cs ss := h

def q_Rules_clear : List (Nat × List Bool) := [(27, [true, true])]
set_option maxRecDepth 20000 in
theorem b_Rules_clear_0 {C : jC} {d mc ms : Nat} {RT : Int → jG → jH → Prop} {P : jK} {G : jG} {σ : jH} {cs ss : Nat} {x0 : Int} (h :
  (G.2.1 x0).1 = 15 ∧
  (G.2.1 x0).1 = 15 ∧
  (G.2.1 x0).1 = 15 ∧
  (G.2.1 x0).1 = 15 ∧
  (G.2.1 x0).1 = 15 ∧
  ((0 : Int) = 0 ∨ (0 : Int) = 1) ∧
  P 27 [some (vR x0), some (vI 0)] [] G (ju (ju (ju (ju (ju σ x0 0 0) x0 3 0) x0 5 0) x0 7 0) x0 11 0) cs ss) :
  jwp C d mc ms RT k_Rules_clear j0 q_Rules_clear P 17 0 [some (vR x0), none] [] G σ cs ss := h
set_option maxRecDepth 20000 in
theorem b_Rules_clear_27 {C : jC} {d mc ms : Nat} {RT : Int → jG → jH → Prop} {P : jK} {G : jG} {σ : jH} {cs ss : Nat} {x0 : Int} {x1 : Int} (h :
  (((26 : Int) ≤ x1 →
    (G.2.1 x0).1 = 15 ∧
    cN C.1 d m_Arrays_fill [vR (G.2.2 x0 9), vI 0] G σ (fun (r1 : Int) (σ1 : jH) =>
    RT 0 G σ1)) ∧
  (x1 < 26 →
    (G.2.1 x0).1 = 15 ∧
    (G.2.1 (G.2.2 x0 1)).1 = 2 ∧ (0 : Int) ≤ x1 ∧ x1 < (G.2.1 (G.2.2 x0 1)).2 ∧
    (G.2.1 x0).1 = 15 ∧
    (G.2.1 (G.2.2 x0 10)).1 = 2 ∧ (0 : Int) ≤ x1 ∧ x1 < (G.2.1 (G.2.2 x0 10)).2 ∧
    (G.2.1 x0).1 = 15 ∧
    (G.2.1 (G.2.2 x0 2)).1 = 2 ∧ (0 : Int) ≤ x1 ∧ x1 < (G.2.1 (G.2.2 x0 2)).2 ∧
    P 27 [some (vR x0), some (vI (w32 (x1 + 1)))] [] G (ju (ju (ju σ (G.2.2 x0 1) x1 (w8 (w8 x1))) (G.2.2 x0 10) x1 (w8 (w8 x1))) (G.2.2 x0 2) x1 (w8 0)) cs ss))) :
  jwp C d mc ms RT k_Rules_clear j0 q_Rules_clear P 22 27 [some (vR x0), some (vI x1)] [] G σ cs ss := h

def q_Likeness_init : List (Nat × List Bool) := [(9, [true]), (14, [true]), (23, [true]), (32, [true]), (41, [true]), (50, [false])]
set_option maxRecDepth 20000 in
theorem b_Likeness_init_0 {C : jC} {d mc ms : Nat} {RT : Int → jG → jH → Prop} {P : jK} {G : jG} {σ : jH} {cs ss : Nat} {x0 : Int} (h :
  1 ≤ d ∧ 0 < x0 ∧
  (G.2.1 x0).1 = 13 ∧
  ((0 : Int) = 0 ∨ (0 : Int) = 1) ∧
  P 9 [some (vR x0)] [] G (ju σ x0 0 0) cs ss) :
  jwp C d mc ms RT k_Likeness_init j0 q_Likeness_init P 5 0 [some (vR x0)] [] G σ cs ss := h
set_option maxRecDepth 20000 in
theorem b_Likeness_init_9 {C : jC} {d mc ms : Nat} {RT : Int → jG → jH → Prop} {P : jK} {G : jG} {σ : jH} {cs ss : Nat} {x0 : Int} (h :
  (G.2.1 x0).1 = 13 ∧
  P 14 [some (vR x0)] [] G (ju σ x0 1 0) cs ss) :
  jwp C d mc ms RT k_Likeness_init j0 q_Likeness_init P 3 9 [some (vR x0)] [] G σ cs ss := h
set_option maxRecDepth 20000 in
theorem b_Likeness_init_14 {C : jC} {d mc ms : Nat} {RT : Int → jG → jH → Prop} {P : jK} {G : jG} {σ : jH} {cs ss : Nat} {x0 : Int} (h :
  (0 : Int) ≤ 300 ∧ (300 : Int) < 60000000 ∧ cs + 1 ≤ mc ∧ ss + Int.toNat 300 ≤ ms ∧
  ((jnewG G 1 300).2.1 x0).1 = 13 ∧
  P 23 [some (vR x0)] [] (((jnewG G 1 300).1, (jnewG G 1 300).2.1, ju (jnewG G 1 300).2.2 x0 2 ((G.1 + 1 : Nat) : Int)) : jG) (jnewH G σ) (cs + 1) (ss + Int.toNat 300)) :
  jwp C d mc ms RT k_Likeness_init j0 q_Likeness_init P 4 14 [some (vR x0)] [] G σ cs ss := h
set_option maxRecDepth 20000 in
theorem b_Likeness_init_23 {C : jC} {d mc ms : Nat} {RT : Int → jG → jH → Prop} {P : jK} {G : jG} {σ : jH} {cs ss : Nat} {x0 : Int} (h :
  (0 : Int) ≤ 1500 ∧ (1500 : Int) < 60000000 ∧ cs + 1 ≤ mc ∧ ss + Int.toNat 1500 ≤ ms ∧
  ((jnewG G 4 1500).2.1 x0).1 = 13 ∧
  P 32 [some (vR x0)] [] (((jnewG G 4 1500).1, (jnewG G 4 1500).2.1, ju (jnewG G 4 1500).2.2 x0 3 ((G.1 + 1 : Nat) : Int)) : jG) (jnewH G σ) (cs + 1) (ss + Int.toNat 1500)) :
  jwp C d mc ms RT k_Likeness_init j0 q_Likeness_init P 4 23 [some (vR x0)] [] G σ cs ss := h
set_option maxRecDepth 20000 in
theorem b_Likeness_init_32 {C : jC} {d mc ms : Nat} {RT : Int → jG → jH → Prop} {P : jK} {G : jG} {σ : jH} {cs ss : Nat} {x0 : Int} (h :
  (0 : Int) ≤ 301 ∧ (301 : Int) < 60000000 ∧ cs + 1 ≤ mc ∧ ss + Int.toNat 301 ≤ ms ∧
  ((jnewG G 1 301).2.1 x0).1 = 13 ∧
  P 41 [some (vR x0)] [] (jnewG G 1 301) (ju (jnewH G σ) x0 4 ((G.1 + 1 : Nat) : Int)) (cs + 1) (ss + Int.toNat 301)) :
  jwp C d mc ms RT k_Likeness_init j0 q_Likeness_init P 4 32 [some (vR x0)] [] G σ cs ss := h
set_option maxRecDepth 20000 in
theorem b_Likeness_init_41 {C : jC} {d mc ms : Nat} {RT : Int → jG → jH → Prop} {P : jK} {G : jG} {σ : jH} {cs ss : Nat} {x0 : Int} (h :
  (0 : Int) ≤ 301 ∧ (301 : Int) < 60000000 ∧ cs + 1 ≤ mc ∧ ss + Int.toNat 301 ≤ ms ∧
  ((jnewG G 1 301).2.1 x0).1 = 13 ∧
  P 50 [none] [] (jnewG G 1 301) (ju (jnewH G σ) x0 5 ((G.1 + 1 : Nat) : Int)) (cs + 1) (ss + Int.toNat 301)) :
  jwp C d mc ms RT k_Likeness_init j0 q_Likeness_init P 4 41 [some (vR x0)] [] G σ cs ss := h
set_option maxRecDepth 20000 in
theorem b_Likeness_init_50 {C : jC} {d mc ms : Nat} {RT : Int → jG → jH → Prop} {P : jK} {G : jG} {σ : jH} {cs ss : Nat} (h :
  RT 0 G σ) :
  jwp C d mc ms RT k_Likeness_init j0 q_Likeness_init P 1 50 [none] [] G σ cs ss := h

def q_Rules_foldAll : List (Nat × List Bool) := [(2, [true, true]), (40, [true, true])]
set_option maxRecDepth 20000 in
theorem b_Rules_foldAll_0 {C : jC} {d mc ms : Nat} {RT : Int → jG → jH → Prop} {P : jK} {G : jG} {σ : jH} {cs ss : Nat} {x0 : Int} (h :
  P 2 [some (vR x0), some (vI 0)] [] G σ cs ss) :
  jwp C d mc ms RT k_Rules_foldAll j0 q_Rules_foldAll P 2 0 [some (vR x0), none] [] G σ cs ss := h
set_option maxRecDepth 20000 in
theorem b_Rules_foldAll_2 {C : jC} {d mc ms : Nat} {RT : Int → jG → jH → Prop} {P : jK} {G : jG} {σ : jH} {cs ss : Nat} {x0 : Int} {x1 : Int} (h :
  (((20 : Int) ≤ x1 →
    P 40 [some (vR x0), some (vI 0)] [] G σ cs ss) ∧
  (x1 < 20 →
    (G.2.1 x0).1 = 15 ∧
    (G.2.1 x0).1 = 15 ∧
    (G.2.1 (G.2.2 x0 4)).1 = 12 ∧
    cN C.1 d m_KeyRow_map [vR (G.2.2 x0 4), vI x1, vR (G.2.2 x0 1)] G σ (fun (r1 : Int) (σ1 : jH) =>
    (G.2.1 x0).1 = 15 ∧
    (G.2.1 x0).1 = 15 ∧
    (G.2.1 (G.2.2 x0 6)).1 = 12 ∧
    cN C.1 d m_KeyRow_map [vR (G.2.2 x0 6), vI x1, vR (G.2.2 x0 1)] G σ1 (fun (r2 : Int) (σ2 : jH) =>
    P 2 [some (vR x0), some (vI (w32 (x1 + 1)))] [] G σ2 cs ss))))) :
  jwp C d mc ms RT k_Rules_foldAll j0 q_Rules_foldAll P 17 2 [some (vR x0), some (vI x1)] [] G σ cs ss := h
set_option maxRecDepth 20000 in
theorem b_Rules_foldAll_40 {C : jC} {d mc ms : Nat} {RT : Int → jG → jH → Prop} {P : jK} {G : jG} {σ : jH} {cs ss : Nat} {x0 : Int} {x1 : Int} (h :
  (((80 : Int) ≤ x1 →
    RT 0 G σ) ∧
  (x1 < 80 →
    (G.2.1 x0).1 = 15 ∧
    (G.2.1 x0).1 = 15 ∧
    (G.2.1 (G.2.2 x0 8)).1 = 12 ∧
    cN C.1 d m_KeyRow_map [vR (G.2.2 x0 8), vI x1, vR (G.2.2 x0 1)] G σ (fun (r1 : Int) (σ1 : jH) =>
    P 40 [some (vR x0), some (vI (w32 (x1 + 1)))] [] G σ1 cs ss)))) :
  jwp C d mc ms RT k_Rules_foldAll j0 q_Rules_foldAll P 11 40 [some (vR x0), some (vI x1)] [] G σ cs ss := h

def q_Rules_copyFrom : List (Nat × List Bool) := []
set_option maxRecDepth 20000 in
theorem b_Rules_copyFrom_0 {C : jC} {d mc ms : Nat} {RT : Int → jG → jH → Prop} {P : jK} {G : jG} {σ : jH} {cs ss : Nat} {x0 : Int} {x1 : Int} (h :
  (G.2.1 x1).1 = 15 ∧
  (G.2.1 x0).1 = 15 ∧
  (G.2.1 x1).1 = 15 ∧
  (G.2.1 x0).1 = 15 ∧
  (G.2.1 x1).1 = 15 ∧
  (G.2.1 x0).1 = 15 ∧
  (G.2.1 x1).1 = 15 ∧
  (G.2.1 x0).1 = 15 ∧
  (G.2.1 x1).1 = 15 ∧
  (G.2.1 x0).1 = 15 ∧
  (((ju (ju (ju (ju σ x0 0 (σ x1 0)) x0 3 ((ju σ x0 0 (σ x1 0)) x1 3)) x0 5 ((ju (ju σ x0 0 (σ x1 0)) x0 3 ((ju σ x0 0 (σ x1 0)) x1 3)) x1 5)) x0 7 ((ju (ju (ju σ x0 0 (σ x1 0)) x0 3 ((ju σ x0 0 (σ x1 0)) x1 3)) x0 5 ((ju (ju σ x0 0 (σ x1 0)) x0 3 ((ju σ x0 0 (σ x1 0)) x1 3)) x1 5)) x1 7)) x1 11) = 0 ∨ ((ju (ju (ju (ju σ x0 0 (σ x1 0)) x0 3 ((ju σ x0 0 (σ x1 0)) x1 3)) x0 5 ((ju (ju σ x0 0 (σ x1 0)) x0 3 ((ju σ x0 0 (σ x1 0)) x1 3)) x1 5)) x0 7 ((ju (ju (ju σ x0 0 (σ x1 0)) x0 3 ((ju σ x0 0 (σ x1 0)) x1 3)) x0 5 ((ju (ju σ x0 0 (σ x1 0)) x0 3 ((ju σ x0 0 (σ x1 0)) x1 3)) x1 5)) x1 7)) x1 11) = 1) ∧
  (G.2.1 x1).1 = 15 ∧
  (G.2.1 x0).1 = 15 ∧
  1 ≤ d ∧ (G.2.1 (G.2.2 x1 1)).1 = 2 ∧ (G.2.1 (G.2.2 x0 1)).1 = 2 ∧ (0 : Int) ≤ 0 ∧ (0 : Int) ≤ 0 ∧ (0 : Int) ≤ 26 ∧ 0 + 26 ≤ (G.2.1 (G.2.2 x1 1)).2 ∧ 0 + 26 ≤ (G.2.1 (G.2.2 x0 1)).2 ∧
  (G.2.1 x1).1 = 15 ∧
  (G.2.1 x0).1 = 15 ∧
  1 ≤ d ∧ (G.2.1 (G.2.2 x1 10)).1 = 2 ∧ (G.2.1 (G.2.2 x0 10)).1 = 2 ∧ (0 : Int) ≤ 0 ∧ (0 : Int) ≤ 0 ∧ (0 : Int) ≤ 26 ∧ 0 + 26 ≤ (G.2.1 (G.2.2 x1 10)).2 ∧ 0 + 26 ≤ (G.2.1 (G.2.2 x0 10)).2 ∧
  (G.2.1 x1).1 = 15 ∧
  (G.2.1 x0).1 = 15 ∧
  1 ≤ d ∧ (G.2.1 (G.2.2 x1 2)).1 = 2 ∧ (G.2.1 (G.2.2 x0 2)).1 = 2 ∧ (0 : Int) ≤ 0 ∧ (0 : Int) ≤ 0 ∧ (0 : Int) ≤ 26 ∧ 0 + 26 ≤ (G.2.1 (G.2.2 x1 2)).2 ∧ 0 + 26 ≤ (G.2.1 (G.2.2 x0 2)).2 ∧
  (G.2.1 x1).1 = 15 ∧
  (G.2.1 x0).1 = 15 ∧
  1 ≤ d ∧ (G.2.1 (G.2.2 x1 9)).1 = 1 ∧ (G.2.1 (G.2.2 x0 9)).1 = 1 ∧ (0 : Int) ≤ 0 ∧ (0 : Int) ≤ 0 ∧ (0 : Int) ≤ 20 ∧ 0 + 20 ≤ (G.2.1 (G.2.2 x1 9)).2 ∧ 0 + 20 ≤ (G.2.1 (G.2.2 x0 9)).2 ∧
  (G.2.1 x0).1 = 15 ∧
  (G.2.1 x1).1 = 15 ∧
  (G.2.1 (G.2.2 x0 4)).1 = 12 ∧
  cN C.1 d m_KeyRow_copyFrom [vR (G.2.2 x0 4), vR (G.2.2 x1 4)] G (jcpy (jcpy (jcpy (jcpy (ju (ju (ju (ju (ju σ x0 0 (σ x1 0)) x0 3 ((ju σ x0 0 (σ x1 0)) x1 3)) x0 5 ((ju (ju σ x0 0 (σ x1 0)) x0 3 ((ju σ x0 0 (σ x1 0)) x1 3)) x1 5)) x0 7 ((ju (ju (ju σ x0 0 (σ x1 0)) x0 3 ((ju σ x0 0 (σ x1 0)) x1 3)) x0 5 ((ju (ju σ x0 0 (σ x1 0)) x0 3 ((ju σ x0 0 (σ x1 0)) x1 3)) x1 5)) x1 7)) x0 11 ((ju (ju (ju (ju σ x0 0 (σ x1 0)) x0 3 ((ju σ x0 0 (σ x1 0)) x1 3)) x0 5 ((ju (ju σ x0 0 (σ x1 0)) x0 3 ((ju σ x0 0 (σ x1 0)) x1 3)) x1 5)) x0 7 ((ju (ju (ju σ x0 0 (σ x1 0)) x0 3 ((ju σ x0 0 (σ x1 0)) x1 3)) x0 5 ((ju (ju σ x0 0 (σ x1 0)) x0 3 ((ju σ x0 0 (σ x1 0)) x1 3)) x1 5)) x1 7)) x1 11)) (G.2.2 x1 1) 0 (G.2.2 x0 1) 0 26) (G.2.2 x1 10) 0 (G.2.2 x0 10) 0 26) (G.2.2 x1 2) 0 (G.2.2 x0 2) 0 26) (G.2.2 x1 9) 0 (G.2.2 x0 9) 0 20) (fun (r1 : Int) (σ1 : jH) =>
  (G.2.1 x0).1 = 15 ∧
  (G.2.1 x1).1 = 15 ∧
  (G.2.1 (G.2.2 x0 6)).1 = 12 ∧
  cN C.1 d m_KeyRow_copyFrom [vR (G.2.2 x0 6), vR (G.2.2 x1 6)] G σ1 (fun (r2 : Int) (σ2 : jH) =>
  (G.2.1 x0).1 = 15 ∧
  (G.2.1 x1).1 = 15 ∧
  (G.2.1 (G.2.2 x0 8)).1 = 12 ∧
  cN C.1 d m_KeyRow_copyFrom [vR (G.2.2 x0 8), vR (G.2.2 x1 8)] G σ2 (fun (r3 : Int) (σ3 : jH) =>
  RT 0 G σ3)))) :
  jwp C d mc ms RT k_Rules_copyFrom j0 q_Rules_copyFrom P 68 0 [some (vR x0), some (vR x1)] [] G σ cs ss := h

def q_Image_lineCount : List (Nat × List Bool) := []
set_option maxRecDepth 20000 in
theorem b_Image_lineCount_0 {C : jC} {d mc ms : Nat} {RT : Int → jG → jH → Prop} {P : jK} {G : jG} {σ : jH} {cs ss : Nat} {x0 : Int} {x1 : Int} (h :
  cN C.1 d m_WordPlaces_isEdition [vI x1] G σ (fun (r1 : Int) (σ1 : jH) =>
  ((r1 = 0 →
    RT 0 G σ1) ∧
  (r1 ≠ 0 →
    (G.2.1 x0).1 = 10 ∧
    (G.2.1 (G.2.2 x0 5)).1 = 1 ∧ (0 : Int) ≤ x1 ∧ x1 < (G.2.1 (G.2.2 x0 5)).2 ∧
    RT (σ1 (G.2.2 x0 5) x1) G σ1)))) :
  jwp C d mc ms RT k_Image_lineCount j0 q_Image_lineCount P 9 0 [some (vR x0), some (vI x1)] [] G σ cs ss := h

def q_Image_wordCountWith : List (Nat × List Bool) := [(27, [true, true, true, true, true, true, true, true, true, false, false]), (72, [true, true, true, true, true, true, true, true, true, true, false]), (93, [true, true, true, true, true, true, false, false, true, true, false])]
set_option maxRecDepth 20000 in
theorem b_Image_wordCountWith_0 {C : jC} {d mc ms : Nat} {RT : Int → jG → jH → Prop} {P : jK} {G : jG} {σ : jH} {cs ss : Nat} {x0 : Int} {x1 : Int} {x2 : Int} {x3 : Int} {x4 : Int} (h :
  (G.2.1 x0).1 = 10 ∧
  cN C.1 d m_Image_lineCount [vR x0, vI x1] G σ (fun (r1 : Int) (σ1 : jH) =>
  1 ≤ d ∧
  1 ≤ d ∧
  P 27 [some (vR x0), some (vI x1), some (vI x2), some (vR x3), some (vI x4), some (vI (min 40 (max r1 (w32 (x2 + 1))))), some (vI 0), some (vI 0), some (vI 0), none, none] [] G σ1 cs ss)) :
  jwp C d mc ms RT k_Image_wordCountWith j0 q_Image_wordCountWith P 16 0 [some (vR x0), some (vI x1), some (vI x2), some (vR x3), some (vI x4), none, none, none, none, none, none] [] G σ cs ss := h
set_option maxRecDepth 20000 in
theorem b_Image_wordCountWith_27 {C : jC} {d mc ms : Nat} {RT : Int → jG → jH → Prop} {P : jK} {G : jG} {σ : jH} {cs ss : Nat} {x0 : Int} {x1 : Int} {x2 : Int} {x3 : Int} {x4 : Int} {x5 : Int} {x6 : Int} {x7 : Int} {x8 : Int} (h :
  ((x5 ≤ x8 →
    RT x6 G σ) ∧
  (x8 < x5 →
    cN C.1 d m_WordPlaces_isEdition [vI x1] G σ (fun (r1 : Int) (σ1 : jH) =>
    ((r1 = 0 →
      RT x6 G σ1) ∧
    (r1 ≠ 0 →
      ((x8 ≠ x2 →
        (G.2.1 x0).1 = 10 ∧
        (G.2.1 (G.2.2 x0 3)).1 = 1 ∧ (0 : Int) ≤ (w32 ((w32 (x1 * 40)) + x8)) ∧ (w32 ((w32 (x1 * 40)) + x8)) < (G.2.1 (G.2.2 x0 3)).2 ∧
        P 72 [some (vR x0), some (vI x1), some (vI x2), some (vR x3), some (vI x4), some (vI x5), some (vI x6), some (vI x7), some (vI x8), some (vI (w32 ((w32 (x1 * 40)) + x8))), none] [vI (σ1 (G.2.2 x0 3) (w32 ((w32 (x1 * 40)) + x8)))] G σ1 cs ss) ∧
      (x8 = x2 →
        cN C.1 d m_Image_runsIn [vR x3, vI x4] G σ1 (fun (r2 : Int) (σ2 : jH) =>
        P 72 [some (vR x0), some (vI x1), some (vI x2), some (vR x3), some (vI x4), some (vI x5), some (vI x6), some (vI x7), some (vI x8), some (vI (w32 ((w32 (x1 * 40)) + x8))), none] [vI r2] G σ2 cs ss))))))))) :
  jwp C d mc ms RT k_Image_wordCountWith j0 q_Image_wordCountWith P 19 27 [some (vR x0), some (vI x1), some (vI x2), some (vR x3), some (vI x4), some (vI x5), some (vI x6), some (vI x7), some (vI x8), none, none] [] G σ cs ss := h
set_option maxRecDepth 20000 in
theorem b_Image_wordCountWith_72 {C : jC} {d mc ms : Nat} {RT : Int → jG → jH → Prop} {P : jK} {G : jG} {σ : jH} {cs ss : Nat} {x0 : Int} {x1 : Int} {x2 : Int} {x3 : Int} {x4 : Int} {x5 : Int} {x6 : Int} {x7 : Int} {x8 : Int} {x9 : Int} {s0 : Int} (h :
  ((x7 = 0 →
    P 93 [some (vR x0), some (vI x1), some (vI x2), some (vR x3), some (vI x4), some (vI x5), none, none, some (vI x8), some (vI x9), none] [vI 0, vI s0, vI x6] G σ cs ss) ∧
  (x7 ≠ 0 →
    ((s0 ≤ 0 →
      P 93 [some (vR x0), some (vI x1), some (vI x2), some (vR x3), some (vI x4), some (vI x5), none, none, some (vI x8), some (vI x9), none] [vI 0, vI s0, vI x6] G σ cs ss) ∧
    ((0 : Int) < s0 →
      P 93 [some (vR x0), some (vI x1), some (vI x2), some (vR x3), some (vI x4), some (vI x5), none, none, some (vI x8), some (vI x9), none] [vI 1, vI s0, vI x6] G σ cs ss))))) :
  jwp C d mc ms RT k_Image_wordCountWith j0 q_Image_wordCountWith P 9 72 [some (vR x0), some (vI x1), some (vI x2), some (vR x3), some (vI x4), some (vI x5), some (vI x6), some (vI x7), some (vI x8), some (vI x9), none] [vI s0] G σ cs ss := h
set_option maxRecDepth 20000 in
theorem b_Image_wordCountWith_93 {C : jC} {d mc ms : Nat} {RT : Int → jG → jH → Prop} {P : jK} {G : jG} {σ : jH} {cs ss : Nat} {x0 : Int} {x1 : Int} {x2 : Int} {x3 : Int} {x4 : Int} {x5 : Int} {x8 : Int} {x9 : Int} {s0 : Int} {s1 : Int} {s2 : Int} (h :
  ((x8 ≠ x2 →
    (G.2.1 x0).1 = 10 ∧
    (G.2.1 (G.2.2 x0 4)).1 = 2 ∧ (0 : Int) ≤ x9 ∧ x9 < (G.2.1 (G.2.2 x0 4)).2 ∧
    (((σ (G.2.2 x0 4) x9) = 0 →
      P 27 [some (vR x0), some (vI x1), some (vI x2), some (vR x3), some (vI x4), some (vI x5), some (vI (w32 (s0 + (w32 (s1 - s2))))), some (vI 0), some (vI (w32 (x8 + 1))), none, none] [] G σ cs ss) ∧
    ((σ (G.2.2 x0 4) x9) ≠ 0 →
      P 27 [some (vR x0), some (vI x1), some (vI x2), some (vR x3), some (vI x4), some (vI x5), some (vI (w32 (s0 + (w32 (s1 - s2))))), some (vI 1), some (vI (w32 (x8 + 1))), none, none] [] G σ cs ss))) ∧
  (x8 = x2 →
    cN C.1 d m_Image_endsInDash [vR x3, vI x4] G σ (fun (r1 : Int) (σ1 : jH) =>
    P 27 [some (vR x0), some (vI x1), some (vI x2), some (vR x3), some (vI x4), some (vI x5), some (vI (w32 (s0 + (w32 (s1 - s2))))), some (vI r1), some (vI (w32 (x8 + 1))), none, none] [] G σ1 cs ss)))) :
  jwp C d mc ms RT k_Image_wordCountWith j0 q_Image_wordCountWith P 16 93 [some (vR x0), some (vI x1), some (vI x2), some (vR x3), some (vI x4), some (vI x5), none, none, some (vI x8), some (vI x9), none] [vI s2, vI s1, vI s0] G σ cs ss := h

def q_Image_runsIn : List (Nat × List Bool) := [(7, [true, true, true, true, true, false])]
set_option maxRecDepth 20000 in
theorem b_Image_runsIn_0 {C : jC} {d mc ms : Nat} {RT : Int → jG → jH → Prop} {P : jK} {G : jG} {σ : jH} {cs ss : Nat} {x0 : Int} {x1 : Int} (h :
  P 7 [some (vR x0), some (vI x1), some (vI 0), some (vI 0), some (vI 0), none] [] G σ cs ss) :
  jwp C d mc ms RT k_Image_runsIn j0 q_Image_runsIn P 6 0 [some (vR x0), some (vI x1), none, none, none, none] [] G σ cs ss := h
set_option maxRecDepth 20000 in
theorem b_Image_runsIn_7 {C : jC} {d mc ms : Nat} {RT : Int → jG → jH → Prop} {P : jK} {G : jG} {σ : jH} {cs ss : Nat} {x0 : Int} {x1 : Int} {x2 : Int} {x3 : Int} {x4 : Int} (h :
  ((x1 ≤ x4 →
    RT x2 G σ) ∧
  (x4 < x1 →
    (1 ≤ (G.2.1 x0).1 ∧ (G.2.1 x0).1 ≤ 7) ∧
    (((G.2.1 x0).2 ≤ x4 →
      RT x2 G σ) ∧
    (x4 < (G.2.1 x0).2 →
      (G.2.1 x0).1 = 2 ∧ (0 : Int) ≤ x4 ∧ x4 < (G.2.1 x0).2 ∧
      cN C.1 d m_WordPlaces_isLetter [vI (σ x0 x4)] G σ (fun (r1 : Int) (σ1 : jH) =>
      ((r1 = 0 →
        P 7 [some (vR x0), some (vI x1), some (vI (w32 (x2 + 0))), some (vI r1), some (vI (w32 (x4 + 1))), none] [] G σ1 cs ss) ∧
      (r1 ≠ 0 →
        ((x3 ≠ 0 →
          P 7 [some (vR x0), some (vI x1), some (vI (w32 (x2 + 0))), some (vI r1), some (vI (w32 (x4 + 1))), none] [] G σ1 cs ss) ∧
        (x3 = 0 →
          P 7 [some (vR x0), some (vI x1), some (vI (w32 (x2 + 1))), some (vI r1), some (vI (w32 (x4 + 1))), none] [] G σ1 cs ss)))))))))) :
  jwp C d mc ms RT k_Image_runsIn j0 q_Image_runsIn P 25 7 [some (vR x0), some (vI x1), some (vI x2), some (vI x3), some (vI x4), none] [] G σ cs ss := h

def q_Image_endsInDash : List (Nat × List Bool) := []
set_option maxRecDepth 20000 in
theorem b_Image_endsInDash_0 {C : jC} {d mc ms : Nat} {RT : Int → jG → jH → Prop} {P : jK} {G : jG} {σ : jH} {cs ss : Nat} {x0 : Int} {x1 : Int} (h :
  ((x1 < 2 →
    ((0 : Int) = 0 ∨ (0 : Int) = 1) ∧ RT 0 G σ) ∧
  ((2 : Int) ≤ x1 →
    (1 ≤ (G.2.1 x0).1 ∧ (G.2.1 x0).1 ≤ 7) ∧
    (((G.2.1 x0).2 < x1 →
      ((0 : Int) = 0 ∨ (0 : Int) = 1) ∧ RT 0 G σ) ∧
    (x1 ≤ (G.2.1 x0).2 →
      (G.2.1 x0).1 = 2 ∧ (0 : Int) ≤ (w32 (x1 - 1)) ∧ (w32 (x1 - 1)) < (G.2.1 x0).2 ∧
      (((σ x0 (w32 (x1 - 1))) ≠ 45 →
        ((0 : Int) = 0 ∨ (0 : Int) = 1) ∧ RT 0 G σ) ∧
      ((σ x0 (w32 (x1 - 1))) = 45 →
        (G.2.1 x0).1 = 2 ∧ (0 : Int) ≤ (w32 (x1 - 2)) ∧ (w32 (x1 - 2)) < (G.2.1 x0).2 ∧
        cN C.1 d m_WordPlaces_isLetter [vI (σ x0 (w32 (x1 - 2)))] G σ (fun (r1 : Int) (σ1 : jH) =>
        ((r1 = 0 →
          ((0 : Int) = 0 ∨ (0 : Int) = 1) ∧ RT 0 G σ1) ∧
        (r1 ≠ 0 →
          ((1 : Int) = 0 ∨ (1 : Int) = 1) ∧ RT 1 G σ1)))))))))) :
  jwp C d mc ms RT k_Image_endsInDash j0 q_Image_endsInDash P 24 0 [some (vR x0), some (vI x1)] [] G σ cs ss := h

def q_Image_putLine : List (Nat × List Bool) := [(103, [true, true, true, false, false, false])]
set_option maxRecDepth 20000 in
theorem b_Image_putLine_0 {C : jC} {d mc ms : Nat} {RT : Int → jG → jH → Prop} {P : jK} {G : jG} {σ : jH} {cs ss : Nat} {x0 : Int} {x1 : Int} {x2 : Int} {x3 : Int} {x4 : Int} (h :
  cN C.1 d m_WordPlaces_isEdition [vI x1] G σ (fun (r1 : Int) (σ1 : jH) =>
  ((r1 = 0 →
    RT 0 G σ1) ∧
  (r1 ≠ 0 →
    ((x2 < 0 →
      RT 0 G σ1) ∧
    ((0 : Int) ≤ x2 →
      (((40 : Int) ≤ x2 →
        RT 0 G σ1) ∧
      (x2 < 40 →
        ((x4 < 0 →
          RT 0 G σ1) ∧
        ((0 : Int) ≤ x4 →
          (((60 : Int) < x4 →
            RT 0 G σ1) ∧
          (x4 ≤ 60 →
            (1 ≤ (G.2.1 x3).1 ∧ (G.2.1 x3).1 ≤ 7) ∧
            ((x4 ≤ (G.2.1 x3).2 →
              (G.2.1 x0).1 = 10 ∧
              1 ≤ d ∧ (G.2.1 x3).1 = 2 ∧ (G.2.1 (G.2.2 x0 1)).1 = 2 ∧ (0 : Int) ≤ 0 ∧ (0 : Int) ≤ (w32 ((w32 ((w32 (x1 * 40)) + x2)) * 60)) ∧ (0 : Int) ≤ x4 ∧ 0 + x4 ≤ (G.2.1 x3).2 ∧ (w32 ((w32 ((w32 (x1 * 40)) + x2)) * 60)) + x4 ≤ (G.2.1 (G.2.2 x0 1)).2 ∧
              (G.2.1 x0).1 = 10 ∧
              (G.2.1 (G.2.2 x0 2)).1 = 1 ∧ (0 : Int) ≤ (w32 ((w32 (x1 * 40)) + x2)) ∧ (w32 ((w32 (x1 * 40)) + x2)) < (G.2.1 (G.2.2 x0 2)).2 ∧
              (G.2.1 x0).1 = 10 ∧
              cN C.1 d m_Image_runsIn [vR x3, vI x4] G (ju (jcpy σ1 x3 0 (G.2.2 x0 1) (w32 ((w32 ((w32 (x1 * 40)) + x2)) * 60)) x4) (G.2.2 x0 2) (w32 ((w32 (x1 * 40)) + x2)) x4) (fun (r2 : Int) (σ2 : jH) =>
              (G.2.1 (G.2.2 x0 3)).1 = 1 ∧ (0 : Int) ≤ (w32 ((w32 (x1 * 40)) + x2)) ∧ (w32 ((w32 (x1 * 40)) + x2)) < (G.2.1 (G.2.2 x0 3)).2 ∧
              (G.2.1 x0).1 = 10 ∧
              cN C.1 d m_Image_endsInDash [vR x3, vI x4] G (ju σ2 (G.2.2 x0 3) (w32 ((w32 (x1 * 40)) + x2)) r2) (fun (r3 : Int) (σ3 : jH) =>
              ((r3 = 0 →
                P 103 [some (vR x0), some (vI x1), some (vI x2), none, none, none] [vI 0, vI (w32 ((w32 (x1 * 40)) + x2)), vR (G.2.2 x0 4)] G σ3 cs ss) ∧
              (r3 ≠ 0 →
                P 103 [some (vR x0), some (vI x1), some (vI x2), none, none, none] [vI 1, vI (w32 ((w32 (x1 * 40)) + x2)), vR (G.2.2 x0 4)] G σ3 cs ss))))) ∧
            ((G.2.1 x3).2 < x4 →
              RT 0 G σ1)))))))))))))) :
  jwp C d mc ms RT k_Image_putLine j0 q_Image_putLine P 53 0 [some (vR x0), some (vI x1), some (vI x2), some (vR x3), some (vI x4), none] [] G σ cs ss := h
set_option maxRecDepth 20000 in
theorem b_Image_putLine_103 {C : jC} {d mc ms : Nat} {RT : Int → jG → jH → Prop} {P : jK} {G : jG} {σ : jH} {cs ss : Nat} {x0 : Int} {x1 : Int} {x2 : Int} {s0 : Int} {s1 : Int} {s2 : Int} (h :
  (G.2.1 s0).1 = 2 ∧ (0 : Int) ≤ s1 ∧ s1 < (G.2.1 s0).2 ∧
  (G.2.1 x0).1 = 10 ∧
  (G.2.1 x0).1 = 10 ∧
  (G.2.1 (G.2.2 x0 5)).1 = 1 ∧ (0 : Int) ≤ x1 ∧ x1 < (G.2.1 (G.2.2 x0 5)).2 ∧
  1 ≤ d ∧
  (G.2.1 (G.2.2 x0 5)).1 = 1 ∧ (0 : Int) ≤ x1 ∧ x1 < (G.2.1 (G.2.2 x0 5)).2 ∧
  RT 0 G (ju (ju σ s0 s1 (w8 (w8 s2))) (G.2.2 x0 5) x1 (max ((ju σ s0 s1 (w8 (w8 s2))) (G.2.2 x0 5) x1) (w32 (x2 + 1))))) :
  jwp C d mc ms RT k_Image_putLine j0 q_Image_putLine P 15 103 [some (vR x0), some (vI x1), some (vI x2), none, none, none] [vI s2, vI s1, vR s0] G σ cs ss := h

def q_Image_wordCount : List (Nat × List Bool) := [(4, [true, true, true, true])]
set_option maxRecDepth 20000 in
theorem b_Image_wordCount_0 {C : jC} {d mc ms : Nat} {RT : Int → jG → jH → Prop} {P : jK} {G : jG} {σ : jH} {cs ss : Nat} {x0 : Int} {x1 : Int} (h :
  P 4 [some (vR x0), some (vI x1), some (vI 0), some (vI 0)] [] G σ cs ss) :
  jwp C d mc ms RT k_Image_wordCount j0 q_Image_wordCount P 4 0 [some (vR x0), some (vI x1), none, none] [] G σ cs ss := h
set_option maxRecDepth 20000 in
theorem b_Image_wordCount_4 {C : jC} {d mc ms : Nat} {RT : Int → jG → jH → Prop} {P : jK} {G : jG} {σ : jH} {cs ss : Nat} {x0 : Int} {x1 : Int} {x2 : Int} {x3 : Int} (h :
  (G.2.1 x0).1 = 10 ∧
  cN C.1 d m_Image_lineCount [vR x0, vI x1] G σ (fun (r1 : Int) (σ1 : jH) =>
  ((r1 ≤ x3 →
    RT x2 G σ1) ∧
  (x3 < r1 →
    (((40 : Int) ≤ x3 →
      RT x2 G σ1) ∧
    (x3 < 40 →
      (G.2.1 x0).1 = 10 ∧
      (G.2.1 (G.2.2 x0 3)).1 = 1 ∧ (0 : Int) ≤ (w32 ((w32 (x1 * 40)) + x3)) ∧ (w32 ((w32 (x1 * 40)) + x3)) < (G.2.1 (G.2.2 x0 3)).2 ∧
      (G.2.1 x0).1 = 10 ∧
      cN C.1 d m_Image_isCut [vR x0, vI x1, vI x3] G σ1 (fun (r2 : Int) (σ2 : jH) =>
      ((r2 = 0 →
        P 4 [some (vR x0), some (vI x1), some (vI (w32 (x2 + (w32 ((σ1 (G.2.2 x0 3) (w32 ((w32 (x1 * 40)) + x3))) - 0))))), some (vI (w32 (x3 + 1)))] [] G σ2 cs ss) ∧
      (r2 ≠ 0 →
        P 4 [some (vR x0), some (vI x1), some (vI (w32 (x2 + (w32 ((σ1 (G.2.2 x0 3) (w32 ((w32 (x1 * 40)) + x3))) - 1))))), some (vI (w32 (x3 + 1)))] [] G σ2 cs ss))))))))) :
  jwp C d mc ms RT k_Image_wordCount j0 q_Image_wordCount P 29 4 [some (vR x0), some (vI x1), some (vI x2), some (vI x3)] [] G σ cs ss := h

def q_Image_isCut : List (Nat × List Bool) := []
set_option maxRecDepth 20000 in
theorem b_Image_isCut_0 {C : jC} {d mc ms : Nat} {RT : Int → jG → jH → Prop} {P : jK} {G : jG} {σ : jH} {cs ss : Nat} {x0 : Int} {x1 : Int} {x2 : Int} (h :
  cN C.1 d m_WordPlaces_isEdition [vI x1] G σ (fun (r1 : Int) (σ1 : jH) =>
  ((r1 = 0 →
    ((0 : Int) = 0 ∨ (0 : Int) = 1) ∧ RT 0 G σ1) ∧
  (r1 ≠ 0 →
    ((x2 < 0 →
      ((0 : Int) = 0 ∨ (0 : Int) = 1) ∧ RT 0 G σ1) ∧
    ((0 : Int) ≤ x2 →
      (G.2.1 x0).1 = 10 ∧
      (G.2.1 (G.2.2 x0 5)).1 = 1 ∧ (0 : Int) ≤ x1 ∧ x1 < (G.2.1 (G.2.2 x0 5)).2 ∧
      (((σ1 (G.2.2 x0 5) x1) ≤ (w32 (x2 + 1)) →
        ((0 : Int) = 0 ∨ (0 : Int) = 1) ∧ RT 0 G σ1) ∧
      ((w32 (x2 + 1)) < (σ1 (G.2.2 x0 5) x1) →
        (((w32 (x2 + 1)) < 40 →
          (G.2.1 x0).1 = 10 ∧
          (G.2.1 (G.2.2 x0 4)).1 = 2 ∧ (0 : Int) ≤ (w32 ((w32 (x1 * 40)) + x2)) ∧ (w32 ((w32 (x1 * 40)) + x2)) < (G.2.1 (G.2.2 x0 4)).2 ∧
          (((σ1 (G.2.2 x0 4) (w32 ((w32 (x1 * 40)) + x2))) = 0 →
            ((0 : Int) = 0 ∨ (0 : Int) = 1) ∧ RT 0 G σ1) ∧
          ((σ1 (G.2.2 x0 4) (w32 ((w32 (x1 * 40)) + x2))) ≠ 0 →
            (G.2.1 x0).1 = 10 ∧
            (G.2.1 (G.2.2 x0 3)).1 = 1 ∧ (0 : Int) ≤ (w32 ((w32 ((w32 (x1 * 40)) + x2)) + 1)) ∧ (w32 ((w32 ((w32 (x1 * 40)) + x2)) + 1)) < (G.2.1 (G.2.2 x0 3)).2 ∧
            (((σ1 (G.2.2 x0 3) (w32 ((w32 ((w32 (x1 * 40)) + x2)) + 1))) ≤ 0 →
              ((0 : Int) = 0 ∨ (0 : Int) = 1) ∧ RT 0 G σ1) ∧
            ((0 : Int) < (σ1 (G.2.2 x0 3) (w32 ((w32 ((w32 (x1 * 40)) + x2)) + 1))) →
              ((1 : Int) = 0 ∨ (1 : Int) = 1) ∧ RT 1 G σ1))))) ∧
        ((40 : Int) ≤ (w32 (x2 + 1)) →
          ((0 : Int) = 0 ∨ (0 : Int) = 1) ∧ RT 0 G σ1)))))))))) :
  jwp C d mc ms RT k_Image_isCut j0 q_Image_isCut P 39 0 [some (vR x0), some (vI x1), some (vI x2), none] [] G σ cs ss := h

def q_Image_lengthAt : List (Nat × List Bool) := []
set_option maxRecDepth 20000 in
theorem b_Image_lengthAt_0 {C : jC} {d mc ms : Nat} {RT : Int → jG → jH → Prop} {P : jK} {G : jG} {σ : jH} {cs ss : Nat} {x0 : Int} {x1 : Int} (h :
  ((x1 < 0 →
    RT 0 G σ) ∧
  ((0 : Int) ≤ x1 →
    (((80 : Int) ≤ x1 →
      RT 0 G σ) ∧
    (x1 < 80 →
      (G.2.1 x0).1 = 10 ∧
      (G.2.1 (G.2.2 x0 2)).1 = 1 ∧ (0 : Int) ≤ x1 ∧ x1 < (G.2.1 (G.2.2 x0 2)).2 ∧
      RT (σ (G.2.2 x0 2) x1) G σ))))) :
  jwp C d mc ms RT k_Image_lengthAt j0 q_Image_lengthAt P 11 0 [some (vR x0), some (vI x1)] [] G σ cs ss := h

def q_Image_byteAt : List (Nat × List Bool) := []
set_option maxRecDepth 20000 in
theorem b_Image_byteAt_0 {C : jC} {d mc ms : Nat} {RT : Int → jG → jH → Prop} {P : jK} {G : jG} {σ : jH} {cs ss : Nat} {x0 : Int} {x1 : Int} (h :
  ((x1 < 0 →
    RT 32 G σ) ∧
  ((0 : Int) ≤ x1 →
    (((4800 : Int) ≤ x1 →
      RT 32 G σ) ∧
    (x1 < 4800 →
      (G.2.1 x0).1 = 10 ∧
      (G.2.1 (G.2.2 x0 1)).1 = 2 ∧ (0 : Int) ≤ x1 ∧ x1 < (G.2.1 (G.2.2 x0 1)).2 ∧
      RT (σ (G.2.2 x0 1) x1) G σ))))) :
  jwp C d mc ms RT k_Image_byteAt j0 q_Image_byteAt P 11 0 [some (vR x0), some (vI x1)] [] G σ cs ss := h

def q_Rules_isStop : List (Nat × List Bool) := [(3, [true, true, false, true, false, true])]
set_option maxRecDepth 20000 in
theorem b_Rules_isStop_0 {C : jC} {d mc ms : Nat} {RT : Int → jG → jH → Prop} {P : jK} {G : jG} {σ : jH} {cs ss : Nat} {x0 : Int} {x1 : Int} {x3 : Int} (h :
  P 3 [some (vR x0), some (vL x1), none, some (vL x3), none, some (vI 0)] [] G σ cs ss) :
  jwp C d mc ms RT k_Rules_isStop j0 q_Rules_isStop P 2 0 [some (vR x0), some (vL x1), none, some (vL x3), none, none] [] G σ cs ss := h
set_option maxRecDepth 20000 in
theorem b_Rules_isStop_3 {C : jC} {d mc ms : Nat} {RT : Int → jG → jH → Prop} {P : jK} {G : jG} {σ : jH} {cs ss : Nat} {x0 : Int} {x1 : Int} {x3 : Int} {x5 : Int} (h :
  (G.2.1 x0).1 = 15 ∧
  (((σ x0 5) ≤ x5 →
    ((0 : Int) = 0 ∨ (0 : Int) = 1) ∧ RT 0 G σ) ∧
  (x5 < (σ x0 5) →
    (G.2.1 x0).1 = 15 ∧
    (G.2.1 (G.2.2 x0 4)).1 = 12 ∧
    cN C.1 d m_KeyRow_holds [vR (G.2.2 x0 4), vI x5, vL x1, vL x3] G σ (fun (r1 : Int) (σ1 : jH) =>
    ((r1 = 0 →
      P 3 [some (vR x0), some (vL x1), none, some (vL x3), none, some (vI (w32 (x5 + 1)))] [] G σ1 cs ss) ∧
    (r1 ≠ 0 →
      ((1 : Int) = 0 ∨ (1 : Int) = 1) ∧ RT 1 G σ1)))))) :
  jwp C d mc ms RT k_Rules_isStop j0 q_Rules_isStop P 13 3 [some (vR x0), some (vL x1), none, some (vL x3), none, some (vI x5)] [] G σ cs ss := h

def q_Rules_rootOf : List (Nat × List Bool) := [(3, [true, true, false, true, false, true, false]), (22, [true, true, false, true, false, true, true])]
set_option maxRecDepth 20000 in
theorem b_Rules_rootOf_0 {C : jC} {d mc ms : Nat} {RT : Int → jG → jH → Prop} {P : jK} {G : jG} {σ : jH} {cs ss : Nat} {x0 : Int} {x1 : Int} {x3 : Int} (h :
  P 3 [some (vR x0), some (vL x1), none, some (vL x3), none, some (vI 0), none] [] G σ cs ss) :
  jwp C d mc ms RT k_Rules_rootOf j0 q_Rules_rootOf P 2 0 [some (vR x0), some (vL x1), none, some (vL x3), none, none, none] [] G σ cs ss := h
set_option maxRecDepth 20000 in
theorem b_Rules_rootOf_3 {C : jC} {d mc ms : Nat} {RT : Int → jG → jH → Prop} {P : jK} {G : jG} {σ : jH} {cs ss : Nat} {x0 : Int} {x1 : Int} {x3 : Int} {x5 : Int} (h :
  (G.2.1 x0).1 = 15 ∧
  (((σ x0 7) ≤ x5 →
    RT (-1) G σ) ∧
  (x5 < (σ x0 7) →
    (((20 : Int) ≤ x5 →
      RT (-1) G σ) ∧
    (x5 < 20 →
      P 22 [some (vR x0), some (vL x1), none, some (vL x3), none, some (vI x5), some (vI 0)] [] G σ cs ss))))) :
  jwp C d mc ms RT k_Rules_rootOf j0 q_Rules_rootOf P 9 3 [some (vR x0), some (vL x1), none, some (vL x3), none, some (vI x5), none] [] G σ cs ss := h
set_option maxRecDepth 20000 in
theorem b_Rules_rootOf_22 {C : jC} {d mc ms : Nat} {RT : Int → jG → jH → Prop} {P : jK} {G : jG} {σ : jH} {cs ss : Nat} {x0 : Int} {x1 : Int} {x3 : Int} {x5 : Int} {x6 : Int} (h :
  (G.2.1 x0).1 = 15 ∧
  (G.2.1 (G.2.2 x0 9)).1 = 1 ∧ (0 : Int) ≤ x5 ∧ x5 < (G.2.1 (G.2.2 x0 9)).2 ∧
  (((σ (G.2.2 x0 9) x5) ≤ x6 →
    P 3 [some (vR x0), some (vL x1), none, some (vL x3), none, some (vI (w32 (x5 + 1))), none] [] G σ cs ss) ∧
  (x6 < (σ (G.2.2 x0 9) x5) →
    (G.2.1 x0).1 = 15 ∧
    (G.2.1 (G.2.2 x0 8)).1 = 12 ∧
    cN C.1 d m_KeyRow_holds [vR (G.2.2 x0 8), vI (w32 ((w32 (x5 * 4)) + x6)), vL x1, vL x3] G σ (fun (r1 : Int) (σ1 : jH) =>
    ((r1 = 0 →
      P 22 [some (vR x0), some (vL x1), none, some (vL x3), none, some (vI x5), some (vI (w32 (x6 + 1)))] [] G σ1 cs ss) ∧
    (r1 ≠ 0 →
      RT x5 G σ1)))))) :
  jwp C d mc ms RT k_Rules_rootOf j0 q_Rules_rootOf P 19 22 [some (vR x0), some (vL x1), none, some (vL x3), none, some (vI x5), some (vI x6)] [] G σ cs ss := h

def q_Rules_rootNamed : List (Nat × List Bool) := [(3, [true, true, false, true, false, true])]
set_option maxRecDepth 20000 in
theorem b_Rules_rootNamed_0 {C : jC} {d mc ms : Nat} {RT : Int → jG → jH → Prop} {P : jK} {G : jG} {σ : jH} {cs ss : Nat} {x0 : Int} {x1 : Int} {x3 : Int} (h :
  P 3 [some (vR x0), some (vL x1), none, some (vL x3), none, some (vI 0)] [] G σ cs ss) :
  jwp C d mc ms RT k_Rules_rootNamed j0 q_Rules_rootNamed P 2 0 [some (vR x0), some (vL x1), none, some (vL x3), none, none] [] G σ cs ss := h
set_option maxRecDepth 20000 in
theorem b_Rules_rootNamed_3 {C : jC} {d mc ms : Nat} {RT : Int → jG → jH → Prop} {P : jK} {G : jG} {σ : jH} {cs ss : Nat} {x0 : Int} {x1 : Int} {x3 : Int} {x5 : Int} (h :
  (G.2.1 x0).1 = 15 ∧
  (((σ x0 7) ≤ x5 →
    RT (-1) G σ) ∧
  (x5 < (σ x0 7) →
    (G.2.1 x0).1 = 15 ∧
    (G.2.1 (G.2.2 x0 6)).1 = 12 ∧
    cN C.1 d m_KeyRow_holds [vR (G.2.2 x0 6), vI x5, vL x1, vL x3] G σ (fun (r1 : Int) (σ1 : jH) =>
    ((r1 = 0 →
      P 3 [some (vR x0), some (vL x1), none, some (vL x3), none, some (vI (w32 (x5 + 1)))] [] G σ1 cs ss) ∧
    (r1 ≠ 0 →
      RT x5 G σ1)))))) :
  jwp C d mc ms RT k_Rules_rootNamed j0 q_Rules_rootNamed P 13 3 [some (vR x0), some (vL x1), none, some (vL x3), none, some (vI x5)] [] G σ cs ss := h

def q_Likeness_refresh : List (Nat × List Bool) := [(37, [true, true, true, true])]
set_option maxRecDepth 20000 in
theorem b_Likeness_refresh_0 {C : jC} {d mc ms : Nat} {RT : Int → jG → jH → Prop} {P : jK} {G : jG} {σ : jH} {cs ss : Nat} {x0 : Int} {x1 : Int} {x2 : Int} (h :
  (G.2.1 x0).1 = 13 ∧
  (((σ x0 0) = 0 →
    (G.2.1 x0).1 = 13 ∧
    cN C.1 d m_Arrays_fill3 [vR (G.2.2 x0 3), vL 0] G σ (fun (r1 : Int) (σ1 : jH) =>
    (G.2.1 x0).1 = 13 ∧
    cN C.1 d m_Arrays_fill [vR (σ1 x0 5), vI 0] G σ1 (fun (r2 : Int) (σ2 : jH) =>
    (G.2.1 x1).1 = 18 ∧
    1 ≤ d ∧
    P 37 [some (vR x0), some (vR x1), some (vR x2), some (vI (w32 ((min (σ2 x1 0) 300) - 1)))] [] G σ2 cs ss))) ∧
  ((σ x0 0) ≠ 0 →
    RT 0 G σ))) :
  jwp C d mc ms RT k_Likeness_refresh j0 q_Likeness_refresh P 18 0 [some (vR x0), some (vR x1), some (vR x2), none] [] G σ cs ss := h
set_option maxRecDepth 20000 in
theorem b_Likeness_refresh_37 {C : jC} {d mc ms : Nat} {RT : Int → jG → jH → Prop} {P : jK} {G : jG} {σ : jH} {cs ss : Nat} {x0 : Int} {x1 : Int} {x2 : Int} {x3 : Int} (h :
  ((x3 < 0 →
    (G.2.1 x0).1 = 13 ∧
    (G.2.1 (σ x0 5)).1 = 1 ∧ (0 : Int) ≤ 0 ∧ 0 < (G.2.1 (σ x0 5)).2 ∧
    (G.2.1 x0).1 = 13 ∧
    (G.2.1 x0).1 = 13 ∧
    cN C.1 d m_Likeness_pairUp [vR x0, vR x1, vR x2] G (ju σ x0 1 (σ (σ x0 5) 0)) (fun (r1 : Int) (σ1 : jH) =>
    (G.2.1 x0).1 = 13 ∧
    ((1 : Int) = 0 ∨ (1 : Int) = 1) ∧
    RT 0 G (ju σ1 x0 0 1))) ∧
  ((0 : Int) ≤ x3 →
    (G.2.1 x1).1 = 18 ∧
    (G.2.1 (G.2.2 x1 5)).1 = 1 ∧ (0 : Int) ≤ x3 ∧ x3 < (G.2.1 (G.2.2 x1 5)).2 ∧
    (G.2.1 x0).1 = 13 ∧
    cN C.1 d m_Likeness_fillRow [vR x0, vI x3, vI (σ (G.2.2 x1 5) x3), vR x2] G σ (fun (r2 : Int) (σ2 : jH) =>
    P 37 [some (vR x0), some (vR x1), some (vR x2), some (vI (w32 (x3 + (-1))))] [] G σ2 cs ss)))) :
  jwp C d mc ms RT k_Likeness_refresh j0 q_Likeness_refresh P 16 37 [some (vR x0), some (vR x1), some (vR x2), some (vI x3)] [] G σ cs ss := h

def q_Likeness_fillRow : List (Nat × List Bool) := [(43, [true, true, true, true, false, true])]
set_option maxRecDepth 20000 in
theorem b_Likeness_fillRow_0 {C : jC} {d mc ms : Nat} {RT : Int → jG → jH → Prop} {P : jK} {G : jG} {σ : jH} {cs ss : Nat} {x0 : Int} {x1 : Int} {x2 : Int} {x3 : Int} (h :
  (G.2.1 x3).1 = 18 ∧
  1 ≤ d ∧
  ((x1 < 0 →
    RT 0 G σ) ∧
  ((0 : Int) ≤ x1 →
    (((300 : Int) ≤ x1 →
      RT 0 G σ) ∧
    (x1 < 300 →
      (((0 : Int) ≤ (min (σ x3 0) 300) →
        (G.2.1 x0).1 = 13 ∧
        (G.2.1 (σ x0 4)).1 = 1 ∧ (0 : Int) ≤ (min (σ x3 0) 300) ∧ (min (σ x3 0) 300) < (G.2.1 (σ x0 4)).2 ∧
        P 43 [some (vR x0), some (vI x1), some (vI x2), some (vR x3), none, some (vI (w32 ((min (σ x3 0) 300) - 1)))] [] G (ju σ (σ x0 4) (min (σ x3 0) 300) 0) cs ss) ∧
      ((min (σ x3 0) 300) < 0 →
        RT 0 G σ))))))) :
  jwp C d mc ms RT k_Likeness_fillRow j0 q_Likeness_fillRow P 21 0 [some (vR x0), some (vI x1), some (vI x2), some (vR x3), none, none] [] G σ cs ss := h
set_option maxRecDepth 20000 in
theorem b_Likeness_fillRow_43 {C : jC} {d mc ms : Nat} {RT : Int → jG → jH → Prop} {P : jK} {G : jG} {σ : jH} {cs ss : Nat} {x0 : Int} {x1 : Int} {x2 : Int} {x3 : Int} {x5 : Int} (h :
  ((x5 < 0 →
    (G.2.1 x0).1 = 13 ∧
    (G.2.1 x0).1 = 13 ∧
    (G.2.1 x0).1 = 13 ∧
    (G.2.1 x0).1 = 13 ∧
    RT 0 G (ju (ju σ x0 4 (σ x0 5)) x0 5 (σ x0 4))) ∧
  ((0 : Int) ≤ x5 →
    (G.2.1 x3).1 = 18 ∧
    (G.2.1 (G.2.2 x3 5)).1 = 1 ∧ (0 : Int) ≤ x5 ∧ x5 < (G.2.1 (G.2.2 x3 5)).2 ∧
    (((σ (G.2.2 x3 5) x5) ≠ x2 →
      (G.2.1 x0).1 = 13 ∧
      (G.2.1 (σ x0 5)).1 = 1 ∧ (0 : Int) ≤ x5 ∧ x5 < (G.2.1 (σ x0 5)).2 ∧
      (G.2.1 x0).1 = 13 ∧
      (G.2.1 (σ x0 4)).1 = 1 ∧ (0 : Int) ≤ (w32 (x5 + 1)) ∧ (w32 (x5 + 1)) < (G.2.1 (σ x0 4)).2 ∧
      (((σ (σ x0 5) x5) < (σ (σ x0 4) (w32 (x5 + 1))) →
        (G.2.1 x0).1 = 13 ∧
        (G.2.1 x0).1 = 13 ∧
        (G.2.1 (σ x0 4)).1 = 1 ∧ (0 : Int) ≤ (w32 (x5 + 1)) ∧ (w32 (x5 + 1)) < (G.2.1 (σ x0 4)).2 ∧
        (G.2.1 (σ x0 4)).1 = 1 ∧ (0 : Int) ≤ x5 ∧ x5 < (G.2.1 (σ x0 4)).2 ∧
        P 43 [some (vR x0), some (vI x1), some (vI x2), some (vR x3), none, some (vI (w32 (x5 + (-1))))] [] G (ju σ (σ x0 4) x5 (σ (σ x0 4) (w32 (x5 + 1)))) cs ss) ∧
      ((σ (σ x0 4) (w32 (x5 + 1))) ≤ (σ (σ x0 5) x5) →
        (G.2.1 x0).1 = 13 ∧
        (G.2.1 x0).1 = 13 ∧
        (G.2.1 (σ x0 5)).1 = 1 ∧ (0 : Int) ≤ x5 ∧ x5 < (G.2.1 (σ x0 5)).2 ∧
        (G.2.1 (σ x0 4)).1 = 1 ∧ (0 : Int) ≤ x5 ∧ x5 < (G.2.1 (σ x0 4)).2 ∧
        (G.2.1 x0).1 = 13 ∧
        (64 : Int) ≠ 0 ∧
        (G.2.1 (G.2.2 x0 3)).1 = 4 ∧ (0 : Int) ≤ (w32 ((w32 (x1 * 5)) + (w32 (Int.tdiv x5 64)))) ∧ (w32 ((w32 (x1 * 5)) + (w32 (Int.tdiv x5 64)))) < (G.2.1 (G.2.2 x0 3)).2 ∧
        (64 : Int) ≠ 0 ∧
        (G.2.1 (G.2.2 x0 3)).1 = 4 ∧ (0 : Int) ≤ (w32 ((w32 (x1 * 5)) + (w32 (Int.tdiv x5 64)))) ∧ (w32 ((w32 (x1 * 5)) + (w32 (Int.tdiv x5 64)))) < (G.2.1 (G.2.2 x0 3)).2 ∧
        P 43 [some (vR x0), some (vI x1), some (vI x2), some (vR x3), none, some (vI (w32 (x5 + (-1))))] [] G (ju (ju σ (σ x0 4) x5 (σ (σ x0 5) x5)) (G.2.2 x0 3) (w32 ((w32 (x1 * 5)) + (w32 (Int.tdiv x5 64)))) (jor64 ((ju σ (σ x0 4) x5 (σ (σ x0 5) x5)) (G.2.2 x0 3) (w32 ((w32 (x1 * 5)) + (w32 (Int.tdiv x5 64))))) (jshl64 1 (Int.tmod x5 64)))) cs ss))) ∧
    ((σ (G.2.2 x3 5) x5) = x2 →
      (G.2.1 x0).1 = 13 ∧
      (G.2.1 x0).1 = 13 ∧
      (G.2.1 (σ x0 5)).1 = 1 ∧ (0 : Int) ≤ (w32 (x5 + 1)) ∧ (w32 (x5 + 1)) < (G.2.1 (σ x0 5)).2 ∧
      (G.2.1 (σ x0 4)).1 = 1 ∧ (0 : Int) ≤ x5 ∧ x5 < (G.2.1 (σ x0 4)).2 ∧
      P 43 [some (vR x0), some (vI x1), some (vI x2), some (vR x3), none, some (vI (w32 (x5 + (-1))))] [] G (ju σ (σ x0 4) x5 (w32 ((σ (σ x0 5) (w32 (x5 + 1))) + 1))) cs ss))))) :
  jwp C d mc ms RT k_Likeness_fillRow j0 q_Likeness_fillRow P 48 43 [some (vR x0), some (vI x1), some (vI x2), some (vR x3), none, some (vI x5)] [] G σ cs ss := h

def q_Likeness_pairUp : List (Nat × List Bool) := [(13, [true, true, true, true, true])]
set_option maxRecDepth 20000 in
theorem b_Likeness_pairUp_0 {C : jC} {d mc ms : Nat} {RT : Int → jG → jH → Prop} {P : jK} {G : jG} {σ : jH} {cs ss : Nat} {x0 : Int} {x1 : Int} {x2 : Int} (h :
  (G.2.1 x0).1 = 13 ∧
  cN C.1 d m_Arrays_fill [vR (G.2.2 x0 2), vI (-1)] G σ (fun (r1 : Int) (σ1 : jH) =>
  P 13 [some (vR x0), some (vR x1), some (vR x2), some (vI 0), some (vI 0)] [] G σ1 cs ss)) :
  jwp C d mc ms RT k_Likeness_pairUp j0 q_Likeness_pairUp P 8 0 [some (vR x0), some (vR x1), some (vR x2), none, none] [] G σ cs ss := h
set_option maxRecDepth 20000 in
theorem b_Likeness_pairUp_13 {C : jC} {d mc ms : Nat} {RT : Int → jG → jH → Prop} {P : jK} {G : jG} {σ : jH} {cs ss : Nat} {x0 : Int} {x1 : Int} {x2 : Int} {x3 : Int} {x4 : Int} (h :
  (G.2.1 x1).1 = 18 ∧
  (((σ x1 0) ≤ x3 →
    RT 0 G σ) ∧
  (x3 < (σ x1 0) →
    (G.2.1 x2).1 = 18 ∧
    (((σ x2 0) ≤ x4 →
      RT 0 G σ) ∧
    (x4 < (σ x2 0) →
      (((300 : Int) ≤ x3 →
        RT 0 G σ) ∧
      (x3 < 300 →
        (((300 : Int) ≤ x4 →
          RT 0 G σ) ∧
        (x4 < 300 →
          (G.2.1 x1).1 = 18 ∧
          (G.2.1 (G.2.2 x1 5)).1 = 1 ∧ (0 : Int) ≤ x3 ∧ x3 < (G.2.1 (G.2.2 x1 5)).2 ∧
          (G.2.1 x2).1 = 18 ∧
          (G.2.1 (G.2.2 x2 5)).1 = 1 ∧ (0 : Int) ≤ x4 ∧ x4 < (G.2.1 (G.2.2 x2 5)).2 ∧
          (((σ (G.2.2 x1 5) x3) ≠ (σ (G.2.2 x2 5) x4) →
            (G.2.1 x0).1 = 13 ∧
            (64 : Int) ≠ 0 ∧
            (G.2.1 (G.2.2 x0 3)).1 = 4 ∧ (0 : Int) ≤ (w32 ((w32 (x3 * 5)) + (w32 (Int.tdiv x4 64)))) ∧ (w32 ((w32 (x3 * 5)) + (w32 (Int.tdiv x4 64)))) < (G.2.1 (G.2.2 x0 3)).2 ∧
            (64 : Int) ≠ 0 ∧
            (((jcmp (jand64 (jshr64 (σ (G.2.2 x0 3) (w32 ((w32 (x3 * 5)) + (w32 (Int.tdiv x4 64))))) (Int.tmod x4 64)) 1) 1) ≠ 0 →
              P 13 [some (vR x0), some (vR x1), some (vR x2), some (vI x3), some (vI (w32 (x4 + 1)))] [] G σ cs ss) ∧
            ((jcmp (jand64 (jshr64 (σ (G.2.2 x0 3) (w32 ((w32 (x3 * 5)) + (w32 (Int.tdiv x4 64))))) (Int.tmod x4 64)) 1) 1) = 0 →
              P 13 [some (vR x0), some (vR x1), some (vR x2), some (vI (w32 (x3 + 1))), some (vI x4)] [] G σ cs ss))) ∧
          ((σ (G.2.2 x1 5) x3) = (σ (G.2.2 x2 5) x4) →
            (G.2.1 x0).1 = 13 ∧
            (G.2.1 (G.2.2 x0 2)).1 = 1 ∧ (0 : Int) ≤ x3 ∧ x3 < (G.2.1 (G.2.2 x0 2)).2 ∧
            P 13 [some (vR x0), some (vR x1), some (vR x2), some (vI (w32 (x3 + 1))), some (vI (w32 (x4 + 1)))] [] G (ju σ (G.2.2 x0 2) x3 x4) cs ss))))))))))) :
  jwp C d mc ms RT k_Likeness_pairUp j0 q_Likeness_pairUp P 44 13 [some (vR x0), some (vR x1), some (vR x2), some (vI x3), some (vI x4)] [] G σ cs ss := h

def q_Image_slipAt : List (Nat × List Bool) := []
set_option maxRecDepth 20000 in
theorem b_Image_slipAt_0 {C : jC} {d mc ms : Nat} {RT : Int → jG → jH → Prop} {P : jK} {G : jG} {σ : jH} {cs ss : Nat} {x0 : Int} {x1 : Int} (h :
  RT (w32 ((w32 (x0 * 300)) + x1)) G σ) :
  jwp C d mc ms RT k_Image_slipAt j0 q_Image_slipAt P 6 0 [some (vI x0), some (vI x1)] [] G σ cs ss := h

def q_Image_slipHigh : List (Nat × List Bool) := []
set_option maxRecDepth 20000 in
theorem b_Image_slipHigh_0 {C : jC} {d mc ms : Nat} {RT : Int → jG → jH → Prop} {P : jK} {G : jG} {σ : jH} {cs ss : Nat} {x0 : Int} {x1 : Int} (h :
  ((x1 < 0 →
    RT 0 G σ) ∧
  ((0 : Int) ≤ x1 →
    (G.2.1 x0).1 = 10 ∧
    (G.2.1 (G.2.2 x0 6)).1 = 12 ∧
    (1 ≤ (G.2.1 (G.2.2 (G.2.2 x0 6) 0)).1 ∧ (G.2.1 (G.2.2 (G.2.2 x0 6) 0)).1 ≤ 7) ∧
    (((G.2.1 (G.2.2 (G.2.2 x0 6) 0)).2 ≤ x1 →
      RT 0 G σ) ∧
    (x1 < (G.2.1 (G.2.2 (G.2.2 x0 6) 0)).2 →
      (G.2.1 x0).1 = 10 ∧
      (G.2.1 (G.2.2 x0 6)).1 = 12 ∧
      (G.2.1 (G.2.2 (G.2.2 x0 6) 0)).1 = 4 ∧ (0 : Int) ≤ x1 ∧ x1 < (G.2.1 (G.2.2 (G.2.2 x0 6) 0)).2 ∧
      (G.2.1 x0).1 = 10 ∧
      (G.2.1 (G.2.2 x0 0)).1 = 15 ∧
      cN C.1 d m_Key_mapped [vL (σ (G.2.2 (G.2.2 x0 6) 0) x1), vR (G.2.2 (G.2.2 x0 0) 1)] G σ (fun (r1 : Int) (σ1 : jH) =>
      RT r1 G σ1)))))) :
  jwp C d mc ms RT k_Image_slipHigh j0 q_Image_slipHigh P 19 0 [some (vR x0), some (vI x1)] [] G σ cs ss := h

def q_Image_slipLow : List (Nat × List Bool) := []
set_option maxRecDepth 20000 in
theorem b_Image_slipLow_0 {C : jC} {d mc ms : Nat} {RT : Int → jG → jH → Prop} {P : jK} {G : jG} {σ : jH} {cs ss : Nat} {x0 : Int} {x1 : Int} (h :
  ((x1 < 0 →
    RT 0 G σ) ∧
  ((0 : Int) ≤ x1 →
    (G.2.1 x0).1 = 10 ∧
    (G.2.1 (G.2.2 x0 6)).1 = 12 ∧
    (1 ≤ (G.2.1 (G.2.2 (G.2.2 x0 6) 1)).1 ∧ (G.2.1 (G.2.2 (G.2.2 x0 6) 1)).1 ≤ 7) ∧
    (((G.2.1 (G.2.2 (G.2.2 x0 6) 1)).2 ≤ x1 →
      RT 0 G σ) ∧
    (x1 < (G.2.1 (G.2.2 (G.2.2 x0 6) 1)).2 →
      (G.2.1 x0).1 = 10 ∧
      (G.2.1 (G.2.2 x0 6)).1 = 12 ∧
      (G.2.1 (G.2.2 (G.2.2 x0 6) 1)).1 = 4 ∧ (0 : Int) ≤ x1 ∧ x1 < (G.2.1 (G.2.2 (G.2.2 x0 6) 1)).2 ∧
      (G.2.1 x0).1 = 10 ∧
      (G.2.1 (G.2.2 x0 0)).1 = 15 ∧
      cN C.1 d m_Key_mapped [vL (σ (G.2.2 (G.2.2 x0 6) 1) x1), vR (G.2.2 (G.2.2 x0 0) 1)] G σ (fun (r1 : Int) (σ1 : jH) =>
      RT r1 G σ1)))))) :
  jwp C d mc ms RT k_Image_slipLow j0 q_Image_slipLow P 19 0 [some (vR x0), some (vI x1)] [] G σ cs ss := h

def q_Image_hasSlip : List (Nat × List Bool) := []
set_option maxRecDepth 20000 in
theorem b_Image_hasSlip_0 {C : jC} {d mc ms : Nat} {RT : Int → jG → jH → Prop} {P : jK} {G : jG} {σ : jH} {cs ss : Nat} {x0 : Int} {x1 : Int} {x2 : Int} (h :
  (G.2.1 x0).1 = 10 ∧
  cN C.1 d m_Image_slipAt [vI x1, vI x2] G σ (fun (r1 : Int) (σ1 : jH) =>
  (G.2.1 (G.2.2 x0 6)).1 = 12 ∧
  cN C.1 d m_KeyRow_holds [vR (G.2.2 x0 6), vI r1, vL 0, vL 0] G σ1 (fun (r2 : Int) (σ2 : jH) =>
  ((r2 ≠ 0 →
    ((0 : Int) = 0 ∨ (0 : Int) = 1) ∧ RT 0 G σ2) ∧
  (r2 = 0 →
    ((1 : Int) = 0 ∨ (1 : Int) = 1) ∧ RT 1 G σ2))))) :
  jwp C d mc ms RT k_Image_hasSlip j0 q_Image_hasSlip P 12 0 [some (vR x0), some (vI x1), some (vI x2)] [] G σ cs ss := h

def q_Image_slipCount : List (Nat × List Bool) := [(4, [true, true, true, false]), (11, [true, true, true, true])]
set_option maxRecDepth 20000 in
theorem b_Image_slipCount_0 {C : jC} {d mc ms : Nat} {RT : Int → jG → jH → Prop} {P : jK} {G : jG} {σ : jH} {cs ss : Nat} {x0 : Int} (h :
  P 4 [some (vR x0), some (vI 0), some (vI 0), none] [] G σ cs ss) :
  jwp C d mc ms RT k_Image_slipCount j0 q_Image_slipCount P 4 0 [some (vR x0), none, none, none] [] G σ cs ss := h
set_option maxRecDepth 20000 in
theorem b_Image_slipCount_4 {C : jC} {d mc ms : Nat} {RT : Int → jG → jH → Prop} {P : jK} {G : jG} {σ : jH} {cs ss : Nat} {x0 : Int} {x1 : Int} {x2 : Int} (h :
  (((4 : Int) ≤ x2 →
    RT x1 G σ) ∧
  (x2 < 4 →
    P 11 [some (vR x0), some (vI x1), some (vI x2), some (vI 0)] [] G σ cs ss))) :
  jwp C d mc ms RT k_Image_slipCount j0 q_Image_slipCount P 5 4 [some (vR x0), some (vI x1), some (vI x2), none] [] G σ cs ss := h
set_option maxRecDepth 20000 in
theorem b_Image_slipCount_11 {C : jC} {d mc ms : Nat} {RT : Int → jG → jH → Prop} {P : jK} {G : jG} {σ : jH} {cs ss : Nat} {x0 : Int} {x1 : Int} {x2 : Int} {x3 : Int} (h :
  (((300 : Int) ≤ x3 →
    P 4 [some (vR x0), some (vI x1), some (vI (w32 (x2 + 1))), none] [] G σ cs ss) ∧
  (x3 < 300 →
    (G.2.1 x0).1 = 10 ∧
    cN C.1 d m_Image_hasSlip [vR x0, vI x2, vI x3] G σ (fun (r1 : Int) (σ1 : jH) =>
    ((r1 = 0 →
      P 11 [some (vR x0), some (vI (w32 (x1 + 0))), some (vI x2), some (vI (w32 (x3 + 1)))] [] G σ1 cs ss) ∧
    (r1 ≠ 0 →
      P 11 [some (vR x0), some (vI (w32 (x1 + 1))), some (vI x2), some (vI (w32 (x3 + 1)))] [] G σ1 cs ss)))))) :
  jwp C d mc ms RT k_Image_slipCount j0 q_Image_slipCount P 15 11 [some (vR x0), some (vI x1), some (vI x2), some (vI x3)] [] G σ cs ss := h

def q_Image_copyFrom : List (Nat × List Bool) := []
set_option maxRecDepth 20000 in
theorem b_Image_copyFrom_0 {C : jC} {d mc ms : Nat} {RT : Int → jG → jH → Prop} {P : jK} {G : jG} {σ : jH} {cs ss : Nat} {x0 : Int} {x1 : Int} (h :
  (G.2.1 x0).1 = 10 ∧
  (G.2.1 x1).1 = 10 ∧
  (G.2.1 (G.2.2 x0 0)).1 = 15 ∧
  cN C.1 d m_Rules_copyFrom [vR (G.2.2 x0 0), vR (G.2.2 x1 0)] G σ (fun (r1 : Int) (σ1 : jH) =>
  (G.2.1 x1).1 = 10 ∧
  (G.2.1 x0).1 = 10 ∧
  1 ≤ d ∧ (G.2.1 (G.2.2 x1 1)).1 = 2 ∧ (G.2.1 (G.2.2 x0 1)).1 = 2 ∧ (0 : Int) ≤ 0 ∧ (0 : Int) ≤ 0 ∧ (0 : Int) ≤ 4800 ∧ 0 + 4800 ≤ (G.2.1 (G.2.2 x1 1)).2 ∧ 0 + 4800 ≤ (G.2.1 (G.2.2 x0 1)).2 ∧
  (G.2.1 x1).1 = 10 ∧
  (G.2.1 x0).1 = 10 ∧
  1 ≤ d ∧ (G.2.1 (G.2.2 x1 2)).1 = 1 ∧ (G.2.1 (G.2.2 x0 2)).1 = 1 ∧ (0 : Int) ≤ 0 ∧ (0 : Int) ≤ 0 ∧ (0 : Int) ≤ 80 ∧ 0 + 80 ≤ (G.2.1 (G.2.2 x1 2)).2 ∧ 0 + 80 ≤ (G.2.1 (G.2.2 x0 2)).2 ∧
  (G.2.1 x1).1 = 10 ∧
  (G.2.1 x0).1 = 10 ∧
  1 ≤ d ∧ (G.2.1 (G.2.2 x1 3)).1 = 1 ∧ (G.2.1 (G.2.2 x0 3)).1 = 1 ∧ (0 : Int) ≤ 0 ∧ (0 : Int) ≤ 0 ∧ (0 : Int) ≤ 80 ∧ 0 + 80 ≤ (G.2.1 (G.2.2 x1 3)).2 ∧ 0 + 80 ≤ (G.2.1 (G.2.2 x0 3)).2 ∧
  (G.2.1 x1).1 = 10 ∧
  (G.2.1 x0).1 = 10 ∧
  1 ≤ d ∧ (G.2.1 (G.2.2 x1 4)).1 = 2 ∧ (G.2.1 (G.2.2 x0 4)).1 = 2 ∧ (0 : Int) ≤ 0 ∧ (0 : Int) ≤ 0 ∧ (0 : Int) ≤ 80 ∧ 0 + 80 ≤ (G.2.1 (G.2.2 x1 4)).2 ∧ 0 + 80 ≤ (G.2.1 (G.2.2 x0 4)).2 ∧
  (G.2.1 x1).1 = 10 ∧
  (G.2.1 x0).1 = 10 ∧
  1 ≤ d ∧ (G.2.1 (G.2.2 x1 5)).1 = 1 ∧ (G.2.1 (G.2.2 x0 5)).1 = 1 ∧ (0 : Int) ≤ 0 ∧ (0 : Int) ≤ 0 ∧ (0 : Int) ≤ 2 ∧ 0 + 2 ≤ (G.2.1 (G.2.2 x1 5)).2 ∧ 0 + 2 ≤ (G.2.1 (G.2.2 x0 5)).2 ∧
  (G.2.1 x0).1 = 10 ∧
  (G.2.1 x1).1 = 10 ∧
  (G.2.1 (G.2.2 x0 6)).1 = 12 ∧
  cN C.1 d m_KeyRow_copyFrom [vR (G.2.2 x0 6), vR (G.2.2 x1 6)] G (jcpy (jcpy (jcpy (jcpy (jcpy σ1 (G.2.2 x1 1) 0 (G.2.2 x0 1) 0 4800) (G.2.2 x1 2) 0 (G.2.2 x0 2) 0 80) (G.2.2 x1 3) 0 (G.2.2 x0 3) 0 80) (G.2.2 x1 4) 0 (G.2.2 x0 4) 0 80) (G.2.2 x1 5) 0 (G.2.2 x0 5) 0 2) (fun (r2 : Int) (σ2 : jH) =>
  RT 0 G σ2))) :
  jwp C d mc ms RT k_Image_copyFrom j0 q_Image_copyFrom P 51 0 [some (vR x0), some (vR x1)] [] G σ cs ss := h
