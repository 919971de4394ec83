/-! Blocks: what must hold ahead of each piece of a method -/
def q_Book_init : List (Nat × List Bool) := [(9, [true]), (14, [true]), (28, [true]), (37, [true]), (51, [true]), (62, [true]), (73, [false])]
set_option maxRecDepth 20000 in
theorem b_Book_init_0 {C : jC} {d mc ms : Nat} {RT : Int → jG → jH → Prop} {P : jK} {G : jG} {σ : jH} {cs ss : Nat} {x0 : Int} (h :
  1 ≤ d ∧ 0 < x0 ∧
  (G.2.1 x0).1 = 9 ∧
  ((0 : Int) = 0 ∨ (0 : Int) = 1) ∧
  P 9 [some (vR x0)] [] G (ju σ x0 0 0) cs ss) :
  jwp C d mc ms RT k_Book_init j0 q_Book_init P 5 0 [some (vR x0)] [] G σ cs ss := h
set_option maxRecDepth 20000 in
theorem b_Book_init_9 {C : jC} {d mc ms : Nat} {RT : Int → jG → jH → Prop} {P : jK} {G : jG} {σ : jH} {cs ss : Nat} {x0 : Int} (h :
  (G.2.1 x0).1 = 9 ∧
  P 14 [some (vR x0)] [] G (ju σ x0 1 0) cs ss) :
  jwp C d mc ms RT k_Book_init j0 q_Book_init P 3 9 [some (vR x0)] [] G σ cs ss := h
set_option maxRecDepth 20000 in
theorem b_Book_init_14 {C : jC} {d mc ms : Nat} {RT : Int → jG → jH → Prop} {P : jK} {G : jG} {σ : jH} {cs ss : Nat} {x0 : Int} (h :
  cs + 1 ≤ mc ∧ ss + 2 ≤ ms ∧
  0 < ((G.1 + 1 : Nat) : Int) ∧ ∃ (d1 : Nat) (P1 : jG → jH → Prop), d1 < d ∧ CallG C.1 d1 2 1200 m_KeyRow_init [vR ((G.1 + 1 : Nat) : Int), vI 600] (jnewG G 12 2) (jnewH G σ) (fun _ => P1) ∧ (cs + 1) + 2 ≤ mc ∧ (ss + 2) + 1200 ≤ ms ∧ ∀ (G1 : jG) (σ1 : jH), P1 G1 σ1 →
  (G1.2.1 x0).1 = 9 ∧
  P 28 [some (vR x0)] [] ((G1.1, G1.2.1, ju G1.2.2 x0 2 ((G.1 + 1 : Nat) : Int)) : jG) σ1 ((cs + 1) + 2) ((ss + 2) + 1200)) :
  jwp C d mc ms RT k_Book_init j0 q_Book_init P 6 14 [some (vR x0)] [] G σ cs ss := h
set_option maxRecDepth 20000 in
theorem b_Book_init_28 {C : jC} {d mc ms : Nat} {RT : Int → jG → jH → Prop} {P : jK} {G : jG} {σ : jH} {cs ss : Nat} {x0 : Int} (h :
  (0 : Int) ≤ 600 ∧ (600 : Int) < 60000000 ∧ cs + 1 ≤ mc ∧ ss + Int.toNat 600 ≤ ms ∧
  ((jnewG G 1 600).2.1 x0).1 = 9 ∧
  P 37 [some (vR x0)] [] (((jnewG G 1 600).1, (jnewG G 1 600).2.1, ju (jnewG G 1 600).2.2 x0 3 ((G.1 + 1 : Nat) : Int)) : jG) (jnewH G σ) (cs + 1) (ss + Int.toNat 600)) :
  jwp C d mc ms RT k_Book_init j0 q_Book_init P 4 28 [some (vR x0)] [] G σ cs ss := h
set_option maxRecDepth 20000 in
theorem b_Book_init_37 {C : jC} {d mc ms : Nat} {RT : Int → jG → jH → Prop} {P : jK} {G : jG} {σ : jH} {cs ss : Nat} {x0 : Int} (h :
  cs + 1 ≤ mc ∧ ss + 2 ≤ ms ∧
  0 < ((G.1 + 1 : Nat) : Int) ∧ ∃ (d1 : Nat) (P1 : jG → jH → Prop), d1 < d ∧ CallG C.1 d1 2 1200 m_KeyRow_init [vR ((G.1 + 1 : Nat) : Int), vI 600] (jnewG G 12 2) (jnewH G σ) (fun _ => P1) ∧ (cs + 1) + 2 ≤ mc ∧ (ss + 2) + 1200 ≤ ms ∧ ∀ (G1 : jG) (σ1 : jH), P1 G1 σ1 →
  (G1.2.1 x0).1 = 9 ∧
  P 51 [some (vR x0)] [] ((G1.1, G1.2.1, ju G1.2.2 x0 4 ((G.1 + 1 : Nat) : Int)) : jG) σ1 ((cs + 1) + 2) ((ss + 2) + 1200)) :
  jwp C d mc ms RT k_Book_init j0 q_Book_init P 6 37 [some (vR x0)] [] G σ cs ss := h
set_option maxRecDepth 20000 in
theorem b_Book_init_51 {C : jC} {d mc ms : Nat} {RT : Int → jG → jH → Prop} {P : jK} {G : jG} {σ : jH} {cs ss : Nat} {x0 : Int} (h :
  cs + 1 ≤ mc ∧ ss + 14 ≤ ms ∧
  0 < ((G.1 + 1 : Nat) : Int) ∧ ∃ (d1 : Nat) (P1 : jG → jH → Prop), d1 < d ∧ CallG C.1 d1 14 3985 m_Words_init [vR ((G.1 + 1 : Nat) : Int)] (jnewG G 18 14) (jnewH G σ) (fun _ => P1) ∧ (cs + 1) + 14 ≤ mc ∧ (ss + 14) + 3985 ≤ ms ∧ ∀ (G1 : jG) (σ1 : jH), P1 G1 σ1 →
  (G1.2.1 x0).1 = 9 ∧
  P 62 [some (vR x0)] [] ((G1.1, G1.2.1, ju G1.2.2 x0 5 ((G.1 + 1 : Nat) : Int)) : jG) σ1 ((cs + 1) + 14) ((ss + 14) + 3985)) :
  jwp C d mc ms RT k_Book_init j0 q_Book_init P 5 51 [some (vR x0)] [] G σ cs ss := h
set_option maxRecDepth 20000 in
theorem b_Book_init_62 {C : jC} {d mc ms : Nat} {RT : Int → jG → jH → Prop} {P : jK} {G : jG} {σ : jH} {cs ss : Nat} {x0 : Int} (h :
  cs + 1 ≤ mc ∧ ss + 14 ≤ ms ∧
  0 < ((G.1 + 1 : Nat) : Int) ∧ ∃ (d1 : Nat) (P1 : jG → jH → Prop), d1 < d ∧ CallG C.1 d1 14 3985 m_Words_init [vR ((G.1 + 1 : Nat) : Int)] (jnewG G 18 14) (jnewH G σ) (fun _ => P1) ∧ (cs + 1) + 14 ≤ mc ∧ (ss + 14) + 3985 ≤ ms ∧ ∀ (G1 : jG) (σ1 : jH), P1 G1 σ1 →
  (G1.2.1 x0).1 = 9 ∧
  P 73 [none] [] ((G1.1, G1.2.1, ju G1.2.2 x0 6 ((G.1 + 1 : Nat) : Int)) : jG) σ1 ((cs + 1) + 14) ((ss + 14) + 3985)) :
  jwp C d mc ms RT k_Book_init j0 q_Book_init P 5 62 [some (vR x0)] [] G σ cs ss := h
set_option maxRecDepth 20000 in
theorem b_Book_init_73 {C : jC} {d mc ms : Nat} {RT : Int → jG → jH → Prop} {P : jK} {G : jG} {σ : jH} {cs ss : Nat} (h :
  RT 0 G σ) :
  jwp C d mc ms RT k_Book_init j0 q_Book_init P 1 73 [none] [] G σ cs ss := h

def q_Words_init : List (Nat × List Bool) := [(9, [true]), (23, [true]), (32, [true]), (41, [true]), (50, [true]), (59, [true]), (68, [true]), (77, [true]), (86, [true]), (91, [true]), (99, [true]), (107, [true]), (116, [true]), (127, [false])]
set_option maxRecDepth 20000 in
theorem b_Words_init_0 {C : jC} {d mc ms : Nat} {RT : Int → jG → jH → Prop} {P : jK} {G : jG} {σ : jH} {cs ss : Nat} {x0 : Int} (h :
  1 ≤ d ∧ 0 < x0 ∧
  (G.2.1 x0).1 = 18 ∧
  P 9 [some (vR x0)] [] G (ju σ x0 0 0) cs ss) :
  jwp C d mc ms RT k_Words_init j0 q_Words_init P 5 0 [some (vR x0)] [] G σ cs ss := h
set_option maxRecDepth 20000 in
theorem b_Words_init_9 {C : jC} {d mc ms : Nat} {RT : Int → jG → jH → Prop} {P : jK} {G : jG} {σ : jH} {cs ss : Nat} {x0 : Int} (h :
  cs + 1 ≤ mc ∧ ss + 2 ≤ ms ∧
  0 < ((G.1 + 1 : Nat) : Int) ∧ ∃ (d1 : Nat) (P1 : jG → jH → Prop), d1 < d ∧ CallG C.1 d1 2 600 m_KeyRow_init [vR ((G.1 + 1 : Nat) : Int), vI 300] (jnewG G 12 2) (jnewH G σ) (fun _ => P1) ∧ (cs + 1) + 2 ≤ mc ∧ (ss + 2) + 600 ≤ ms ∧ ∀ (G1 : jG) (σ1 : jH), P1 G1 σ1 →
  (G1.2.1 x0).1 = 18 ∧
  P 23 [some (vR x0)] [] ((G1.1, G1.2.1, ju G1.2.2 x0 1 ((G.1 + 1 : Nat) : Int)) : jG) σ1 ((cs + 1) + 2) ((ss + 2) + 600)) :
  jwp C d mc ms RT k_Words_init j0 q_Words_init P 6 9 [some (vR x0)] [] G σ cs ss := h
set_option maxRecDepth 20000 in
theorem b_Words_init_23 {C : jC} {d mc ms : Nat} {RT : Int → jG → jH → Prop} {P : jK} {G : jG} {σ : jH} {cs ss : Nat} {x0 : Int} (h :
  (0 : Int) ≤ 300 ∧ (300 : Int) < 60000000 ∧ cs + 1 ≤ mc ∧ ss + Int.toNat 300 ≤ ms ∧
  ((jnewG G 1 300).2.1 x0).1 = 18 ∧
  P 32 [some (vR x0)] [] (((jnewG G 1 300).1, (jnewG G 1 300).2.1, ju (jnewG G 1 300).2.2 x0 2 ((G.1 + 1 : Nat) : Int)) : jG) (jnewH G σ) (cs + 1) (ss + Int.toNat 300)) :
  jwp C d mc ms RT k_Words_init j0 q_Words_init P 4 23 [some (vR x0)] [] G σ cs ss := h
set_option maxRecDepth 20000 in
theorem b_Words_init_32 {C : jC} {d mc ms : Nat} {RT : Int → jG → jH → Prop} {P : jK} {G : jG} {σ : jH} {cs ss : Nat} {x0 : Int} (h :
  (0 : Int) ≤ 300 ∧ (300 : Int) < 60000000 ∧ cs + 1 ≤ mc ∧ ss + Int.toNat 300 ≤ ms ∧
  ((jnewG G 1 300).2.1 x0).1 = 18 ∧
  P 41 [some (vR x0)] [] (((jnewG G 1 300).1, (jnewG G 1 300).2.1, ju (jnewG G 1 300).2.2 x0 3 ((G.1 + 1 : Nat) : Int)) : jG) (jnewH G σ) (cs + 1) (ss + Int.toNat 300)) :
  jwp C d mc ms RT k_Words_init j0 q_Words_init P 4 32 [some (vR x0)] [] G σ cs ss := h
set_option maxRecDepth 20000 in
theorem b_Words_init_41 {C : jC} {d mc ms : Nat} {RT : Int → jG → jH → Prop} {P : jK} {G : jG} {σ : jH} {cs ss : Nat} {x0 : Int} (h :
  (0 : Int) ≤ 300 ∧ (300 : Int) < 60000000 ∧ cs + 1 ≤ mc ∧ ss + Int.toNat 300 ≤ ms ∧
  ((jnewG G 1 300).2.1 x0).1 = 18 ∧
  P 50 [some (vR x0)] [] (((jnewG G 1 300).1, (jnewG G 1 300).2.1, ju (jnewG G 1 300).2.2 x0 4 ((G.1 + 1 : Nat) : Int)) : jG) (jnewH G σ) (cs + 1) (ss + Int.toNat 300)) :
  jwp C d mc ms RT k_Words_init j0 q_Words_init P 4 41 [some (vR x0)] [] G σ cs ss := h
set_option maxRecDepth 20000 in
theorem b_Words_init_50 {C : jC} {d mc ms : Nat} {RT : Int → jG → jH → Prop} {P : jK} {G : jG} {σ : jH} {cs ss : Nat} {x0 : Int} (h :
  (0 : Int) ≤ 300 ∧ (300 : Int) < 60000000 ∧ cs + 1 ≤ mc ∧ ss + Int.toNat 300 ≤ ms ∧
  ((jnewG G 1 300).2.1 x0).1 = 18 ∧
  P 59 [some (vR x0)] [] (((jnewG G 1 300).1, (jnewG G 1 300).2.1, ju (jnewG G 1 300).2.2 x0 5 ((G.1 + 1 : Nat) : Int)) : jG) (jnewH G σ) (cs + 1) (ss + Int.toNat 300)) :
  jwp C d mc ms RT k_Words_init j0 q_Words_init P 4 50 [some (vR x0)] [] G σ cs ss := h
set_option maxRecDepth 20000 in
theorem b_Words_init_59 {C : jC} {d mc ms : Nat} {RT : Int → jG → jH → Prop} {P : jK} {G : jG} {σ : jH} {cs ss : Nat} {x0 : Int} (h :
  (0 : Int) ≤ 600 ∧ (600 : Int) < 60000000 ∧ cs + 1 ≤ mc ∧ ss + Int.toNat 600 ≤ ms ∧
  ((jnewG G 1 600).2.1 x0).1 = 18 ∧
  P 68 [some (vR x0)] [] (((jnewG G 1 600).1, (jnewG G 1 600).2.1, ju (jnewG G 1 600).2.2 x0 6 ((G.1 + 1 : Nat) : Int)) : jG) (jnewH G σ) (cs + 1) (ss + Int.toNat 600)) :
  jwp C d mc ms RT k_Words_init j0 q_Words_init P 4 59 [some (vR x0)] [] G σ cs ss := h
set_option maxRecDepth 20000 in
theorem b_Words_init_68 {C : jC} {d mc ms : Nat} {RT : Int → jG → jH → Prop} {P : jK} {G : jG} {σ : jH} {cs ss : Nat} {x0 : Int} (h :
  (0 : Int) ≤ 300 ∧ (300 : Int) < 60000000 ∧ cs + 1 ≤ mc ∧ ss + Int.toNat 300 ≤ ms ∧
  ((jnewG G 1 300).2.1 x0).1 = 18 ∧
  P 77 [some (vR x0)] [] (((jnewG G 1 300).1, (jnewG G 1 300).2.1, ju (jnewG G 1 300).2.2 x0 7 ((G.1 + 1 : Nat) : Int)) : jG) (jnewH G σ) (cs + 1) (ss + Int.toNat 300)) :
  jwp C d mc ms RT k_Words_init j0 q_Words_init P 4 68 [some (vR x0)] [] G σ cs ss := h
set_option maxRecDepth 20000 in
theorem b_Words_init_77 {C : jC} {d mc ms : Nat} {RT : Int → jG → jH → Prop} {P : jK} {G : jG} {σ : jH} {cs ss : Nat} {x0 : Int} (h :
  (0 : Int) ≤ 600 ∧ (600 : Int) < 60000000 ∧ cs + 1 ≤ mc ∧ ss + Int.toNat 600 ≤ ms ∧
  ((jnewG G 1 600).2.1 x0).1 = 18 ∧
  P 86 [some (vR x0)] [] (((jnewG G 1 600).1, (jnewG G 1 600).2.1, ju (jnewG G 1 600).2.2 x0 8 ((G.1 + 1 : Nat) : Int)) : jG) (jnewH G σ) (cs + 1) (ss + Int.toNat 600)) :
  jwp C d mc ms RT k_Words_init j0 q_Words_init P 4 77 [some (vR x0)] [] G σ cs ss := h
set_option maxRecDepth 20000 in
theorem b_Words_init_86 {C : jC} {d mc ms : Nat} {RT : Int → jG → jH → Prop} {P : jK} {G : jG} {σ : jH} {cs ss : Nat} {x0 : Int} (h :
  (G.2.1 x0).1 = 18 ∧
  P 91 [some (vR x0)] [] G (ju σ x0 9 0) cs ss) :
  jwp C d mc ms RT k_Words_init j0 q_Words_init P 3 86 [some (vR x0)] [] G σ cs ss := h
set_option maxRecDepth 20000 in
theorem b_Words_init_91 {C : jC} {d mc ms : Nat} {RT : Int → jG → jH → Prop} {P : jK} {G : jG} {σ : jH} {cs ss : Nat} {x0 : Int} (h :
  (0 : Int) ≤ 40 ∧ (40 : Int) < 60000000 ∧ cs + 1 ≤ mc ∧ ss + Int.toNat 40 ≤ ms ∧
  ((jnewG G 1 40).2.1 x0).1 = 18 ∧
  P 99 [some (vR x0)] [] (((jnewG G 1 40).1, (jnewG G 1 40).2.1, ju (jnewG G 1 40).2.2 x0 10 ((G.1 + 1 : Nat) : Int)) : jG) (jnewH G σ) (cs + 1) (ss + Int.toNat 40)) :
  jwp C d mc ms RT k_Words_init j0 q_Words_init P 4 91 [some (vR x0)] [] G σ cs ss := h
set_option maxRecDepth 20000 in
theorem b_Words_init_99 {C : jC} {d mc ms : Nat} {RT : Int → jG → jH → Prop} {P : jK} {G : jG} {σ : jH} {cs ss : Nat} {x0 : Int} (h :
  (0 : Int) ≤ 40 ∧ (40 : Int) < 60000000 ∧ cs + 1 ≤ mc ∧ ss + Int.toNat 40 ≤ ms ∧
  ((jnewG G 1 40).2.1 x0).1 = 18 ∧
  P 107 [some (vR x0)] [] (((jnewG G 1 40).1, (jnewG G 1 40).2.1, ju (jnewG G 1 40).2.2 x0 11 ((G.1 + 1 : Nat) : Int)) : jG) (jnewH G σ) (cs + 1) (ss + Int.toNat 40)) :
  jwp C d mc ms RT k_Words_init j0 q_Words_init P 4 99 [some (vR x0)] [] G σ cs ss := h
set_option maxRecDepth 20000 in
theorem b_Words_init_107 {C : jC} {d mc ms : Nat} {RT : Int → jG → jH → Prop} {P : jK} {G : jG} {σ : jH} {cs ss : Nat} {x0 : Int} (h :
  (0 : Int) ≤ 600 ∧ (600 : Int) < 60000000 ∧ cs + 1 ≤ mc ∧ ss + Int.toNat 600 ≤ ms ∧
  ((jnewG G 2 600).2.1 x0).1 = 18 ∧
  P 116 [some (vR x0)] [] (((jnewG G 2 600).1, (jnewG G 2 600).2.1, ju (jnewG G 2 600).2.2 x0 12 ((G.1 + 1 : Nat) : Int)) : jG) (jnewH G σ) (cs + 1) (ss + Int.toNat 600)) :
  jwp C d mc ms RT k_Words_init j0 q_Words_init P 4 107 [some (vR x0)] [] G σ cs ss := h
set_option maxRecDepth 20000 in
theorem b_Words_init_116 {C : jC} {d mc ms : Nat} {RT : Int → jG → jH → Prop} {P : jK} {G : jG} {σ : jH} {cs ss : Nat} {x0 : Int} (h :
  cs + 1 ≤ mc ∧ ss + 3 ≤ ms ∧
  0 < ((G.1 + 1 : Nat) : Int) ∧ ∃ (d1 : Nat) (P1 : jG → jH → Prop), d1 < d ∧ CallG C.1 d1 0 0 m_Key_init [vR ((G.1 + 1 : Nat) : Int)] (jnewG G 11 3) (jnewH G σ) (fun _ => P1) ∧ (cs + 1) + 0 ≤ mc ∧ (ss + 3) + 0 ≤ ms ∧ ∀ (G1 : jG) (σ1 : jH), P1 G1 σ1 →
  (G1.2.1 x0).1 = 18 ∧
  P 127 [none] [] ((G1.1, G1.2.1, ju G1.2.2 x0 13 ((G.1 + 1 : Nat) : Int)) : jG) σ1 ((cs + 1) + 0) ((ss + 3) + 0)) :
  jwp C d mc ms RT k_Words_init j0 q_Words_init P 5 116 [some (vR x0)] [] G σ cs ss := h
set_option maxRecDepth 20000 in
theorem b_Words_init_127 {C : jC} {d mc ms : Nat} {RT : Int → jG → jH → Prop} {P : jK} {G : jG} {σ : jH} {cs ss : Nat} (h :
  RT 0 G σ) :
  jwp C d mc ms RT k_Words_init j0 q_Words_init P 1 127 [none] [] G σ cs ss := h

def q_Book_wordsOf : List (Nat × List Bool) := []
set_option maxRecDepth 20000 in
theorem b_Book_wordsOf_0 {C : jC} {d mc ms : Nat} {RT : Int → jG → jH → Prop} {P : jK} {G : jG} {σ : jH} {cs ss : Nat} {x0 : Int} {x1 : Int} (h :
  ((x1 ≠ 0 →
    (G.2.1 x0).1 = 9 ∧
    RT (G.2.2 x0 6) G σ) ∧
  (x1 = 0 →
    (G.2.1 x0).1 = 9 ∧
    RT (G.2.2 x0 5) G σ))) :
  jwp C d mc ms RT k_Book_wordsOf j0 q_Book_wordsOf P 6 0 [some (vR x0), some (vI x1)] [] G σ cs ss := h

def q_Book_refresh : List (Nat × List Bool) := []
set_option maxRecDepth 20000 in
theorem b_Book_refresh_0 {C : jC} {d mc ms : Nat} {RT : Int → jG → jH → Prop} {P : jK} {G : jG} {σ : jH} {cs ss : Nat} {x0 : Int} {x1 : Int} (h :
  (G.2.1 x0).1 = 9 ∧
  (((σ x0 0) = 0 →
    (G.2.1 x0).1 = 9 ∧
    (G.2.1 (G.2.2 x0 5)).1 = 18 ∧
    cN C.1 d m_Words_cutOut [vR (G.2.2 x0 5), vR x1, vI 0] G σ (fun (r1 : Int) (σ1 : jH) =>
    (G.2.1 x0).1 = 9 ∧
    (G.2.1 (G.2.2 x0 6)).1 = 18 ∧
    cN C.1 d m_Words_cutOut [vR (G.2.2 x0 6), vR x1, vI 1] G σ1 (fun (r2 : Int) (σ2 : jH) =>
    (G.2.1 x0).1 = 9 ∧
    (G.2.1 x0).1 = 9 ∧
    (G.2.1 x0).1 = 9 ∧
    cN C.1 d m_Book_gather [vR x0, vR (G.2.2 x0 5)] G (ju σ2 x0 1 0) (fun (r3 : Int) (σ3 : jH) =>
    (G.2.1 x0).1 = 9 ∧
    (G.2.1 x0).1 = 9 ∧
    cN C.1 d m_Book_gather [vR x0, vR (G.2.2 x0 6)] G σ3 (fun (r4 : Int) (σ4 : jH) =>
    (G.2.1 x0).1 = 9 ∧
    (G.2.1 x0).1 = 9 ∧
    (G.2.1 x0).1 = 9 ∧
    (G.2.1 (G.2.2 x0 5)).1 = 18 ∧
    cN C.1 d m_Words_number [vR (G.2.2 x0 5), vR (G.2.2 x0 2), vI (σ4 x0 1)] G σ4 (fun (r5 : Int) (σ5 : jH) =>
    (G.2.1 x0).1 = 9 ∧
    (G.2.1 x0).1 = 9 ∧
    (G.2.1 x0).1 = 9 ∧
    (G.2.1 (G.2.2 x0 6)).1 = 18 ∧
    cN C.1 d m_Words_number [vR (G.2.2 x0 6), vR (G.2.2 x0 2), vI (σ5 x0 1)] G σ5 (fun (r6 : Int) (σ6 : jH) =>
    (G.2.1 x1).1 = 10 ∧
    (G.2.1 (G.2.2 x1 0)).1 = 15 ∧
    (G.2.1 x0).1 = 9 ∧
    cN C.1 d m_Book_bringToOrder [vR x0, vR (G.2.2 (G.2.2 x1 0) 10)] G σ6 (fun (r7 : Int) (σ7 : jH) =>
    (G.2.1 x0).1 = 9 ∧
    ((1 : Int) = 0 ∨ (1 : Int) = 1) ∧
    RT 0 G (ju σ7 x0 0 1))))))))) ∧
  ((σ x0 0) ≠ 0 →
    RT 0 G σ))) :
  jwp C d mc ms RT k_Book_refresh j0 q_Book_refresh P 47 0 [some (vR x0), some (vR x1)] [] G σ cs ss := h

def q_Words_cutOut : List (Nat × List Bool) := [(18, [true, true, true, true, true])]
set_option maxRecDepth 20000 in
theorem b_Words_cutOut_0 {C : jC} {d mc ms : Nat} {RT : Int → jG → jH → Prop} {P : jK} {G : jG} {σ : jH} {cs ss : Nat} {x0 : Int} {x1 : Int} {x2 : Int} (h :
  (G.2.1 x0).1 = 18 ∧
  (G.2.1 x0).1 = 18 ∧
  cN C.1 d m_Arrays_fill [vR (G.2.2 x0 10), vI 0] G (ju σ x0 0 0) (fun (r1 : Int) (σ1 : jH) =>
  P 18 [some (vR x0), some (vR x1), some (vI x2), some (vI 0), some (vI 0)] [] G σ1 cs ss)) :
  jwp C d mc ms RT k_Words_cutOut j0 q_Words_cutOut P 11 0 [some (vR x0), some (vR x1), some (vI x2), none, none] [] G σ cs ss := h
set_option maxRecDepth 20000 in
theorem b_Words_cutOut_18 {C : jC} {d mc ms : Nat} {RT : Int → jG → jH → Prop} {P : jK} {G : jG} {σ : jH} {cs ss : Nat} {x0 : Int} {x1 : Int} {x2 : Int} {x3 : Int} {x4 : Int} (h :
  (G.2.1 x1).1 = 10 ∧
  cN C.1 d m_Image_lineCount [vR x1, vI x2] G σ (fun (r1 : Int) (σ1 : jH) =>
  ((r1 ≤ x4 →
    RT 0 G σ1) ∧
  (x4 < r1 →
    (((40 : Int) ≤ x4 →
      RT 0 G σ1) ∧
    (x4 < 40 →
      (G.2.1 x1).1 = 10 ∧
      cN C.1 d m_Image_isCut [vR x1, vI x2, vI x4] G σ1 (fun (r2 : Int) (σ2 : jH) =>
      (G.2.1 x0).1 = 18 ∧
      cN C.1 d m_Words_cutLine [vR x0, vR x1, vI x2, vI x4, vI x3, vI r2] G σ2 (fun (r3 : Int) (σ3 : jH) =>
      P 18 [some (vR x0), some (vR x1), some (vI x2), some (vI r3), some (vI (w32 (x4 + 1)))] [] G σ3 cs ss)))))))) :
  jwp C d mc ms RT k_Words_cutOut j0 q_Words_cutOut P 21 18 [some (vR x0), some (vR x1), some (vI x2), some (vI x3), some (vI x4)] [] G σ cs ss := h

def q_Words_cutLine : List (Nat × List Bool) := [(30, [true, true, false, true, false, true, true, true, true]), (59, [true, true, false, true, false, true, true, true, false]), (100, [true, true, false, true, false, true, true, true, false]), (119, [true, true, false, true, false, true, true, true, false])]
set_option maxRecDepth 20000 in
theorem b_Words_cutLine_0 {C : jC} {d mc ms : Nat} {RT : Int → jG → jH → Prop} {P : jK} {G : jG} {σ : jH} {cs ss : Nat} {x0 : Int} {x1 : Int} {x2 : Int} {x3 : Int} {x4 : Int} {x5 : Int} (h :
  (G.2.1 x1).1 = 10 ∧
  cN C.1 d m_Image_lengthAt [vR x1, vI (w32 ((w32 (x2 * 40)) + x3))] G σ (fun (r1 : Int) (σ1 : jH) =>
  P 30 [some (vR x0), some (vR x1), none, some (vI x3), none, some (vI x5), some (vI (w32 ((w32 ((w32 (x2 * 40)) + x3)) * 60))), some (vI (w32 ((w32 ((w32 ((w32 (x2 * 40)) + x3)) * 60)) + r1))), some (vI x4)] [] G σ1 cs ss)) :
  jwp C d mc ms RT k_Words_cutLine j0 q_Words_cutLine P 20 0 [some (vR x0), some (vR x1), some (vI x2), some (vI x3), some (vI x4), some (vI x5), none, none, none] [] G σ cs ss := h
set_option maxRecDepth 20000 in
theorem b_Words_cutLine_30 {C : jC} {d mc ms : Nat} {RT : Int → jG → jH → Prop} {P : jK} {G : jG} {σ : jH} {cs ss : Nat} {x0 : Int} {x1 : Int} {x3 : Int} {x5 : Int} {x6 : Int} {x7 : Int} {x8 : Int} (h :
  ((x7 ≤ x6 →
    (x8 = 0 ∨ x8 = 1) ∧ RT x8 G σ) ∧
  (x6 < x7 →
    (G.2.1 x1).1 = 10 ∧
    cN C.1 d m_Image_byteAt [vR x1, vI x6] G σ (fun (r1 : Int) (σ1 : jH) =>
    cN C.1 d m_WordPlaces_isLetter [vI r1] G σ1 (fun (r2 : Int) (σ2 : jH) =>
    ((r2 = 0 →
      P 30 [some (vR x0), some (vR x1), none, some (vI x3), none, some (vI x5), some (vI (w32 (x6 + 1))), some (vI x7), some (vI x8)] [] G σ2 cs ss) ∧
    (r2 ≠ 0 →
      ((x8 ≠ 0 →
        P 59 [some (vR x0), some (vR x1), none, some (vI x3), none, some (vI x5), some (vI x6), some (vI x7), none] [] G σ2 cs ss) ∧
      (x8 = 0 →
        (G.2.1 x0).1 = 18 ∧
        cN C.1 d m_Words_beginWord [vR x0, vI x3] G σ2 (fun (r3 : Int) (σ3 : jH) =>
        P 59 [some (vR x0), some (vR x1), none, some (vI x3), none, some (vI x5), some (vI x6), some (vI x7), none] [] G σ3 cs ss)))))))))) :
  jwp C d mc ms RT k_Words_cutLine j0 q_Words_cutLine P 13 30 [some (vR x0), some (vR x1), none, some (vI x3), none, some (vI x5), some (vI x6), some (vI x7), some (vI x8)] [] G σ cs ss := h
set_option maxRecDepth 20000 in
theorem b_Words_cutLine_59 {C : jC} {d mc ms : Nat} {RT : Int → jG → jH → Prop} {P : jK} {G : jG} {σ : jH} {cs ss : Nat} {x0 : Int} {x1 : Int} {x3 : Int} {x5 : Int} {x6 : Int} {x7 : Int} (h :
  ((x7 ≤ x6 →
    P 100 [some (vR x0), some (vR x1), none, some (vI x3), none, some (vI x5), some (vI x6), some (vI x7), none] [] G σ cs ss) ∧
  (x6 < x7 →
    (G.2.1 x1).1 = 10 ∧
    cN C.1 d m_Image_byteAt [vR x1, vI x6] G σ (fun (r1 : Int) (σ1 : jH) =>
    cN C.1 d m_WordPlaces_isLetter [vI r1] G σ1 (fun (r2 : Int) (σ2 : jH) =>
    ((r2 = 0 →
      P 100 [some (vR x0), some (vR x1), none, some (vI x3), none, some (vI x5), some (vI x6), some (vI x7), none] [] G σ2 cs ss) ∧
    (r2 ≠ 0 →
      (G.2.1 x0).1 = 18 ∧
      (G.2.1 x1).1 = 10 ∧
      cN C.1 d m_Image_byteAt [vR x1, vI x6] G σ2 (fun (r3 : Int) (σ3 : jH) =>
      (G.2.1 (G.2.2 x0 13)).1 = 11 ∧
      cN C.1 d m_Key_add [vR (G.2.2 x0 13), vI (w32 (r3 - 97))] G σ3 (fun (r4 : Int) (σ4 : jH) =>
      P 59 [some (vR x0), some (vR x1), none, some (vI x3), none, some (vI x5), some (vI (w32 (x6 + 1))), some (vI x7), none] [] G σ4 cs ss))))))))) :
  jwp C d mc ms RT k_Words_cutLine j0 q_Words_cutLine P 18 59 [some (vR x0), some (vR x1), none, some (vI x3), none, some (vI x5), some (vI x6), some (vI x7), none] [] G σ cs ss := h
set_option maxRecDepth 20000 in
theorem b_Words_cutLine_100 {C : jC} {d mc ms : Nat} {RT : Int → jG → jH → Prop} {P : jK} {G : jG} {σ : jH} {cs ss : Nat} {x0 : Int} {x1 : Int} {x3 : Int} {x5 : Int} {x6 : Int} {x7 : Int} (h :
  ((x6 ≠ (w32 (x7 - 1)) →
    P 119 [some (vR x0), some (vR x1), none, some (vI x3), none, some (vI x5), some (vI x6), some (vI x7), none] [vI 0] G σ cs ss) ∧
  (x6 = (w32 (x7 - 1)) →
    ((x5 = 0 →
      P 119 [some (vR x0), some (vR x1), none, some (vI x3), none, some (vI x5), some (vI x6), some (vI x7), none] [vI 0] G σ cs ss) ∧
    (x5 ≠ 0 →
      P 119 [some (vR x0), some (vR x1), none, some (vI x3), none, some (vI x5), some (vI x6), some (vI x7), none] [vI 1] G σ cs ss))))) :
  jwp C d mc ms RT k_Words_cutLine j0 q_Words_cutLine P 9 100 [some (vR x0), some (vR x1), none, some (vI x3), none, some (vI x5), some (vI x6), some (vI x7), none] [] G σ cs ss := h
set_option maxRecDepth 20000 in
theorem b_Words_cutLine_119 {C : jC} {d mc ms : Nat} {RT : Int → jG → jH → Prop} {P : jK} {G : jG} {σ : jH} {cs ss : Nat} {x0 : Int} {x1 : Int} {x3 : Int} {x5 : Int} {x6 : Int} {x7 : Int} {s0 : Int} (h :
  (G.2.1 x1).1 = 10 ∧
  (G.2.1 (G.2.2 x1 0)).1 = 15 ∧
  (G.2.1 x0).1 = 18 ∧
  cN C.1 d m_Words_endRun [vR x0, vR (G.2.2 (G.2.2 x1 0) 1), vI s0] G σ (fun (r1 : Int) (σ1 : jH) =>
  P 30 [some (vR x0), some (vR x1), none, some (vI x3), none, some (vI x5), some (vI x6), some (vI x7), some (vI s0)] [] G σ1 cs ss)) :
  jwp C d mc ms RT k_Words_cutLine j0 q_Words_cutLine P 8 119 [some (vR x0), some (vR x1), none, some (vI x3), none, some (vI x5), some (vI x6), some (vI x7), none] [vI s0] G σ cs ss := h

def q_Words_beginWord : List (Nat × List Bool) := []
set_option maxRecDepth 20000 in
theorem b_Words_beginWord_0 {C : jC} {d mc ms : Nat} {RT : Int → jG → jH → Prop} {P : jK} {G : jG} {σ : jH} {cs ss : Nat} {x0 : Int} {x1 : Int} (h :
  (G.2.1 x0).1 = 18 ∧
  (G.2.1 (G.2.2 x0 13)).1 = 11 ∧
  cN C.1 d m_Key_clear [vR (G.2.2 x0 13)] G σ (fun (r1 : Int) (σ1 : jH) =>
  (G.2.1 x0).1 = 18 ∧
  (((σ1 x0 0) < 0 →
    RT 0 G σ1) ∧
  ((0 : Int) ≤ (σ1 x0 0) →
    (G.2.1 x0).1 = 18 ∧
    (((300 : Int) ≤ (σ1 x0 0) →
      RT 0 G σ1) ∧
    ((σ1 x0 0) < 300 →
      ((x1 < 0 →
        RT 0 G σ1) ∧
      ((0 : Int) ≤ x1 →
        (((40 : Int) ≤ x1 →
          RT 0 G σ1) ∧
        (x1 < 40 →
          (G.2.1 x0).1 = 18 ∧
          (G.2.1 x0).1 = 18 ∧
          (G.2.1 (G.2.2 x0 2)).1 = 1 ∧ (0 : Int) ≤ (σ1 x0 0) ∧ (σ1 x0 0) < (G.2.1 (G.2.2 x0 2)).2 ∧
          (G.2.1 x0).1 = 18 ∧
          (G.2.1 x0).1 = 18 ∧
          (G.2.1 x0).1 = 18 ∧
          (G.2.1 (G.2.2 x0 10)).1 = 1 ∧ (0 : Int) ≤ x1 ∧ x1 < (G.2.1 (G.2.2 x0 10)).2 ∧
          (G.2.1 (G.2.2 x0 3)).1 = 1 ∧ (0 : Int) ≤ ((ju σ1 (G.2.2 x0 2) (σ1 x0 0) x1) x0 0) ∧ ((ju σ1 (G.2.2 x0 2) (σ1 x0 0) x1) x0 0) < (G.2.1 (G.2.2 x0 3)).2 ∧
          (G.2.1 x0).1 = 18 ∧
          (G.2.1 x0).1 = 18 ∧
          (G.2.1 (G.2.2 x0 4)).1 = 1 ∧ (0 : Int) ≤ ((ju (ju σ1 (G.2.2 x0 2) (σ1 x0 0) x1) (G.2.2 x0 3) ((ju σ1 (G.2.2 x0 2) (σ1 x0 0) x1) x0 0) ((ju σ1 (G.2.2 x0 2) (σ1 x0 0) x1) (G.2.2 x0 10) x1)) x0 0) ∧ ((ju (ju σ1 (G.2.2 x0 2) (σ1 x0 0) x1) (G.2.2 x0 3) ((ju σ1 (G.2.2 x0 2) (σ1 x0 0) x1) x0 0) ((ju σ1 (G.2.2 x0 2) (σ1 x0 0) x1) (G.2.2 x0 10) x1)) x0 0) < (G.2.1 (G.2.2 x0 4)).2 ∧
          (G.2.1 x0).1 = 18 ∧
          (G.2.1 (G.2.2 x0 10)).1 = 1 ∧ (0 : Int) ≤ x1 ∧ x1 < (G.2.1 (G.2.2 x0 10)).2 ∧
          (G.2.1 (G.2.2 x0 10)).1 = 1 ∧ (0 : Int) ≤ x1 ∧ x1 < (G.2.1 (G.2.2 x0 10)).2 ∧
          (G.2.1 x0).1 = 18 ∧
          (G.2.1 x0).1 = 18 ∧
          RT 0 G (ju (ju (ju (ju (ju σ1 (G.2.2 x0 2) (σ1 x0 0) x1) (G.2.2 x0 3) ((ju σ1 (G.2.2 x0 2) (σ1 x0 0) x1) x0 0) ((ju σ1 (G.2.2 x0 2) (σ1 x0 0) x1) (G.2.2 x0 10) x1)) (G.2.2 x0 4) ((ju (ju σ1 (G.2.2 x0 2) (σ1 x0 0) x1) (G.2.2 x0 3) ((ju σ1 (G.2.2 x0 2) (σ1 x0 0) x1) x0 0) ((ju σ1 (G.2.2 x0 2) (σ1 x0 0) x1) (G.2.2 x0 10) x1)) x0 0) 0) (G.2.2 x0 10) x1 (w32 (((ju (ju (ju σ1 (G.2.2 x0 2) (σ1 x0 0) x1) (G.2.2 x0 3) ((ju σ1 (G.2.2 x0 2) (σ1 x0 0) x1) x0 0) ((ju σ1 (G.2.2 x0 2) (σ1 x0 0) x1) (G.2.2 x0 10) x1)) (G.2.2 x0 4) ((ju (ju σ1 (G.2.2 x0 2) (σ1 x0 0) x1) (G.2.2 x0 3) ((ju σ1 (G.2.2 x0 2) (σ1 x0 0) x1) x0 0) ((ju σ1 (G.2.2 x0 2) (σ1 x0 0) x1) (G.2.2 x0 10) x1)) x0 0) 0) (G.2.2 x0 10) x1) + 1))) x0 0 (w32 (((ju (ju (ju (ju σ1 (G.2.2 x0 2) (σ1 x0 0) x1) (G.2.2 x0 3) ((ju σ1 (G.2.2 x0 2) (σ1 x0 0) x1) x0 0) ((ju σ1 (G.2.2 x0 2) (σ1 x0 0) x1) (G.2.2 x0 10) x1)) (G.2.2 x0 4) ((ju (ju σ1 (G.2.2 x0 2) (σ1 x0 0) x1) (G.2.2 x0 3) ((ju σ1 (G.2.2 x0 2) (σ1 x0 0) x1) x0 0) ((ju σ1 (G.2.2 x0 2) (σ1 x0 0) x1) (G.2.2 x0 10) x1)) x0 0) 0) (G.2.2 x0 10) x1 (w32 (((ju (ju (ju σ1 (G.2.2 x0 2) (σ1 x0 0) x1) (G.2.2 x0 3) ((ju σ1 (G.2.2 x0 2) (σ1 x0 0) x1) x0 0) ((ju σ1 (G.2.2 x0 2) (σ1 x0 0) x1) (G.2.2 x0 10) x1)) (G.2.2 x0 4) ((ju (ju σ1 (G.2.2 x0 2) (σ1 x0 0) x1) (G.2.2 x0 3) ((ju σ1 (G.2.2 x0 2) (σ1 x0 0) x1) x0 0) ((ju σ1 (G.2.2 x0 2) (σ1 x0 0) x1) (G.2.2 x0 10) x1)) x0 0) 0) (G.2.2 x0 10) x1) + 1))) x0 0) + 1))))))))))))) :
  jwp C d mc ms RT k_Words_beginWord j0 q_Words_beginWord P 51 0 [some (vR x0), some (vI x1)] [] G σ cs ss := h

def q_Words_endRun : List (Nat × List Bool) := []
set_option maxRecDepth 20000 in
theorem b_Words_endRun_0 {C : jC} {d mc ms : Nat} {RT : Int → jG → jH → Prop} {P : jK} {G : jG} {σ : jH} {cs ss : Nat} {x0 : Int} {x1 : Int} {x2 : Int} (h :
  (G.2.1 x0).1 = 18 ∧
  (((w32 ((σ x0 0) - 1)) < 0 →
    RT 0 G σ) ∧
  ((0 : Int) ≤ (w32 ((σ x0 0) - 1)) →
    (((w32 ((σ x0 0) - 1)) < 300 →
      (G.2.1 x0).1 = 18 ∧
      (G.2.1 x0).1 = 18 ∧
      (G.2.1 (G.2.2 x0 13)).1 = 11 ∧
      cN C.1 d m_Key_mapped [vL (σ (G.2.2 x0 13) 0), vR x1] G σ (fun (r1 : Int) (σ1 : jH) =>
      (G.2.1 x0).1 = 18 ∧
      (G.2.1 (G.2.2 x0 13)).1 = 11 ∧
      cN C.1 d m_Key_mapped [vL (σ1 (G.2.2 x0 13) 1), vR x1] G σ1 (fun (r2 : Int) (σ2 : jH) =>
      (G.2.1 (G.2.2 x0 1)).1 = 12 ∧
      cN C.1 d m_KeyRow_put [vR (G.2.2 x0 1), vI (w32 ((σ x0 0) - 1)), vL r1, vL r2] G σ2 (fun (r3 : Int) (σ3 : jH) =>
      ((x2 = 0 →
        RT 0 G σ3) ∧
      (x2 ≠ 0 →
        (G.2.1 x0).1 = 18 ∧
        (G.2.1 (G.2.2 x0 4)).1 = 1 ∧ (0 : Int) ≤ (w32 ((σ x0 0) - 1)) ∧ (w32 ((σ x0 0) - 1)) < (G.2.1 (G.2.2 x0 4)).2 ∧
        RT 0 G (ju σ3 (G.2.2 x0 4) (w32 ((σ x0 0) - 1)) 1))))))) ∧
    ((300 : Int) ≤ (w32 ((σ x0 0) - 1)) →
      RT 0 G σ))))) :
  jwp C d mc ms RT k_Words_endRun j0 q_Words_endRun P 32 0 [some (vR x0), some (vR x1), some (vI x2), none] [] G σ cs ss := h

def q_Book_gather : List (Nat × List Bool) := [(2, [true, true, true, false, false, false, false, false])]
set_option maxRecDepth 20000 in
theorem b_Book_gather_0 {C : jC} {d mc ms : Nat} {RT : Int → jG → jH → Prop} {P : jK} {G : jG} {σ : jH} {cs ss : Nat} {x0 : Int} {x1 : Int} (h :
  P 2 [some (vR x0), some (vR x1), some (vI 0), none, none, none, none, none] [] G σ cs ss) :
  jwp C d mc ms RT k_Book_gather j0 q_Book_gather P 2 0 [some (vR x0), some (vR x1), none, none, none, none, none, none] [] G σ cs ss := h
set_option maxRecDepth 20000 in
theorem b_Book_gather_2 {C : jC} {d mc ms : Nat} {RT : Int → jG → jH → Prop} {P : jK} {G : jG} {σ : jH} {cs ss : Nat} {x0 : Int} {x1 : Int} {x2 : Int} (h :
  (G.2.1 x1).1 = 18 ∧
  (((σ x1 0) ≤ x2 →
    RT 0 G σ) ∧
  (x2 < (σ x1 0) →
    (((300 : Int) ≤ x2 →
      RT 0 G σ) ∧
    (x2 < 300 →
      (G.2.1 x1).1 = 18 ∧
      (G.2.1 (G.2.2 x1 1)).1 = 12 ∧
      (G.2.1 (G.2.2 (G.2.2 x1 1) 0)).1 = 4 ∧ (0 : Int) ≤ x2 ∧ x2 < (G.2.1 (G.2.2 (G.2.2 x1 1) 0)).2 ∧
      (G.2.1 x1).1 = 18 ∧
      (G.2.1 (G.2.2 x1 1)).1 = 12 ∧
      (G.2.1 (G.2.2 (G.2.2 x1 1) 1)).1 = 4 ∧ (0 : Int) ≤ x2 ∧ x2 < (G.2.1 (G.2.2 (G.2.2 x1 1) 1)).2 ∧
      (G.2.1 x0).1 = 9 ∧
      (G.2.1 x0).1 = 9 ∧
      (G.2.1 (G.2.2 x0 2)).1 = 12 ∧
      cN C.1 d m_KeyRow_find [vR (G.2.2 x0 2), vI (σ x0 1), vL (σ (G.2.2 (G.2.2 x1 1) 0) x2), vL (σ (G.2.2 (G.2.2 x1 1) 1) x2)] G σ (fun (r1 : Int) (σ1 : jH) =>
      (((0 : Int) ≤ r1 →
        P 2 [some (vR x0), some (vR x1), some (vI (w32 (x2 + 1))), none, none, none, none, none] [] G σ1 cs ss) ∧
      (r1 < 0 →
        (G.2.1 x0).1 = 9 ∧
        (((600 : Int) ≤ (σ1 x0 1) →
          P 2 [some (vR x0), some (vR x1), some (vI (w32 (x2 + 1))), none, none, none, none, none] [] G σ1 cs ss) ∧
        ((σ1 x0 1) < 600 →
          (G.2.1 x0).1 = 9 ∧
          (G.2.1 x0).1 = 9 ∧
          (G.2.1 (G.2.2 x0 2)).1 = 12 ∧
          cN C.1 d m_KeyRow_insert [vR (G.2.2 x0 2), vI (σ1 x0 1), vI (w32 ((-1) - r1)), vL (σ (G.2.2 (G.2.2 x1 1) 0) x2), vL (σ (G.2.2 (G.2.2 x1 1) 1) x2)] G σ1 (fun (r2 : Int) (σ2 : jH) =>
          (G.2.1 x0).1 = 9 ∧
          (G.2.1 x0).1 = 9 ∧
          P 2 [some (vR x0), some (vR x1), some (vI (w32 (x2 + 1))), none, none, none, none, none] [] G (ju σ2 x0 1 (w32 ((σ2 x0 1) + 1))) cs ss))))))))))) :
  jwp C d mc ms RT k_Book_gather j0 q_Book_gather P 51 2 [some (vR x0), some (vR x1), some (vI x2), none, none, none, none, none] [] G σ cs ss := h

def q_Words_number : List (Nat × List Bool) := [(10, [true, true, true, true, false]), (98, [true, false, false, true, true]), (126, [true, false, false, true, true])]
set_option maxRecDepth 20000 in
theorem b_Words_number_0 {C : jC} {d mc ms : Nat} {RT : Int → jG → jH → Prop} {P : jK} {G : jG} {σ : jH} {cs ss : Nat} {x0 : Int} {x1 : Int} {x2 : Int} (h :
  (G.2.1 x0).1 = 18 ∧
  cN C.1 d m_Arrays_fill [vR (G.2.2 x0 6), vI 0] G σ (fun (r1 : Int) (σ1 : jH) =>
  P 10 [some (vR x0), some (vR x1), some (vI x2), some (vI 0), none] [] G σ1 cs ss)) :
  jwp C d mc ms RT k_Words_number j0 q_Words_number P 6 0 [some (vR x0), some (vR x1), some (vI x2), none, none] [] G σ cs ss := h
set_option maxRecDepth 20000 in
theorem b_Words_number_10 {C : jC} {d mc ms : Nat} {RT : Int → jG → jH → Prop} {P : jK} {G : jG} {σ : jH} {cs ss : Nat} {x0 : Int} {x1 : Int} {x2 : Int} {x3 : Int} (h :
  (G.2.1 x0).1 = 18 ∧
  (((σ x0 0) ≤ x3 →
    (G.2.1 x0).1 = 18 ∧
    P 98 [some (vR x0), none, none, some (vI 0), some (vI 0)] [] G (ju σ x0 9 0) cs ss) ∧
  (x3 < (σ x0 0) →
    (((300 : Int) ≤ x3 →
      (G.2.1 x0).1 = 18 ∧
      P 98 [some (vR x0), none, none, some (vI 0), some (vI 0)] [] G (ju σ x0 9 0) cs ss) ∧
    (x3 < 300 →
      (G.2.1 x0).1 = 18 ∧
      (G.2.1 (G.2.2 x0 1)).1 = 12 ∧
      (G.2.1 (G.2.2 (G.2.2 x0 1) 0)).1 = 4 ∧ (0 : Int) ≤ x3 ∧ x3 < (G.2.1 (G.2.2 (G.2.2 x0 1) 0)).2 ∧
      (G.2.1 x0).1 = 18 ∧
      (G.2.1 (G.2.2 x0 1)).1 = 12 ∧
      (G.2.1 (G.2.2 (G.2.2 x0 1) 1)).1 = 4 ∧ (0 : Int) ≤ x3 ∧ x3 < (G.2.1 (G.2.2 (G.2.2 x0 1) 1)).2 ∧
      (G.2.1 x1).1 = 12 ∧
      cN C.1 d m_KeyRow_find [vR x1, vI x2, vL (σ (G.2.2 (G.2.2 x0 1) 0) x3), vL (σ (G.2.2 (G.2.2 x0 1) 1) x3)] G σ (fun (r1 : Int) (σ1 : jH) =>
      (G.2.1 x0).1 = 18 ∧
      (G.2.1 (G.2.2 x0 5)).1 = 1 ∧ (0 : Int) ≤ x3 ∧ x3 < (G.2.1 (G.2.2 x0 5)).2 ∧
      ((r1 < 0 →
        P 10 [some (vR x0), some (vR x1), some (vI x2), some (vI (w32 (x3 + 1))), none] [] G (ju σ1 (G.2.2 x0 5) x3 r1) cs ss) ∧
      ((0 : Int) ≤ r1 →
        (((600 : Int) ≤ r1 →
          P 10 [some (vR x0), some (vR x1), some (vI x2), some (vI (w32 (x3 + 1))), none] [] G (ju σ1 (G.2.2 x0 5) x3 r1) cs ss) ∧
        (r1 < 600 →
          (G.2.1 x0).1 = 18 ∧
          (G.2.1 (G.2.2 x0 6)).1 = 1 ∧ (0 : Int) ≤ r1 ∧ r1 < (G.2.1 (G.2.2 x0 6)).2 ∧
          (G.2.1 (G.2.2 x0 6)).1 = 1 ∧ (0 : Int) ≤ r1 ∧ r1 < (G.2.1 (G.2.2 x0 6)).2 ∧
          P 10 [some (vR x0), some (vR x1), some (vI x2), some (vI (w32 (x3 + 1))), none] [] G (ju (ju σ1 (G.2.2 x0 5) x3 r1) (G.2.2 x0 6) r1 (w32 (((ju σ1 (G.2.2 x0 5) x3 r1) (G.2.2 x0 6) r1) + 1))) cs ss)))))))))) :
  jwp C d mc ms RT k_Words_number j0 q_Words_number P 41 10 [some (vR x0), some (vR x1), some (vI x2), some (vI x3), none] [] G σ cs ss := h
set_option maxRecDepth 20000 in
theorem b_Words_number_98 {C : jC} {d mc ms : Nat} {RT : Int → jG → jH → Prop} {P : jK} {G : jG} {σ : jH} {cs ss : Nat} {x0 : Int} {x3 : Int} {x4 : Int} (h :
  (((600 : Int) ≤ x4 →
    (G.2.1 x0).1 = 18 ∧
    cN C.1 d m_Words_fillLists [vR x0] G σ (fun (r1 : Int) (σ1 : jH) =>
    RT 0 G σ1)) ∧
  (x4 < 600 →
    (G.2.1 x0).1 = 18 ∧
    (G.2.1 x0).1 = 18 ∧
    (G.2.1 (G.2.2 x0 6)).1 = 1 ∧ (0 : Int) ≤ x4 ∧ x4 < (G.2.1 (G.2.2 x0 6)).2 ∧
    (((σ (G.2.2 x0 6) x4) ≤ 0 →
      P 126 [some (vR x0), none, none, some (vI x3), some (vI x4)] [vI 0, vI (σ x0 9), vR x0] G σ cs ss) ∧
    ((0 : Int) < (σ (G.2.2 x0 6) x4) →
      P 126 [some (vR x0), none, none, some (vI x3), some (vI x4)] [vI 1, vI (σ x0 9), vR x0] G σ cs ss))))) :
  jwp C d mc ms RT k_Words_number j0 q_Words_number P 13 98 [some (vR x0), none, none, some (vI x3), some (vI x4)] [] G σ cs ss := h
set_option maxRecDepth 20000 in
theorem b_Words_number_126 {C : jC} {d mc ms : Nat} {RT : Int → jG → jH → Prop} {P : jK} {G : jG} {σ : jH} {cs ss : Nat} {x0 : Int} {x3 : Int} {x4 : Int} {s0 : Int} {s1 : Int} {s2 : Int} (h :
  (G.2.1 s0).1 = 18 ∧
  (G.2.1 x0).1 = 18 ∧
  (G.2.1 (G.2.2 x0 6)).1 = 1 ∧ (0 : Int) ≤ x4 ∧ x4 < (G.2.1 (G.2.2 x0 6)).2 ∧
  (G.2.1 x0).1 = 18 ∧
  (G.2.1 (G.2.2 x0 8)).1 = 1 ∧ (0 : Int) ≤ x4 ∧ x4 < (G.2.1 (G.2.2 x0 8)).2 ∧
  P 98 [some (vR x0), none, none, some (vI (w32 (x3 + ((ju σ s0 9 (w32 (s1 + s2))) (G.2.2 x0 6) x4)))), some (vI (w32 (x4 + 1)))] [] G (ju (ju σ s0 9 (w32 (s1 + s2))) (G.2.2 x0 8) x4 (w32 (x3 + ((ju σ s0 9 (w32 (s1 + s2))) (G.2.2 x0 6) x4)))) cs ss) :
  jwp C d mc ms RT k_Words_number j0 q_Words_number P 16 126 [some (vR x0), none, none, some (vI x3), some (vI x4)] [vI s2, vI s1, vR s0] G σ cs ss := h

def q_Words_fillLists : List (Nat × List Bool) := [(13, [true, true, false])]
set_option maxRecDepth 20000 in
theorem b_Words_fillLists_0 {C : jC} {d mc ms : Nat} {RT : Int → jG → jH → Prop} {P : jK} {G : jG} {σ : jH} {cs ss : Nat} {x0 : Int} (h :
  (G.2.1 x0).1 = 18 ∧
  1 ≤ d ∧
  P 13 [some (vR x0), some (vI (w32 ((min (σ x0 0) 300) - 1))), none] [] G σ cs ss) :
  jwp C d mc ms RT k_Words_fillLists j0 q_Words_fillLists P 7 0 [some (vR x0), none, none] [] G σ cs ss := h
set_option maxRecDepth 20000 in
theorem b_Words_fillLists_13 {C : jC} {d mc ms : Nat} {RT : Int → jG → jH → Prop} {P : jK} {G : jG} {σ : jH} {cs ss : Nat} {x0 : Int} {x1 : Int} (h :
  ((x1 < 0 →
    RT 0 G σ) ∧
  ((0 : Int) ≤ x1 →
    (G.2.1 x0).1 = 18 ∧
    (G.2.1 (G.2.2 x0 5)).1 = 1 ∧ (0 : Int) ≤ x1 ∧ x1 < (G.2.1 (G.2.2 x0 5)).2 ∧
    (((σ (G.2.2 x0 5) x1) < 0 →
      P 13 [some (vR x0), some (vI (w32 (x1 + (-1)))), none] [] G σ cs ss) ∧
    ((0 : Int) ≤ (σ (G.2.2 x0 5) x1) →
      (((600 : Int) ≤ (σ (G.2.2 x0 5) x1) →
        P 13 [some (vR x0), some (vI (w32 (x1 + (-1)))), none] [] G σ cs ss) ∧
      ((σ (G.2.2 x0 5) x1) < 600 →
        (G.2.1 x0).1 = 18 ∧
        (G.2.1 (G.2.2 x0 8)).1 = 1 ∧ (0 : Int) ≤ (σ (G.2.2 x0 5) x1) ∧ (σ (G.2.2 x0 5) x1) < (G.2.1 (G.2.2 x0 8)).2 ∧
        (((σ (G.2.2 x0 8) (σ (G.2.2 x0 5) x1)) ≤ 0 →
          P 13 [some (vR x0), some (vI (w32 (x1 + (-1)))), none] [] G σ cs ss) ∧
        ((0 : Int) < (σ (G.2.2 x0 8) (σ (G.2.2 x0 5) x1)) →
          (G.2.1 x0).1 = 18 ∧
          (G.2.1 (G.2.2 x0 8)).1 = 1 ∧ (0 : Int) ≤ (σ (G.2.2 x0 5) x1) ∧ (σ (G.2.2 x0 5) x1) < (G.2.1 (G.2.2 x0 8)).2 ∧
          (((300 : Int) < (σ (G.2.2 x0 8) (σ (G.2.2 x0 5) x1)) →
            P 13 [some (vR x0), some (vI (w32 (x1 + (-1)))), none] [] G σ cs ss) ∧
          ((σ (G.2.2 x0 8) (σ (G.2.2 x0 5) x1)) ≤ 300 →
            (G.2.1 x0).1 = 18 ∧
            (G.2.1 (G.2.2 x0 8)).1 = 1 ∧ (0 : Int) ≤ (σ (G.2.2 x0 5) x1) ∧ (σ (G.2.2 x0 5) x1) < (G.2.1 (G.2.2 x0 8)).2 ∧
            (G.2.1 (G.2.2 x0 8)).1 = 1 ∧ (0 : Int) ≤ (σ (G.2.2 x0 5) x1) ∧ (σ (G.2.2 x0 5) x1) < (G.2.1 (G.2.2 x0 8)).2 ∧
            (G.2.1 x0).1 = 18 ∧
            (G.2.1 x0).1 = 18 ∧
            (G.2.1 (G.2.2 x0 8)).1 = 1 ∧ (0 : Int) ≤ (σ (G.2.2 x0 5) x1) ∧ (σ (G.2.2 x0 5) x1) < (G.2.1 (G.2.2 x0 8)).2 ∧
            (G.2.1 (G.2.2 x0 7)).1 = 1 ∧ (0 : Int) ≤ ((ju σ (G.2.2 x0 8) (σ (G.2.2 x0 5) x1) (w32 ((σ (G.2.2 x0 8) (σ (G.2.2 x0 5) x1)) - 1))) (G.2.2 x0 8) (σ (G.2.2 x0 5) x1)) ∧ ((ju σ (G.2.2 x0 8) (σ (G.2.2 x0 5) x1) (w32 ((σ (G.2.2 x0 8) (σ (G.2.2 x0 5) x1)) - 1))) (G.2.2 x0 8) (σ (G.2.2 x0 5) x1)) < (G.2.1 (G.2.2 x0 7)).2 ∧
            P 13 [some (vR x0), some (vI (w32 (x1 + (-1)))), none] [] G (ju (ju σ (G.2.2 x0 8) (σ (G.2.2 x0 5) x1) (w32 ((σ (G.2.2 x0 8) (σ (G.2.2 x0 5) x1)) - 1))) (G.2.2 x0 7) ((ju σ (G.2.2 x0 8) (σ (G.2.2 x0 5) x1) (w32 ((σ (G.2.2 x0 8) (σ (G.2.2 x0 5) x1)) - 1))) (G.2.2 x0 8) (σ (G.2.2 x0 5) x1)) x1) cs ss))))))))))) :
  jwp C d mc ms RT k_Words_fillLists j0 q_Words_fillLists P 41 13 [some (vR x0), some (vI x1), none] [] G σ cs ss := h

def q_Book_bringToOrder : List (Nat × List Bool) := [(2, [true, true, true, false, false, false, false, false, false]), (73, [true, true, true, true, false, true, false, false, false])]
set_option maxRecDepth 20000 in
theorem b_Book_bringToOrder_0 {C : jC} {d mc ms : Nat} {RT : Int → jG → jH → Prop} {P : jK} {G : jG} {σ : jH} {cs ss : Nat} {x0 : Int} {x1 : Int} (h :
  P 2 [some (vR x0), some (vR x1), some (vI 0), none, none, none, none, none, none] [] G σ cs ss) :
  jwp C d mc ms RT k_Book_bringToOrder j0 q_Book_bringToOrder P 2 0 [some (vR x0), some (vR x1), none, none, none, none, none, none, none] [] G σ cs ss := h
set_option maxRecDepth 20000 in
theorem b_Book_bringToOrder_2 {C : jC} {d mc ms : Nat} {RT : Int → jG → jH → Prop} {P : jK} {G : jG} {σ : jH} {cs ss : Nat} {x0 : Int} {x1 : Int} {x2 : Int} (h :
  (G.2.1 x0).1 = 9 ∧
  (((σ x0 1) ≤ x2 →
    RT 0 G σ) ∧
  (x2 < (σ x0 1) →
    (((600 : Int) ≤ x2 →
      RT 0 G σ) ∧
    (x2 < 600 →
      (G.2.1 x0).1 = 9 ∧
      (G.2.1 (G.2.2 x0 2)).1 = 12 ∧
      (G.2.1 (G.2.2 (G.2.2 x0 2) 0)).1 = 4 ∧ (0 : Int) ≤ x2 ∧ x2 < (G.2.1 (G.2.2 (G.2.2 x0 2) 0)).2 ∧
      cN C.1 d m_Key_mapped [vL (σ (G.2.2 (G.2.2 x0 2) 0) x2), vR x1] G σ (fun (r1 : Int) (σ1 : jH) =>
      (G.2.1 x0).1 = 9 ∧
      (G.2.1 (G.2.2 x0 2)).1 = 12 ∧
      (G.2.1 (G.2.2 (G.2.2 x0 2) 1)).1 = 4 ∧ (0 : Int) ≤ x2 ∧ x2 < (G.2.1 (G.2.2 (G.2.2 x0 2) 1)).2 ∧
      cN C.1 d m_Key_mapped [vL (σ1 (G.2.2 (G.2.2 x0 2) 1) x2), vR x1] G σ1 (fun (r2 : Int) (σ2 : jH) =>
      (G.2.1 x0).1 = 9 ∧
      (G.2.1 (G.2.2 x0 4)).1 = 12 ∧
      cN C.1 d m_KeyRow_find [vR (G.2.2 x0 4), vI x2, vL r1, vL r2] G σ2 (fun (r3 : Int) (σ3 : jH) =>
      (((0 : Int) ≤ r3 →
        P 73 [some (vR x0), some (vR x1), some (vI x2), some (vL r1), none, some (vL r2), none, none, none] [vI r3] G σ3 cs ss) ∧
      (r3 < 0 →
        P 73 [some (vR x0), some (vR x1), some (vI x2), some (vL r1), none, some (vL r2), none, none, none] [vI (w32 ((-1) - r3))] G σ3 cs ss)))))))))) :
  jwp C d mc ms RT k_Book_bringToOrder j0 q_Book_bringToOrder P 36 2 [some (vR x0), some (vR x1), some (vI x2), none, none, none, none, none, none] [] G σ cs ss := h
set_option maxRecDepth 20000 in
theorem b_Book_bringToOrder_73 {C : jC} {d mc ms : Nat} {RT : Int → jG → jH → Prop} {P : jK} {G : jG} {σ : jH} {cs ss : Nat} {x0 : Int} {x1 : Int} {x2 : Int} {x3 : Int} {x5 : Int} {s0 : Int} (h :
  ((s0 < 0 →
    P 2 [some (vR x0), some (vR x1), some (vI (w32 (x2 + 1))), none, none, none, none, none, none] [] G σ cs ss) ∧
  ((0 : Int) ≤ s0 →
    ((x2 < s0 →
      P 2 [some (vR x0), some (vR x1), some (vI (w32 (x2 + 1))), none, none, none, none, none, none] [] G σ cs ss) ∧
    (s0 ≤ x2 →
      (G.2.1 x0).1 = 9 ∧
      (G.2.1 (G.2.2 x0 4)).1 = 12 ∧
      cN C.1 d m_KeyRow_insert [vR (G.2.2 x0 4), vI x2, vI s0, vL x3, vL x5] G σ (fun (r1 : Int) (σ1 : jH) =>
      (G.2.1 x0).1 = 9 ∧
      (G.2.1 x0).1 = 9 ∧
      1 ≤ d ∧ (G.2.1 (G.2.2 x0 3)).1 = 1 ∧ (G.2.1 (G.2.2 x0 3)).1 = 1 ∧ (0 : Int) ≤ s0 ∧ (0 : Int) ≤ (w32 (s0 + 1)) ∧ (0 : Int) ≤ (w32 (x2 - s0)) ∧ s0 + (w32 (x2 - s0)) ≤ (G.2.1 (G.2.2 x0 3)).2 ∧ (w32 (s0 + 1)) + (w32 (x2 - s0)) ≤ (G.2.1 (G.2.2 x0 3)).2 ∧
      (G.2.1 x0).1 = 9 ∧
      (G.2.1 (G.2.2 x0 3)).1 = 1 ∧ (0 : Int) ≤ s0 ∧ s0 < (G.2.1 (G.2.2 x0 3)).2 ∧
      P 2 [some (vR x0), some (vR x1), some (vI (w32 (x2 + 1))), none, none, none, none, none, none] [] G (ju (jcpy σ1 (G.2.2 x0 3) s0 (G.2.2 x0 3) (w32 (s0 + 1)) (w32 (x2 - s0))) (G.2.2 x0 3) s0 x2) cs ss)))))) :
  jwp C d mc ms RT k_Book_bringToOrder j0 q_Book_bringToOrder P 32 73 [some (vR x0), some (vR x1), some (vI x2), some (vL x3), none, some (vL x5), none, none, none] [vI s0] G σ cs ss := h

def q_Words_has : List (Nat × List Bool) := []
set_option maxRecDepth 20000 in
theorem b_Words_has_0 {C : jC} {d mc ms : Nat} {RT : Int → jG → jH → Prop} {P : jK} {G : jG} {σ : jH} {cs ss : Nat} {x0 : Int} {x1 : Int} (h :
  ((x1 < 0 →
    ((0 : Int) = 0 ∨ (0 : Int) = 1) ∧ RT 0 G σ) ∧
  ((0 : Int) ≤ x1 →
    (G.2.1 x0).1 = 18 ∧
    (((σ x0 0) ≤ x1 →
      ((0 : Int) = 0 ∨ (0 : Int) = 1) ∧ RT 0 G σ) ∧
    (x1 < (σ x0 0) →
      (((300 : Int) ≤ x1 →
        ((0 : Int) = 0 ∨ (0 : Int) = 1) ∧ RT 0 G σ) ∧
      (x1 < 300 →
        ((1 : Int) = 0 ∨ (1 : Int) = 1) ∧ RT 1 G σ))))))) :
  jwp C d mc ms RT k_Words_has j0 q_Words_has P 12 0 [some (vR x0), some (vI x1)] [] G σ cs ss := h

def q_Book_has : List (Nat × List Bool) := []
set_option maxRecDepth 20000 in
theorem b_Book_has_0 {C : jC} {d mc ms : Nat} {RT : Int → jG → jH → Prop} {P : jK} {G : jG} {σ : jH} {cs ss : Nat} {x0 : Int} {x1 : Int} (h :
  ((x1 < 0 →
    ((0 : Int) = 0 ∨ (0 : Int) = 1) ∧ RT 0 G σ) ∧
  ((0 : Int) ≤ x1 →
    (G.2.1 x0).1 = 9 ∧
    (((σ x0 1) ≤ x1 →
      ((0 : Int) = 0 ∨ (0 : Int) = 1) ∧ RT 0 G σ) ∧
    (x1 < (σ x0 1) →
      (((600 : Int) ≤ x1 →
        ((0 : Int) = 0 ∨ (0 : Int) = 1) ∧ RT 0 G σ) ∧
      (x1 < 600 →
        ((1 : Int) = 0 ∨ (1 : Int) = 1) ∧ RT 1 G σ))))))) :
  jwp C d mc ms RT k_Book_has j0 q_Book_has P 12 0 [some (vR x0), some (vI x1)] [] G σ cs ss := h

def q_Words_oftenOf : List (Nat × List Bool) := []
set_option maxRecDepth 20000 in
theorem b_Words_oftenOf_0 {C : jC} {d mc ms : Nat} {RT : Int → jG → jH → Prop} {P : jK} {G : jG} {σ : jH} {cs ss : Nat} {x0 : Int} {x1 : Int} (h :
  ((x1 < 0 →
    RT 0 G σ) ∧
  ((0 : Int) ≤ x1 →
    (((600 : Int) ≤ x1 →
      RT 0 G σ) ∧
    (x1 < 600 →
      (G.2.1 x0).1 = 18 ∧
      (G.2.1 (G.2.2 x0 6)).1 = 1 ∧ (0 : Int) ≤ x1 ∧ x1 < (G.2.1 (G.2.2 x0 6)).2 ∧
      RT (σ (G.2.2 x0 6) x1) G σ))))) :
  jwp C d mc ms RT k_Words_oftenOf j0 q_Words_oftenOf P 11 0 [some (vR x0), some (vI x1)] [] G σ cs ss := h

def q_Words_placeOf : List (Nat × List Bool) := []
set_option maxRecDepth 20000 in
theorem b_Words_placeOf_0 {C : jC} {d mc ms : Nat} {RT : Int → jG → jH → Prop} {P : jK} {G : jG} {σ : jH} {cs ss : Nat} {x0 : Int} {x1 : Int} {x2 : Int} (h :
  ((x1 < 0 →
    RT (-1) G σ) ∧
  ((0 : Int) ≤ x1 →
    (((600 : Int) ≤ x1 →
      RT (-1) G σ) ∧
    (x1 < 600 →
      ((x2 < 0 →
        RT (-1) G σ) ∧
      ((0 : Int) ≤ x2 →
        (G.2.1 x0).1 = 18 ∧
        (G.2.1 (G.2.2 x0 6)).1 = 1 ∧ (0 : Int) ≤ x1 ∧ x1 < (G.2.1 (G.2.2 x0 6)).2 ∧
        ((x2 < (σ (G.2.2 x0 6) x1) →
          (G.2.1 x0).1 = 18 ∧
          (G.2.1 (G.2.2 x0 8)).1 = 1 ∧ (0 : Int) ≤ x1 ∧ x1 < (G.2.1 (G.2.2 x0 8)).2 ∧
          (((w32 ((σ (G.2.2 x0 8) x1) + x2)) < 0 →
            RT (-1) G σ) ∧
          ((0 : Int) ≤ (w32 ((σ (G.2.2 x0 8) x1) + x2)) →
            (((300 : Int) ≤ (w32 ((σ (G.2.2 x0 8) x1) + x2)) →
              RT (-1) G σ) ∧
            ((w32 ((σ (G.2.2 x0 8) x1) + x2)) < 300 →
              (G.2.1 x0).1 = 18 ∧
              (G.2.1 (G.2.2 x0 7)).1 = 1 ∧ (0 : Int) ≤ (w32 ((σ (G.2.2 x0 8) x1) + x2)) ∧ (w32 ((σ (G.2.2 x0 8) x1) + x2)) < (G.2.1 (G.2.2 x0 7)).2 ∧
              RT (σ (G.2.2 x0 7) (w32 ((σ (G.2.2 x0 8) x1) + x2))) G σ))))) ∧
        ((σ (G.2.2 x0 6) x1) ≤ x2 →
          RT (-1) G σ))))))))) :
  jwp C d mc ms RT k_Words_placeOf j0 q_Words_placeOf P 31 0 [some (vR x0), some (vI x1), some (vI x2), none] [] G σ cs ss := h

def q_Words_lineOfPlace : List (Nat × List Bool) := []
set_option maxRecDepth 20000 in
theorem b_Words_lineOfPlace_0 {C : jC} {d mc ms : Nat} {RT : Int → jG → jH → Prop} {P : jK} {G : jG} {σ : jH} {cs ss : Nat} {x0 : Int} {x1 : Int} (h :
  ((x1 < 0 →
    RT (-1) G σ) ∧
  ((0 : Int) ≤ x1 →
    (((300 : Int) ≤ x1 →
      RT (-1) G σ) ∧
    (x1 < 300 →
      (G.2.1 x0).1 = 18 ∧
      (G.2.1 (G.2.2 x0 2)).1 = 1 ∧ (0 : Int) ≤ x1 ∧ x1 < (G.2.1 (G.2.2 x0 2)).2 ∧
      RT (σ (G.2.2 x0 2) x1) G σ))))) :
  jwp C d mc ms RT k_Words_lineOfPlace j0 q_Words_lineOfPlace P 11 0 [some (vR x0), some (vI x1)] [] G σ cs ss := h

def q_Words_leastBits : List (Nat × List Bool) := [(9, [true, true, true, true])]
set_option maxRecDepth 20000 in
theorem b_Words_leastBits_0 {C : jC} {d mc ms : Nat} {RT : Int → jG → jH → Prop} {P : jK} {G : jG} {σ : jH} {cs ss : Nat} {x0 : Int} {x1 : Int} (h :
  (G.2.1 x0).1 = 18 ∧
  cN C.1 d m_Words_bits [vR x0, vI x1, vI 0] G σ (fun (r1 : Int) (σ1 : jH) =>
  P 9 [some (vR x0), some (vI x1), some (vI r1), some (vI 1)] [] G σ1 cs ss)) :
  jwp C d mc ms RT k_Words_leastBits j0 q_Words_leastBits P 7 0 [some (vR x0), some (vI x1), none, none] [] G σ cs ss := h
set_option maxRecDepth 20000 in
theorem b_Words_leastBits_9 {C : jC} {d mc ms : Nat} {RT : Int → jG → jH → Prop} {P : jK} {G : jG} {σ : jH} {cs ss : Nat} {x0 : Int} {x1 : Int} {x2 : Int} {x3 : Int} (h :
  (((10 : Int) < x3 →
    RT x2 G σ) ∧
  (x3 ≤ 10 →
    (G.2.1 x0).1 = 18 ∧
    cN C.1 d m_Words_bits [vR x0, vI x1, vI x3] G σ (fun (r1 : Int) (σ1 : jH) =>
    1 ≤ d ∧
    P 9 [some (vR x0), some (vI x1), some (vI (min x2 r1)), some (vI (w32 (x3 + 1)))] [] G σ1 cs ss)))) :
  jwp C d mc ms RT k_Words_leastBits j0 q_Words_leastBits P 12 9 [some (vR x0), some (vI x1), some (vI x2), some (vI x3)] [] G σ cs ss := h

def q_Words_bits : List (Nat × List Bool) := [(8, [true, true, true, true, true, true, false])]
set_option maxRecDepth 20000 in
theorem b_Words_bits_0 {C : jC} {d mc ms : Nat} {RT : Int → jG → jH → Prop} {P : jK} {G : jG} {σ : jH} {cs ss : Nat} {x0 : Int} {x1 : Int} {x2 : Int} (h :
  P 8 [some (vR x0), some (vI x1), some (vI x2), some (vI 0), some (vI (-1)), some (vI 0), none] [] G σ cs ss) :
  jwp C d mc ms RT k_Words_bits j0 q_Words_bits P 6 0 [some (vR x0), some (vI x1), some (vI x2), none, none, none, none] [] G σ cs ss := h
set_option maxRecDepth 20000 in
theorem b_Words_bits_8 {C : jC} {d mc ms : Nat} {RT : Int → jG → jH → Prop} {P : jK} {G : jG} {σ : jH} {cs ss : Nat} {x0 : Int} {x1 : Int} {x2 : Int} {x3 : Int} {x4 : Int} {x5 : Int} (h :
  (G.2.1 x0).1 = 18 ∧
  cN C.1 d m_Words_oftenOf [vR x0, vI x1] G σ (fun (r1 : Int) (σ1 : jH) =>
  ((r1 ≤ x5 →
    RT x3 G σ1) ∧
  (x5 < r1 →
    (G.2.1 x0).1 = 18 ∧
    cN C.1 d m_Words_placeOf [vR x0, vI x1, vI x5] G σ1 (fun (r2 : Int) (σ2 : jH) =>
    P 8 [some (vR x0), some (vI x1), some (vI x2), some (vI (w32 (x3 + (w32 ((w32 ((jshr32 (w32 ((w32 (r2 - x4)) - 1)) x2) + 1)) + x2))))), some (vI r2), some (vI (w32 (x5 + 1))), none] [] G σ2 cs ss))))) :
  jwp C d mc ms RT k_Words_bits j0 q_Words_bits P 28 8 [some (vR x0), some (vI x1), some (vI x2), some (vI x3), some (vI x4), some (vI x5), none] [] G σ cs ss := h

def q_Words_divide : List (Nat × List Bool) := [(11, [true, true, false, true, true, true, false, false]), (44, [true, true, false, true, true, true, true, true]), (63, [true, true, false, true, true, true, true, true])]
set_option maxRecDepth 20000 in
theorem b_Words_divide_0 {C : jC} {d mc ms : Nat} {RT : Int → jG → jH → Prop} {P : jK} {G : jG} {σ : jH} {cs ss : Nat} {x0 : Int} {x1 : Int} {x2 : Int} {x3 : Int} (h :
  1 ≤ d ∧
  P 11 [some (vR x0), some (vI x1), none, some (vR x3), some (vI (min x2 40)), some (vI 0), none, none] [] G σ cs ss) :
  jwp C d mc ms RT k_Words_divide j0 q_Words_divide P 6 0 [some (vR x0), some (vI x1), some (vI x2), some (vR x3), none, none, none, none] [] G σ cs ss := h
set_option maxRecDepth 20000 in
theorem b_Words_divide_11 {C : jC} {d mc ms : Nat} {RT : Int → jG → jH → Prop} {P : jK} {G : jG} {σ : jH} {cs ss : Nat} {x0 : Int} {x1 : Int} {x3 : Int} {x4 : Int} {x5 : Int} (h :
  (((300 : Int) ≤ x5 →
    P 44 [some (vR x0), some (vI x1), none, some (vR x3), some (vI x4), some (vI x5), some (vI 0), some (vI 0)] [] G σ cs ss) ∧
  (x5 < 300 →
    (G.2.1 x0).1 = 18 ∧
    cN C.1 d m_Words_handsNeeded [vR x0, vI 0, vI x4, vI x5] G σ (fun (r1 : Int) (σ1 : jH) =>
    ((r1 ≤ x1 →
      P 44 [some (vR x0), some (vI x1), none, some (vR x3), some (vI x4), some (vI x5), some (vI 0), some (vI 0)] [] G σ1 cs ss) ∧
    (x1 < r1 →
      P 11 [some (vR x0), some (vI x1), none, some (vR x3), some (vI x4), some (vI (w32 (x5 + 1))), none, none] [] G σ1 cs ss)))))) :
  jwp C d mc ms RT k_Words_divide j0 q_Words_divide P 14 11 [some (vR x0), some (vI x1), none, some (vR x3), some (vI x4), some (vI x5), none, none] [] G σ cs ss := h
set_option maxRecDepth 20000 in
theorem b_Words_divide_44 {C : jC} {d mc ms : Nat} {RT : Int → jG → jH → Prop} {P : jK} {G : jG} {σ : jH} {cs ss : Nat} {x0 : Int} {x1 : Int} {x3 : Int} {x4 : Int} {x5 : Int} {x6 : Int} {x7 : Int} (h :
  ((x1 ≤ x7 →
    RT x5 G σ) ∧
  (x7 < x1 →
    (1 ≤ (G.2.1 x3).1 ∧ (G.2.1 x3).1 ≤ 7) ∧
    (((G.2.1 x3).2 ≤ x7 →
      RT x5 G σ) ∧
    (x7 < (G.2.1 x3).2 →
      (G.2.1 x3).1 = 1 ∧ (0 : Int) ≤ x7 ∧ x7 < (G.2.1 x3).2 ∧
      P 63 [some (vR x0), some (vI x1), none, some (vR x3), some (vI x4), some (vI x5), some (vI x6), some (vI x7)] [] G (ju σ x3 x7 x6) cs ss))))) :
  jwp C d mc ms RT k_Words_divide j0 q_Words_divide P 11 44 [some (vR x0), some (vI x1), none, some (vR x3), some (vI x4), some (vI x5), some (vI x6), some (vI x7)] [] G σ cs ss := h
set_option maxRecDepth 20000 in
theorem b_Words_divide_63 {C : jC} {d mc ms : Nat} {RT : Int → jG → jH → Prop} {P : jK} {G : jG} {σ : jH} {cs ss : Nat} {x0 : Int} {x1 : Int} {x3 : Int} {x4 : Int} {x5 : Int} {x6 : Int} {x7 : Int} (h :
  ((x4 ≤ x6 →
    P 44 [some (vR x0), some (vI x1), none, some (vR x3), some (vI x4), some (vI x5), some (vI x6), some (vI (w32 (x7 + 1)))] [] G σ cs ss) ∧
  (x6 < x4 →
    (G.2.1 x0).1 = 18 ∧
    cN C.1 d m_Words_handsNeeded [vR x0, vI x6, vI x4, vI x5] G σ (fun (r1 : Int) (σ1 : jH) =>
    ((r1 ≤ (w32 ((w32 (x1 - x7)) - 1)) →
      P 44 [some (vR x0), some (vI x1), none, some (vR x3), some (vI x4), some (vI x5), some (vI x6), some (vI (w32 (x7 + 1)))] [] G σ1 cs ss) ∧
    ((w32 ((w32 (x1 - x7)) - 1)) < r1 →
      P 63 [some (vR x0), some (vI x1), none, some (vR x3), some (vI x4), some (vI x5), some (vI (w32 (x6 + 1))), some (vI x7)] [] G σ1 cs ss)))))) :
  jwp C d mc ms RT k_Words_divide j0 q_Words_divide P 16 63 [some (vR x0), some (vI x1), none, some (vR x3), some (vI x4), some (vI x5), some (vI x6), some (vI x7)] [] G σ cs ss := h

def q_Words_handsNeeded : List (Nat × List Bool) := [(10, [true, true, true, true, false, false, false]), (22, [true, false, true, true, true, true, true])]
set_option maxRecDepth 20000 in
theorem b_Words_handsNeeded_0 {C : jC} {d mc ms : Nat} {RT : Int → jG → jH → Prop} {P : jK} {G : jG} {σ : jH} {cs ss : Nat} {x0 : Int} {x1 : Int} {x2 : Int} {x3 : Int} (h :
  ((x2 ≤ x1 →
    P 10 [some (vR x0), some (vI x1), some (vI x2), some (vI x3), none, none, none] [vI 0] G σ cs ss) ∧
  (x1 < x2 →
    P 10 [some (vR x0), some (vI x1), some (vI x2), some (vI x3), none, none, none] [vI 1] G σ cs ss))) :
  jwp C d mc ms RT k_Words_handsNeeded j0 q_Words_handsNeeded P 5 0 [some (vR x0), some (vI x1), some (vI x2), some (vI x3), none, none, none] [] G σ cs ss := h
set_option maxRecDepth 20000 in
theorem b_Words_handsNeeded_10 {C : jC} {d mc ms : Nat} {RT : Int → jG → jH → Prop} {P : jK} {G : jG} {σ : jH} {cs ss : Nat} {x0 : Int} {x1 : Int} {x2 : Int} {x3 : Int} {s0 : Int} (h :
  1 ≤ d ∧
  P 22 [some (vR x0), none, some (vI x2), some (vI x3), some (vI s0), some (vI 0), some (vI (max 0 x1))] [] G σ cs ss) :
  jwp C d mc ms RT k_Words_handsNeeded j0 q_Words_handsNeeded P 7 10 [some (vR x0), some (vI x1), some (vI x2), some (vI x3), none, none, none] [vI s0] G σ cs ss := h
set_option maxRecDepth 20000 in
theorem b_Words_handsNeeded_22 {C : jC} {d mc ms : Nat} {RT : Int → jG → jH → Prop} {P : jK} {G : jG} {σ : jH} {cs ss : Nat} {x0 : Int} {x2 : Int} {x3 : Int} {x4 : Int} {x5 : Int} {x6 : Int} (h :
  ((x2 ≤ x6 →
    RT x4 G σ) ∧
  (x6 < x2 →
    (((40 : Int) ≤ x6 →
      RT x4 G σ) ∧
    (x6 < 40 →
      (G.2.1 x0).1 = 18 ∧
      (G.2.1 (G.2.2 x0 10)).1 = 1 ∧ (0 : Int) ≤ x6 ∧ x6 < (G.2.1 (G.2.2 x0 10)).2 ∧
      (((σ (G.2.2 x0 10) x6) ≤ x3 →
        (G.2.1 x0).1 = 18 ∧
        (G.2.1 (G.2.2 x0 10)).1 = 1 ∧ (0 : Int) ≤ x6 ∧ x6 < (G.2.1 (G.2.2 x0 10)).2 ∧
        (((w32 (x5 + (σ (G.2.2 x0 10) x6))) ≤ x3 →
          P 22 [some (vR x0), none, some (vI x2), some (vI x3), some (vI x4), some (vI (w32 (x5 + (σ (G.2.2 x0 10) x6)))), some (vI (w32 (x6 + 1)))] [] G σ cs ss) ∧
        (x3 < (w32 (x5 + (σ (G.2.2 x0 10) x6))) →
          (G.2.1 x0).1 = 18 ∧
          (G.2.1 (G.2.2 x0 10)).1 = 1 ∧ (0 : Int) ≤ x6 ∧ x6 < (G.2.1 (G.2.2 x0 10)).2 ∧
          P 22 [some (vR x0), none, some (vI x2), some (vI x3), some (vI (w32 (x4 + 1))), some (vI (σ (G.2.2 x0 10) x6)), some (vI (w32 (x6 + 1)))] [] G σ cs ss))) ∧
      (x3 < (σ (G.2.2 x0 10) x6) →
        RT 41 G σ))))))) :
  jwp C d mc ms RT k_Words_handsNeeded j0 q_Words_handsNeeded P 30 22 [some (vR x0), none, some (vI x2), some (vI x3), some (vI x4), some (vI x5), some (vI x6)] [] G σ cs ss := h

def q_Words_clearWorths : List (Nat × List Bool) := []
set_option maxRecDepth 20000 in
theorem b_Words_clearWorths_0 {C : jC} {d mc ms : Nat} {RT : Int → jG → jH → Prop} {P : jK} {G : jG} {σ : jH} {cs ss : Nat} {x0 : Int} (h :
  (G.2.1 x0).1 = 18 ∧
  cN C.1 d m_Arrays_fill [vR (G.2.2 x0 11), vI 0] G σ (fun (r1 : Int) (σ1 : jH) =>
  (G.2.1 x0).1 = 18 ∧
  cN C.1 d m_Arrays_fill2 [vR (G.2.2 x0 12), vI 0] G σ1 (fun (r2 : Int) (σ2 : jH) =>
  RT 0 G σ2))) :
  jwp C d mc ms RT k_Words_clearWorths j0 q_Words_clearWorths P 9 0 [some (vR x0)] [] G σ cs ss := h

def q_Words_addWorths : List (Nat × List Bool) := [(39, [true, true, true, true, true, false])]
set_option maxRecDepth 20000 in
theorem b_Words_addWorths_0 {C : jC} {d mc ms : Nat} {RT : Int → jG → jH → Prop} {P : jK} {G : jG} {σ : jH} {cs ss : Nat} {x0 : Int} {x1 : Int} (h :
  ((x1 < 0 →
    RT 0 G σ) ∧
  ((0 : Int) ≤ x1 →
    (((600 : Int) ≤ x1 →
      RT 0 G σ) ∧
    (x1 < 600 →
      (G.2.1 x0).1 = 18 ∧
      (G.2.1 (G.2.2 x0 12)).1 = 2 ∧ (0 : Int) ≤ x1 ∧ x1 < (G.2.1 (G.2.2 x0 12)).2 ∧
      (((σ (G.2.2 x0 12) x1) = 0 →
        (G.2.1 x0).1 = 18 ∧
        (G.2.1 (G.2.2 x0 12)).1 = 2 ∧ (0 : Int) ≤ x1 ∧ x1 < (G.2.1 (G.2.2 x0 12)).2 ∧
        (G.2.1 x0).1 = 18 ∧
        cN C.1 d m_Words_linesWith [vR x0, vI x1] G (ju σ (G.2.2 x0 12) x1 (w8 1)) (fun (r1 : Int) (σ1 : jH) =>
        P 39 [some (vR x0), some (vI x1), some (vI r1), some (vI (-1)), some (vI 0), none] [] G σ1 cs ss)) ∧
      ((σ (G.2.2 x0 12) x1) ≠ 0 →
        RT 0 G σ))))))) :
  jwp C d mc ms RT k_Words_addWorths j0 q_Words_addWorths P 23 0 [some (vR x0), some (vI x1), none, none, none, none] [] G σ cs ss := h
set_option maxRecDepth 20000 in
theorem b_Words_addWorths_39 {C : jC} {d mc ms : Nat} {RT : Int → jG → jH → Prop} {P : jK} {G : jG} {σ : jH} {cs ss : Nat} {x0 : Int} {x1 : Int} {x2 : Int} {x3 : Int} {x4 : Int} (h :
  (G.2.1 x0).1 = 18 ∧
  cN C.1 d m_Words_oftenOf [vR x0, vI x1] G σ (fun (r1 : Int) (σ1 : jH) =>
  ((r1 ≤ x4 →
    RT 0 G σ1) ∧
  (x4 < r1 →
    ((x2 ≤ 0 →
      RT 0 G σ1) ∧
    ((0 : Int) < x2 →
      (G.2.1 x0).1 = 18 ∧
      cN C.1 d m_Words_placeOf [vR x0, vI x1, vI x4] G σ1 (fun (r2 : Int) (σ2 : jH) =>
      (G.2.1 x0).1 = 18 ∧
      cN C.1 d m_Words_lineOfPlace [vR x0, vI r2] G σ2 (fun (r3 : Int) (σ3 : jH) =>
      ((r3 = x3 →
        P 39 [some (vR x0), some (vI x1), some (vI x2), some (vI r3), some (vI (w32 (x4 + 1))), none] [] G σ3 cs ss) ∧
      (r3 ≠ x3 →
        ((r3 < 0 →
          P 39 [some (vR x0), some (vI x1), some (vI x2), some (vI r3), some (vI (w32 (x4 + 1))), none] [] G σ3 cs ss) ∧
        ((0 : Int) ≤ r3 →
          (((40 : Int) ≤ r3 →
            P 39 [some (vR x0), some (vI x1), some (vI x2), some (vI r3), some (vI (w32 (x4 + 1))), none] [] G σ3 cs ss) ∧
          (r3 < 40 →
            (G.2.1 x0).1 = 18 ∧
            (G.2.1 (G.2.2 x0 11)).1 = 1 ∧ (0 : Int) ≤ r3 ∧ r3 < (G.2.1 (G.2.2 x0 11)).2 ∧
            x2 ≠ 0 ∧
            (G.2.1 (G.2.2 x0 11)).1 = 1 ∧ (0 : Int) ≤ r3 ∧ r3 < (G.2.1 (G.2.2 x0 11)).2 ∧
            P 39 [some (vR x0), some (vI x1), some (vI x2), some (vI r3), some (vI (w32 (x4 + 1))), none] [] G (ju σ3 (G.2.2 x0 11) r3 (w32 ((σ3 (G.2.2 x0 11) r3) + (w32 (Int.tdiv 1000 x2))))) cs ss)))))))))))))) :
  jwp C d mc ms RT k_Words_addWorths j0 q_Words_addWorths P 36 39 [some (vR x0), some (vI x1), some (vI x2), some (vI x3), some (vI x4), none] [] G σ cs ss := h

def q_Words_linesWith : List (Nat × List Bool) := [(7, [true, true, true, true, true, false])]
set_option maxRecDepth 20000 in
theorem b_Words_linesWith_0 {C : jC} {d mc ms : Nat} {RT : Int → jG → jH → Prop} {P : jK} {G : jG} {σ : jH} {cs ss : Nat} {x0 : Int} {x1 : Int} (h :
  P 7 [some (vR x0), some (vI x1), some (vI 0), some (vI (-1)), some (vI 0), none] [] G σ cs ss) :
  jwp C d mc ms RT k_Words_linesWith j0 q_Words_linesWith P 6 0 [some (vR x0), some (vI x1), none, none, none, none] [] G σ cs ss := h
set_option maxRecDepth 20000 in
theorem b_Words_linesWith_7 {C : jC} {d mc ms : Nat} {RT : Int → jG → jH → Prop} {P : jK} {G : jG} {σ : jH} {cs ss : Nat} {x0 : Int} {x1 : Int} {x2 : Int} {x3 : Int} {x4 : Int} (h :
  (G.2.1 x0).1 = 18 ∧
  cN C.1 d m_Words_oftenOf [vR x0, vI x1] G σ (fun (r1 : Int) (σ1 : jH) =>
  ((r1 ≤ x4 →
    RT x2 G σ1) ∧
  (x4 < r1 →
    (G.2.1 x0).1 = 18 ∧
    cN C.1 d m_Words_placeOf [vR x0, vI x1, vI x4] G σ1 (fun (r2 : Int) (σ2 : jH) =>
    (G.2.1 x0).1 = 18 ∧
    cN C.1 d m_Words_lineOfPlace [vR x0, vI r2] G σ2 (fun (r3 : Int) (σ3 : jH) =>
    ((r3 = x3 →
      P 7 [some (vR x0), some (vI x1), some (vI (w32 (x2 + 0))), some (vI r3), some (vI (w32 (x4 + 1))), none] [] G σ3 cs ss) ∧
    (r3 ≠ x3 →
      P 7 [some (vR x0), some (vI x1), some (vI (w32 (x2 + 1))), some (vI r3), some (vI (w32 (x4 + 1))), none] [] G σ3 cs ss)))))))) :
  jwp C d mc ms RT k_Words_linesWith j0 q_Words_linesWith P 24 7 [some (vR x0), some (vI x1), some (vI x2), some (vI x3), some (vI x4), none] [] G σ cs ss := h

def q_Book_beginsWith : List (Nat × List Bool) := []
set_option maxRecDepth 20000 in
theorem b_Book_beginsWith_0 {C : jC} {d mc ms : Nat} {RT : Int → jG → jH → Prop} {P : jK} {G : jG} {σ : jH} {cs ss : Nat} {x0 : Int} {x1 : Int} {x2 : Int} (h :
  (G.2.1 x0).1 = 9 ∧
  cN C.1 d m_Book_has [vR x0, vI x1] G σ (fun (r1 : Int) (σ1 : jH) =>
  ((r1 ≠ 0 →
    (G.2.1 x2).1 = 11 ∧
    cN C.1 d m_Key_firstBits [vI (σ1 x2 2)] G σ1 (fun (r2 : Int) (σ2 : jH) =>
    (G.2.1 x2).1 = 11 ∧
    cN C.1 d m_Key_firstBits [vI (w32 ((σ2 x2 2) - 10))] G σ2 (fun (r3 : Int) (σ3 : jH) =>
    (G.2.1 x0).1 = 9 ∧
    (G.2.1 (G.2.2 x0 2)).1 = 12 ∧
    (G.2.1 (G.2.2 (G.2.2 x0 2) 0)).1 = 4 ∧ (0 : Int) ≤ x1 ∧ x1 < (G.2.1 (G.2.2 (G.2.2 x0 2) 0)).2 ∧
    (G.2.1 x2).1 = 11 ∧
    (((jcmp (jand64 (σ3 (G.2.2 (G.2.2 x0 2) 0) x1) r2) (σ3 x2 0)) ≠ 0 →
      ((0 : Int) = 0 ∨ (0 : Int) = 1) ∧ RT 0 G σ3) ∧
    ((jcmp (jand64 (σ3 (G.2.2 (G.2.2 x0 2) 0) x1) r2) (σ3 x2 0)) = 0 →
      (G.2.1 x0).1 = 9 ∧
      (G.2.1 (G.2.2 x0 2)).1 = 12 ∧
      (G.2.1 (G.2.2 (G.2.2 x0 2) 1)).1 = 4 ∧ (0 : Int) ≤ x1 ∧ x1 < (G.2.1 (G.2.2 (G.2.2 x0 2) 1)).2 ∧
      (G.2.1 x2).1 = 11 ∧
      (((jcmp (jand64 (σ3 (G.2.2 (G.2.2 x0 2) 1) x1) r3) (σ3 x2 1)) ≠ 0 →
        ((0 : Int) = 0 ∨ (0 : Int) = 1) ∧ RT 0 G σ3) ∧
      ((jcmp (jand64 (σ3 (G.2.2 (G.2.2 x0 2) 1) x1) r3) (σ3 x2 1)) = 0 →
        ((1 : Int) = 0 ∨ (1 : Int) = 1) ∧ RT 1 G σ3))))))) ∧
  (r1 = 0 →
    ((0 : Int) = 0 ∨ (0 : Int) = 1) ∧ RT 0 G σ1)))) :
  jwp C d mc ms RT k_Book_beginsWith j0 q_Book_beginsWith P 39 0 [some (vR x0), some (vI x1), some (vR x2), none, none, none, none] [] G σ cs ss := h
