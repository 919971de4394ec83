/-! Blocks: what must hold ahead of each piece of a method -/
def q_WordPlaces_init : List (Nat × List Bool) := [(13, [true]), (18, [true]), (29, [true]), (44, [true]), (54, [true]), (64, [true]), (67, [true]), (74, [true]), (85, [true]), (96, [true]), (111, [true]), (126, [true]), (152, [true]), (163, [true]), (171, [true]), (176, [true]), (184, [true]), (192, [true]), (197, [true]), (202, [true]), (207, [true]), (216, [true]), (227, [true])]
set_option maxRecDepth 20000 in
theorem b_WordPlaces_init_0 {C : jC} {d mc ms : Nat} {RT : Int → jG → jH → Prop} {P : jK} {G : jG} {σ : jH} {cs ss : Nat} {x0 : Int} (h :
  1 ≤ d ∧ 0 < x0 ∧
  (0 : Int) ≤ 400 ∧ (400 : Int) < 60000000 ∧ cs + 1 ≤ mc ∧ ss + Int.toNat 400 ≤ ms ∧
  ((jnewG G 2 400).2.1 x0).1 = 19 ∧
  P 13 [some (vR x0)] [] (((jnewG G 2 400).1, (jnewG G 2 400).2.1, ju (jnewG G 2 400).2.2 x0 0 ((G.1 + 1 : Nat) : Int)) : jG) (jnewH G σ) (cs + 1) (ss + Int.toNat 400)) :
  jwp C d mc ms RT k_WordPlaces_init j0 q_WordPlaces_init P 6 0 [some (vR x0)] [] G σ cs ss := h
set_option maxRecDepth 20000 in
theorem b_WordPlaces_init_13 {C : jC} {d mc ms : Nat} {RT : Int → jG → jH → Prop} {P : jK} {G : jG} {σ : jH} {cs ss : Nat} {x0 : Int} (h :
  (G.2.1 x0).1 = 19 ∧
  P 18 [some (vR x0)] [] G (ju σ x0 1 0) cs ss) :
  jwp C d mc ms RT k_WordPlaces_init j0 q_WordPlaces_init P 3 13 [some (vR x0)] [] G σ cs ss := h
set_option maxRecDepth 20000 in
theorem b_WordPlaces_init_18 {C : jC} {d mc ms : Nat} {RT : Int → jG → jH → Prop} {P : jK} {G : jG} {σ : jH} {cs ss : Nat} {x0 : Int} (h :
  cs + 1 ≤ mc ∧ ss + 7 ≤ ms ∧
  0 < ((G.1 + 1 : Nat) : Int) ∧ ∃ (d1 : Nat) (P1 : jG → jH → Prop), d1 < d ∧ CallG C.1 d1 22 7800 m_Image_init [vR ((G.1 + 1 : Nat) : Int)] (jnewG G 10 7) (jnewH G σ) (fun _ => P1) ∧ (cs + 1) + 22 ≤ mc ∧ (ss + 7) + 7800 ≤ ms ∧ ∀ (G1 : jG) (σ1 : jH), P1 G1 σ1 →
  (G1.2.1 x0).1 = 19 ∧
  P 29 [some (vR x0)] [] ((G1.1, G1.2.1, ju G1.2.2 x0 2 ((G.1 + 1 : Nat) : Int)) : jG) σ1 ((cs + 1) + 22) ((ss + 7) + 7800)) :
  jwp C d mc ms RT k_WordPlaces_init j0 q_WordPlaces_init P 5 18 [some (vR x0)] [] G σ cs ss := h
set_option maxRecDepth 20000 in
theorem b_WordPlaces_init_29 {C : jC} {d mc ms : Nat} {RT : Int → jG → jH → Prop} {P : jK} {G : jG} {σ : jH} {cs ss : Nat} {x0 : Int} (h :
  (0 : Int) ≤ 3 ∧ (3 : Int) < 60000000 ∧ cs + 1 ≤ mc ∧ ss + Int.toNat 3 ≤ ms ∧
  (cs + 1) + 1 ≤ mc ∧ (ss + Int.toNat 3) + 7 ≤ ms ∧
  0 < (((jnewG G 5 3).1 + 1 : Nat) : Int) ∧ ∃ (d1 : Nat) (P1 : jG → jH → Prop), d1 < d ∧ CallG C.1 d1 22 7800 m_Image_init [vR (((jnewG G 5 3).1 + 1 : Nat) : Int)] (jnewG (jnewG G 5 3) 10 7) (jnewH (jnewG G 5 3) (jnewH G σ)) (fun _ => P1) ∧ ((cs + 1) + 1) + 22 ≤ mc ∧ ((ss + Int.toNat 3) + 7) + 7800 ≤ ms ∧ ∀ (G1 : jG) (σ1 : jH), P1 G1 σ1 →
  (G1.2.1 ((G.1 + 1 : Nat) : Int)).1 = 5 ∧ (0 : Int) ≤ 0 ∧ 0 < (G1.2.1 ((G.1 + 1 : Nat) : Int)).2 ∧
  (G1.2.1 (((jnewG G 5 3).1 + 1 : Nat) : Int)).1 = 10 ∧
  P 44 [some (vR x0)] [vR ((G.1 + 1 : Nat) : Int), vR x0] ((G1.1, G1.2.1, ju G1.2.2 ((G.1 + 1 : Nat) : Int) 0 (((jnewG G 5 3).1 + 1 : Nat) : Int)) : jG) σ1 (((cs + 1) + 1) + 22) (((ss + Int.toNat 3) + 7) + 7800)) :
  jwp C d mc ms RT k_WordPlaces_init j0 q_WordPlaces_init P 9 29 [some (vR x0)] [] G σ cs ss := h
set_option maxRecDepth 20000 in
theorem b_WordPlaces_init_44 {C : jC} {d mc ms : Nat} {RT : Int → jG → jH → Prop} {P : jK} {G : jG} {σ : jH} {cs ss : Nat} {x0 : Int} {s0 : Int} {s1 : Int} (h :
  cs + 1 ≤ mc ∧ ss + 7 ≤ ms ∧
  0 < ((G.1 + 1 : Nat) : Int) ∧ ∃ (d1 : Nat) (P1 : jG → jH → Prop), d1 < d ∧ CallG C.1 d1 22 7800 m_Image_init [vR ((G.1 + 1 : Nat) : Int)] (jnewG G 10 7) (jnewH G σ) (fun _ => P1) ∧ (cs + 1) + 22 ≤ mc ∧ (ss + 7) + 7800 ≤ ms ∧ ∀ (G1 : jG) (σ1 : jH), P1 G1 σ1 →
  (G1.2.1 s1).1 = 5 ∧ (0 : Int) ≤ 1 ∧ 1 < (G1.2.1 s1).2 ∧
  (G1.2.1 ((G.1 + 1 : Nat) : Int)).1 = 10 ∧
  P 54 [some (vR x0)] [vR s1, vR s0] ((G1.1, G1.2.1, ju G1.2.2 s1 1 ((G.1 + 1 : Nat) : Int)) : jG) σ1 ((cs + 1) + 22) ((ss + 7) + 7800)) :
  jwp C d mc ms RT k_WordPlaces_init j0 q_WordPlaces_init P 6 44 [some (vR x0)] [vR s1, vR s0] G σ cs ss := h
set_option maxRecDepth 20000 in
theorem b_WordPlaces_init_54 {C : jC} {d mc ms : Nat} {RT : Int → jG → jH → Prop} {P : jK} {G : jG} {σ : jH} {cs ss : Nat} {x0 : Int} {s0 : Int} {s1 : Int} (h :
  cs + 1 ≤ mc ∧ ss + 7 ≤ ms ∧
  0 < ((G.1 + 1 : Nat) : Int) ∧ ∃ (d1 : Nat) (P1 : jG → jH → Prop), d1 < d ∧ CallG C.1 d1 22 7800 m_Image_init [vR ((G.1 + 1 : Nat) : Int)] (jnewG G 10 7) (jnewH G σ) (fun _ => P1) ∧ (cs + 1) + 22 ≤ mc ∧ (ss + 7) + 7800 ≤ ms ∧ ∀ (G1 : jG) (σ1 : jH), P1 G1 σ1 →
  (G1.2.1 s1).1 = 5 ∧ (0 : Int) ≤ 2 ∧ 2 < (G1.2.1 s1).2 ∧
  (G1.2.1 ((G.1 + 1 : Nat) : Int)).1 = 10 ∧
  P 64 [some (vR x0)] [vR s1, vR s0] ((G1.1, G1.2.1, ju G1.2.2 s1 2 ((G.1 + 1 : Nat) : Int)) : jG) σ1 ((cs + 1) + 22) ((ss + 7) + 7800)) :
  jwp C d mc ms RT k_WordPlaces_init j0 q_WordPlaces_init P 6 54 [some (vR x0)] [vR s1, vR s0] G σ cs ss := h
set_option maxRecDepth 20000 in
theorem b_WordPlaces_init_64 {C : jC} {d mc ms : Nat} {RT : Int → jG → jH → Prop} {P : jK} {G : jG} {σ : jH} {cs ss : Nat} {x0 : Int} {s0 : Int} {s1 : Int} (h :
  (G.2.1 s0).1 = 19 ∧
  P 67 [some (vR x0)] [] ((G.1, G.2.1, ju G.2.2 s0 3 s1) : jG) σ cs ss) :
  jwp C d mc ms RT k_WordPlaces_init j0 q_WordPlaces_init P 1 64 [some (vR x0)] [vR s1, vR s0] G σ cs ss := h
set_option maxRecDepth 20000 in
theorem b_WordPlaces_init_67 {C : jC} {d mc ms : Nat} {RT : Int → jG → jH → Prop} {P : jK} {G : jG} {σ : jH} {cs ss : Nat} {x0 : Int} (h :
  (0 : Int) ≤ 3 ∧ (3 : Int) < 60000000 ∧ cs + 1 ≤ mc ∧ ss + Int.toNat 3 ≤ ms ∧
  ((jnewG G 3 3).2.1 x0).1 = 19 ∧
  P 74 [some (vR x0)] [] (((jnewG G 3 3).1, (jnewG G 3 3).2.1, ju (jnewG G 3 3).2.2 x0 4 ((G.1 + 1 : Nat) : Int)) : jG) (jnewH G σ) (cs + 1) (ss + Int.toNat 3)) :
  jwp C d mc ms RT k_WordPlaces_init j0 q_WordPlaces_init P 4 67 [some (vR x0)] [] G σ cs ss := h
set_option maxRecDepth 20000 in
theorem b_WordPlaces_init_74 {C : jC} {d mc ms : Nat} {RT : Int → jG → jH → Prop} {P : jK} {G : jG} {σ : jH} {cs ss : Nat} {x0 : Int} (h :
  cs + 1 ≤ mc ∧ ss + 7 ≤ ms ∧
  0 < ((G.1 + 1 : Nat) : Int) ∧ ∃ (d1 : Nat) (P1 : jG → jH → Prop), d1 < d ∧ CallG C.1 d1 37 11002 m_Book_init [vR ((G.1 + 1 : Nat) : Int)] (jnewG G 9 7) (jnewH G σ) (fun _ => P1) ∧ (cs + 1) + 37 ≤ mc ∧ (ss + 7) + 11002 ≤ ms ∧ ∀ (G1 : jG) (σ1 : jH), P1 G1 σ1 →
  (G1.2.1 x0).1 = 19 ∧
  P 85 [some (vR x0)] [] ((G1.1, G1.2.1, ju G1.2.2 x0 5 ((G.1 + 1 : Nat) : Int)) : jG) σ1 ((cs + 1) + 37) ((ss + 7) + 11002)) :
  jwp C d mc ms RT k_WordPlaces_init j0 q_WordPlaces_init P 5 74 [some (vR x0)] [] G σ cs ss := h
set_option maxRecDepth 20000 in
theorem b_WordPlaces_init_85 {C : jC} {d mc ms : Nat} {RT : Int → jG → jH → Prop} {P : jK} {G : jG} {σ : jH} {cs ss : Nat} {x0 : Int} (h :
  cs + 1 ≤ mc ∧ ss + 6 ≤ ms ∧
  0 < ((G.1 + 1 : Nat) : Int) ∧ ∃ (d1 : Nat) (P1 : jG → jH → Prop), d1 < d ∧ CallG C.1 d1 4 2402 m_Likeness_init [vR ((G.1 + 1 : Nat) : Int)] (jnewG G 13 6) (jnewH G σ) (fun _ => P1) ∧ (cs + 1) + 4 ≤ mc ∧ (ss + 6) + 2402 ≤ ms ∧ ∀ (G1 : jG) (σ1 : jH), P1 G1 σ1 →
  (G1.2.1 x0).1 = 19 ∧
  P 96 [some (vR x0)] [] ((G1.1, G1.2.1, ju G1.2.2 x0 6 ((G.1 + 1 : Nat) : Int)) : jG) σ1 ((cs + 1) + 4) ((ss + 6) + 2402)) :
  jwp C d mc ms RT k_WordPlaces_init j0 q_WordPlaces_init P 5 85 [some (vR x0)] [] G σ cs ss := h
set_option maxRecDepth 20000 in
theorem b_WordPlaces_init_96 {C : jC} {d mc ms : Nat} {RT : Int → jG → jH → Prop} {P : jK} {G : jG} {σ : jH} {cs ss : Nat} {x0 : Int} (h :
  cs + 1 ≤ mc ∧ ss + 8 ≤ ms ∧
  ((jnewG G 17 8).2.1 x0).1 = 19 ∧
  0 < ((G.1 + 1 : Nat) : Int) ∧ ∃ (d1 : Nat) (P1 : jG → jH → Prop), d1 < d ∧ CallG C.1 d1 0 0 m_Tokens_init [vR ((G.1 + 1 : Nat) : Int), vR ((jnewG G 17 8).2.2 x0 0)] (jnewG G 17 8) (jnewH G σ) (fun _ => P1) ∧ (cs + 1) + 0 ≤ mc ∧ (ss + 8) + 0 ≤ ms ∧ ∀ (G1 : jG) (σ1 : jH), P1 G1 σ1 →
  (G1.2.1 x0).1 = 19 ∧
  P 111 [some (vR x0)] [] ((G1.1, G1.2.1, ju G1.2.2 x0 7 ((G.1 + 1 : Nat) : Int)) : jG) σ1 ((cs + 1) + 0) ((ss + 8) + 0)) :
  jwp C d mc ms RT k_WordPlaces_init j0 q_WordPlaces_init P 7 96 [some (vR x0)] [] G σ cs ss := h
set_option maxRecDepth 20000 in
theorem b_WordPlaces_init_111 {C : jC} {d mc ms : Nat} {RT : Int → jG → jH → Prop} {P : jK} {G : jG} {σ : jH} {cs ss : Nat} {x0 : Int} (h :
  cs + 1 ≤ mc ∧ ss + 3 ≤ ms ∧
  ((jnewG G 14 3).2.1 x0).1 = 19 ∧
  0 < ((G.1 + 1 : Nat) : Int) ∧ ∃ (d1 : Nat) (P1 : jG → jH → Prop), d1 < d ∧ CallG C.1 d1 15 359 m_RuleReader_init [vR ((G.1 + 1 : Nat) : Int), vR ((jnewG G 14 3).2.2 x0 7)] (jnewG G 14 3) (jnewH G σ) (fun _ => P1) ∧ (cs + 1) + 15 ≤ mc ∧ (ss + 3) + 359 ≤ ms ∧ ∀ (G1 : jG) (σ1 : jH), P1 G1 σ1 →
  (G1.2.1 x0).1 = 19 ∧
  P 126 [some (vR x0)] [] ((G1.1, G1.2.1, ju G1.2.2 x0 8 ((G.1 + 1 : Nat) : Int)) : jG) σ1 ((cs + 1) + 15) ((ss + 3) + 359)) :
  jwp C d mc ms RT k_WordPlaces_init j0 q_WordPlaces_init P 7 111 [some (vR x0)] [] G σ cs ss := h
set_option maxRecDepth 20000 in
theorem b_WordPlaces_init_126 {C : jC} {d mc ms : Nat} {RT : Int → jG → jH → Prop} {P : jK} {G : jG} {σ : jH} {cs ss : Nat} {x0 : Int} (h :
  cs + 1 ≤ mc ∧ ss + 13 ≤ ms ∧
  ((jnewG G 8 13).2.1 x0).1 = 19 ∧
  ((jnewG G 8 13).2.1 x0).1 = 19 ∧
  ((jnewG G 8 13).2.1 ((jnewG G 8 13).2.2 x0 2)).1 = 10 ∧
  ((jnewG G 8 13).2.1 x0).1 = 19 ∧
  0 < ((G.1 + 1 : Nat) : Int) ∧ ∃ (d1 : Nat) (P1 : jG → jH → Prop), d1 < d ∧ CallG C.1 d1 21 5457 m_Asker_init [vR ((G.1 + 1 : Nat) : Int), vR ((jnewG G 8 13).2.2 x0 7), vR ((jnewG G 8 13).2.2 ((jnewG G 8 13).2.2 x0 2) 0), vR ((jnewG G 8 13).2.2 x0 5)] (jnewG G 8 13) (jnewH G σ) (fun _ => P1) ∧ (cs + 1) + 21 ≤ mc ∧ (ss + 13) + 5457 ≤ ms ∧ ∀ (G1 : jG) (σ1 : jH), P1 G1 σ1 →
  (G1.2.1 x0).1 = 19 ∧
  P 152 [some (vR x0)] [] ((G1.1, G1.2.1, ju G1.2.2 x0 9 ((G.1 + 1 : Nat) : Int)) : jG) σ1 ((cs + 1) + 21) ((ss + 13) + 5457)) :
  jwp C d mc ms RT k_WordPlaces_init j0 q_WordPlaces_init P 12 126 [some (vR x0)] [] G σ cs ss := h
set_option maxRecDepth 20000 in
theorem b_WordPlaces_init_152 {C : jC} {d mc ms : Nat} {RT : Int → jG → jH → Prop} {P : jK} {G : jG} {σ : jH} {cs ss : Nat} {x0 : Int} (h :
  cs + 1 ≤ mc ∧ ss + 3 ≤ ms ∧
  0 < ((G.1 + 1 : Nat) : Int) ∧ ∃ (d1 : Nat) (P1 : jG → jH → Prop), d1 < d ∧ CallG C.1 d1 0 0 m_Key_init [vR ((G.1 + 1 : Nat) : Int)] (jnewG G 11 3) (jnewH G σ) (fun _ => P1) ∧ (cs + 1) + 0 ≤ mc ∧ (ss + 3) + 0 ≤ ms ∧ ∀ (G1 : jG) (σ1 : jH), P1 G1 σ1 →
  (G1.2.1 x0).1 = 19 ∧
  P 163 [some (vR x0)] [] ((G1.1, G1.2.1, ju G1.2.2 x0 10 ((G.1 + 1 : Nat) : Int)) : jG) σ1 ((cs + 1) + 0) ((ss + 3) + 0)) :
  jwp C d mc ms RT k_WordPlaces_init j0 q_WordPlaces_init P 5 152 [some (vR x0)] [] G σ cs ss := h
set_option maxRecDepth 20000 in
theorem b_WordPlaces_init_163 {C : jC} {d mc ms : Nat} {RT : Int → jG → jH → Prop} {P : jK} {G : jG} {σ : jH} {cs ss : Nat} {x0 : Int} (h :
  (0 : Int) ≤ 8 ∧ (8 : Int) < 60000000 ∧ cs + 1 ≤ mc ∧ ss + Int.toNat 8 ≤ ms ∧
  ((jnewG G 1 8).2.1 x0).1 = 19 ∧
  P 171 [some (vR x0)] [] (((jnewG G 1 8).1, (jnewG G 1 8).2.1, ju (jnewG G 1 8).2.2 x0 11 ((G.1 + 1 : Nat) : Int)) : jG) (jnewH G σ) (cs + 1) (ss + Int.toNat 8)) :
  jwp C d mc ms RT k_WordPlaces_init j0 q_WordPlaces_init P 4 163 [some (vR x0)] [] G σ cs ss := h
set_option maxRecDepth 20000 in
theorem b_WordPlaces_init_171 {C : jC} {d mc ms : Nat} {RT : Int → jG → jH → Prop} {P : jK} {G : jG} {σ : jH} {cs ss : Nat} {x0 : Int} (h :
  (G.2.1 x0).1 = 19 ∧
  P 176 [some (vR x0)] [] G (ju σ x0 12 0) cs ss) :
  jwp C d mc ms RT k_WordPlaces_init j0 q_WordPlaces_init P 3 171 [some (vR x0)] [] G σ cs ss := h
set_option maxRecDepth 20000 in
theorem b_WordPlaces_init_176 {C : jC} {d mc ms : Nat} {RT : Int → jG → jH → Prop} {P : jK} {G : jG} {σ : jH} {cs ss : Nat} {x0 : Int} (h :
  (0 : Int) ≤ 40 ∧ (40 : Int) < 60000000 ∧ cs + 1 ≤ mc ∧ ss + Int.toNat 40 ≤ ms ∧
  ((jnewG G 1 40).2.1 x0).1 = 19 ∧
  P 184 [some (vR x0)] [] (((jnewG G 1 40).1, (jnewG G 1 40).2.1, ju (jnewG G 1 40).2.2 x0 13 ((G.1 + 1 : Nat) : Int)) : jG) (jnewH G σ) (cs + 1) (ss + Int.toNat 40)) :
  jwp C d mc ms RT k_WordPlaces_init j0 q_WordPlaces_init P 4 176 [some (vR x0)] [] G σ cs ss := h
set_option maxRecDepth 20000 in
theorem b_WordPlaces_init_184 {C : jC} {d mc ms : Nat} {RT : Int → jG → jH → Prop} {P : jK} {G : jG} {σ : jH} {cs ss : Nat} {x0 : Int} (h :
  (0 : Int) ≤ 40 ∧ (40 : Int) < 60000000 ∧ cs + 1 ≤ mc ∧ ss + Int.toNat 40 ≤ ms ∧
  ((jnewG G 1 40).2.1 x0).1 = 19 ∧
  P 192 [some (vR x0)] [] (((jnewG G 1 40).1, (jnewG G 1 40).2.1, ju (jnewG G 1 40).2.2 x0 14 ((G.1 + 1 : Nat) : Int)) : jG) (jnewH G σ) (cs + 1) (ss + Int.toNat 40)) :
  jwp C d mc ms RT k_WordPlaces_init j0 q_WordPlaces_init P 4 184 [some (vR x0)] [] G σ cs ss := h
set_option maxRecDepth 20000 in
theorem b_WordPlaces_init_192 {C : jC} {d mc ms : Nat} {RT : Int → jG → jH → Prop} {P : jK} {G : jG} {σ : jH} {cs ss : Nat} {x0 : Int} (h :
  (G.2.1 x0).1 = 19 ∧
  P 197 [some (vR x0)] [] G (ju σ x0 15 0) cs ss) :
  jwp C d mc ms RT k_WordPlaces_init j0 q_WordPlaces_init P 3 192 [some (vR x0)] [] G σ cs ss := h
set_option maxRecDepth 20000 in
theorem b_WordPlaces_init_197 {C : jC} {d mc ms : Nat} {RT : Int → jG → jH → Prop} {P : jK} {G : jG} {σ : jH} {cs ss : Nat} {x0 : Int} (h :
  (G.2.1 x0).1 = 19 ∧
  P 202 [some (vR x0)] [] G (ju σ x0 16 0) cs ss) :
  jwp C d mc ms RT k_WordPlaces_init j0 q_WordPlaces_init P 3 197 [some (vR x0)] [] G σ cs ss := h
set_option maxRecDepth 20000 in
theorem b_WordPlaces_init_202 {C : jC} {d mc ms : Nat} {RT : Int → jG → jH → Prop} {P : jK} {G : jG} {σ : jH} {cs ss : Nat} {x0 : Int} (h :
  (G.2.1 x0).1 = 19 ∧
  P 207 [some (vR x0)] [] G (ju σ x0 17 0) cs ss) :
  jwp C d mc ms RT k_WordPlaces_init j0 q_WordPlaces_init P 3 202 [some (vR x0)] [] G σ cs ss := h
set_option maxRecDepth 20000 in
theorem b_WordPlaces_init_207 {C : jC} {d mc ms : Nat} {RT : Int → jG → jH → Prop} {P : jK} {G : jG} {σ : jH} {cs ss : Nat} {x0 : Int} (h :
  (0 : Int) ≤ 600 ∧ (600 : Int) < 60000000 ∧ cs + 1 ≤ mc ∧ ss + Int.toNat 600 ≤ ms ∧
  ((jnewG G 1 600).2.1 x0).1 = 19 ∧
  P 216 [some (vR x0)] [] (((jnewG G 1 600).1, (jnewG G 1 600).2.1, ju (jnewG G 1 600).2.2 x0 18 ((G.1 + 1 : Nat) : Int)) : jG) (jnewH G σ) (cs + 1) (ss + Int.toNat 600)) :
  jwp C d mc ms RT k_WordPlaces_init j0 q_WordPlaces_init P 4 207 [some (vR x0)] [] G σ cs ss := h
set_option maxRecDepth 20000 in
theorem b_WordPlaces_init_216 {C : jC} {d mc ms : Nat} {RT : Int → jG → jH → Prop} {P : jK} {G : jG} {σ : jH} {cs ss : Nat} {x0 : Int} (h :
  cs + 1 ≤ mc ∧ ss + 4 ≤ ms ∧
  0 < ((G.1 + 1 : Nat) : Int) ∧ ∃ (d1 : Nat) (P1 : jG → jH → Prop), d1 < d ∧ CallG C.1 d1 4 308 m_Slots_init [vR ((G.1 + 1 : Nat) : Int)] (jnewG G 16 4) (jnewH G σ) (fun _ => P1) ∧ (cs + 1) + 4 ≤ mc ∧ (ss + 4) + 308 ≤ ms ∧ ∀ (G1 : jG) (σ1 : jH), P1 G1 σ1 →
  (G1.2.1 x0).1 = 19 ∧
  P 227 [some (vR x0)] [] ((G1.1, G1.2.1, ju G1.2.2 x0 19 ((G.1 + 1 : Nat) : Int)) : jG) σ1 ((cs + 1) + 4) ((ss + 4) + 308)) :
  jwp C d mc ms RT k_WordPlaces_init j0 q_WordPlaces_init P 5 216 [some (vR x0)] [] G σ cs ss := h
set_option maxRecDepth 20000 in
theorem b_WordPlaces_init_227 {C : jC} {d mc ms : Nat} {RT : Int → jG → jH → Prop} {P : jK} {G : jG} {σ : jH} {cs ss : Nat} {x0 : Int} (h :
  (G.2.1 x0).1 = 19 ∧
  cN C.1 d m_Arrays_fill [vR (G.2.2 x0 18), vI (-1)] G σ (fun (r1 : Int) (σ1 : jH) =>
  RT 0 G σ1)) :
  jwp C d mc ms RT k_WordPlaces_init j0 q_WordPlaces_init P 5 227 [some (vR x0)] [] G σ cs ss := h

def q_Arrays_fill : List (Nat × List Bool) := [(5, [true, true, true, true])]
set_option maxRecDepth 20000 in
theorem b_Arrays_fill_0 {C : jC} {d mc ms : Nat} {RT : Int → jG → jH → Prop} {P : jK} {G : jG} {σ : jH} {cs ss : Nat} {x0 : Int} {x1 : Int} (h :
  (1 ≤ (G.2.1 x0).1 ∧ (G.2.1 x0).1 ≤ 7) ∧
  P 5 [some (vR x0), some (vI x1), some (vI 0), some (vI (G.2.1 x0).2)] [] G σ cs ss) :
  jwp C d mc ms RT k_Arrays_fill j0 q_Arrays_fill P 5 0 [some (vR x0), some (vI x1), none, none] [] G σ cs ss := h
set_option maxRecDepth 20000 in
theorem b_Arrays_fill_5 {C : jC} {d mc ms : Nat} {RT : Int → jG → jH → Prop} {P : jK} {G : jG} {σ : jH} {cs ss : Nat} {x0 : Int} {x1 : Int} {x2 : Int} {x3 : Int} (h :
  ((x3 ≤ x2 →
    RT 0 G σ) ∧
  (x2 < x3 →
    (G.2.1 x0).1 = 1 ∧ (0 : Int) ≤ x2 ∧ x2 < (G.2.1 x0).2 ∧
    P 5 [some (vR x0), some (vI x1), some (vI (w32 (x2 + 1))), some (vI x3)] [] G (ju σ x0 x2 x1) cs ss))) :
  jwp C d mc ms RT k_Arrays_fill j0 q_Arrays_fill P 9 5 [some (vR x0), some (vI x1), some (vI x2), some (vI x3)] [] G σ cs ss := h

def q_WordPlaces_feed : List (Nat × List Bool) := []
set_option maxRecDepth 20000 in
theorem b_WordPlaces_feed_0 {C : jC} {d mc ms : Nat} {RT : Int → jG → jH → Prop} {P : jK} {G : jG} {σ : jH} {cs ss : Nat} {x0 : Int} {x1 : Int} {x2 : Int} {x3 : Int} {x4 : Int} {x5 : Int} (h :
  (G.2.1 x0).1 = 19 ∧
  (((w32 ((σ x0 1) + 20)) ≤ 400 →
    (G.2.1 x0).1 = 19 ∧
    cN C.1 d m_WordPlaces_putNumber [vR x0, vI x1] G σ (fun (r1 : Int) (σ1 : jH) =>
    (G.2.1 x0).1 = 19 ∧
    cN C.1 d m_WordPlaces_putNumber [vR x0, vI x2] G σ1 (fun (r2 : Int) (σ2 : jH) =>
    (G.2.1 x0).1 = 19 ∧
    cN C.1 d m_WordPlaces_putNumber [vR x0, vI x3] G σ2 (fun (r3 : Int) (σ3 : jH) =>
    (G.2.1 x0).1 = 19 ∧
    cN C.1 d m_WordPlaces_putNumber [vR x0, vI x4] G σ3 (fun (r4 : Int) (σ4 : jH) =>
    (G.2.1 x0).1 = 19 ∧
    cN C.1 d m_WordPlaces_putNumber [vR x0, vI x5] G σ4 (fun (r5 : Int) (σ5 : jH) =>
    (G.2.1 x0).1 = 19 ∧
    RT (σ5 x0 1) G σ5)))))) ∧
  ((400 : Int) < (w32 ((σ x0 1) + 20)) →
    RT (-1) G σ))) :
  jwp C d mc ms RT k_WordPlaces_feed j0 q_WordPlaces_feed P 24 0 [some (vR x0), some (vI x1), some (vI x2), some (vI x3), some (vI x4), some (vI x5)] [] G σ cs ss := h

def q_WordPlaces_putNumber : List (Nat × List Bool) := [(3, [true, true, true])]
set_option maxRecDepth 20000 in
theorem b_WordPlaces_putNumber_0 {C : jC} {d mc ms : Nat} {RT : Int → jG → jH → Prop} {P : jK} {G : jG} {σ : jH} {cs ss : Nat} {x0 : Int} {x1 : Int} (h :
  P 3 [some (vR x0), some (vI x1), some (vI 24)] [] G σ cs ss) :
  jwp C d mc ms RT k_WordPlaces_putNumber j0 q_WordPlaces_putNumber P 2 0 [some (vR x0), some (vI x1), none] [] G σ cs ss := h
set_option maxRecDepth 20000 in
theorem b_WordPlaces_putNumber_3 {C : jC} {d mc ms : Nat} {RT : Int → jG → jH → Prop} {P : jK} {G : jG} {σ : jH} {cs ss : Nat} {x0 : Int} {x1 : Int} {x2 : Int} (h :
  ((x2 < 0 →
    RT 0 G σ) ∧
  ((0 : Int) ≤ x2 →
    (G.2.1 x0).1 = 19 ∧
    (((σ x0 1) < 0 →
      P 3 [some (vR x0), some (vI x1), some (vI (w32 (x2 + (-8))))] [] G σ cs ss) ∧
    ((0 : Int) ≤ (σ x0 1) →
      (G.2.1 x0).1 = 19 ∧
      (((400 : Int) ≤ (σ x0 1) →
        P 3 [some (vR x0), some (vI x1), some (vI (w32 (x2 + (-8))))] [] G σ cs ss) ∧
      ((σ x0 1) < 400 →
        (G.2.1 x0).1 = 19 ∧
        (G.2.1 x0).1 = 19 ∧
        (G.2.1 (G.2.2 x0 0)).1 = 2 ∧ (0 : Int) ≤ (σ x0 1) ∧ (σ x0 1) < (G.2.1 (G.2.2 x0 0)).2 ∧
        (G.2.1 x0).1 = 19 ∧
        (G.2.1 x0).1 = 19 ∧
        P 3 [some (vR x0), some (vI x1), some (vI (w32 (x2 + (-8))))] [] G (ju (ju σ (G.2.2 x0 0) (σ x0 1) (w8 (w8 (jshr32 x1 x2)))) x0 1 (w32 (((ju σ (G.2.2 x0 0) (σ x0 1) (w8 (w8 (jshr32 x1 x2)))) x0 1) + 1))) cs ss))))))) :
  jwp C d mc ms RT k_WordPlaces_putNumber j0 q_WordPlaces_putNumber P 26 3 [some (vR x0), some (vI x1), some (vI x2)] [] G σ cs ss := h

def q_WordPlaces_end : List (Nat × List Bool) := []
set_option maxRecDepth 20000 in
theorem b_WordPlaces_end_0 {C : jC} {d mc ms : Nat} {RT : Int → jG → jH → Prop} {P : jK} {G : jG} {σ : jH} {cs ss : Nat} {x0 : Int} {x1 : Int} (h :
  ((x1 < 0 →
    RT (-1) G σ) ∧
  ((0 : Int) ≤ x1 →
    (G.2.1 x0).1 = 19 ∧
    ((x1 ≤ (σ x0 1) →
      (G.2.1 x0).1 = 19 ∧
      RT x1 G (ju σ x0 1 x1)) ∧
    ((σ x0 1) < x1 →
      RT (-1) G σ))))) :
  jwp C d mc ms RT k_WordPlaces_end j0 q_WordPlaces_end P 11 0 [some (vR x0), some (vI x1)] [] G σ cs ss := h

def q_WordPlaces_rules : List (Nat × List Bool) := []
set_option maxRecDepth 20000 in
theorem b_WordPlaces_rules_0 {C : jC} {d mc ms : Nat} {RT : Int → jG → jH → Prop} {P : jK} {G : jG} {σ : jH} {cs ss : Nat} {x0 : Int} (h :
  (G.2.1 x0).1 = 19 ∧
  (G.2.1 x0).1 = 19 ∧
  cN C.1 d m_WordPlaces_takeTape [vR x0] G σ (fun (r1 : Int) (σ1 : jH) =>
  (G.2.1 (G.2.2 x0 8)).1 = 14 ∧
  cN C.1 d m_RuleReader_read [vR (G.2.2 x0 8), vI r1] G σ1 (fun (r2 : Int) (σ2 : jH) =>
  ((r2 ≠ 0 →
    (G.2.1 x0).1 = 19 ∧
    (G.2.1 (G.2.2 x0 2)).1 = 10 ∧
    (G.2.1 x0).1 = 19 ∧
    (G.2.1 (G.2.2 x0 8)).1 = 14 ∧
    (G.2.1 (G.2.2 (G.2.2 x0 2) 0)).1 = 15 ∧
    cN C.1 d m_Rules_copyFrom [vR (G.2.2 (G.2.2 x0 2) 0), vR (G.2.2 (G.2.2 x0 8) 0)] G σ2 (fun (r3 : Int) (σ3 : jH) =>
    (G.2.1 x0).1 = 19 ∧
    cN C.1 d m_WordPlaces_forgetBook [vR x0] G σ3 (fun (r4 : Int) (σ4 : jH) =>
    (G.2.1 x0).1 = 19 ∧
    (G.2.1 (G.2.2 x0 2)).1 = 10 ∧
    (G.2.1 (G.2.2 (G.2.2 x0 2) 0)).1 = 15 ∧
    RT (σ4 (G.2.2 (G.2.2 x0 2) 0) 0) G σ4))) ∧
  (r2 = 0 →
    RT (-4) G σ2))))) :
  jwp C d mc ms RT k_WordPlaces_rules j0 q_WordPlaces_rules P 20 0 [some (vR x0)] [] G σ cs ss := h

def q_WordPlaces_takeTape : List (Nat × List Bool) := []
set_option maxRecDepth 20000 in
theorem b_WordPlaces_takeTape_0 {C : jC} {d mc ms : Nat} {RT : Int → jG → jH → Prop} {P : jK} {G : jG} {σ : jH} {cs ss : Nat} {x0 : Int} (h :
  (G.2.1 x0).1 = 19 ∧
  (G.2.1 x0).1 = 19 ∧
  RT (σ x0 1) G (ju σ x0 1 0)) :
  jwp C d mc ms RT k_WordPlaces_takeTape j0 q_WordPlaces_takeTape P 8 0 [some (vR x0), none] [] G σ cs ss := h

def q_WordPlaces_isLetter : List (Nat × List Bool) := []
set_option maxRecDepth 20000 in
theorem b_WordPlaces_isLetter_0 {C : jC} {d mc ms : Nat} {RT : Int → jG → jH → Prop} {P : jK} {G : jG} {σ : jH} {cs ss : Nat} {x0 : Int} (h :
  ((x0 < 97 →
    ((0 : Int) = 0 ∨ (0 : Int) = 1) ∧ RT 0 G σ) ∧
  ((97 : Int) ≤ x0 →
    (((122 : Int) < x0 →
      ((0 : Int) = 0 ∨ (0 : Int) = 1) ∧ RT 0 G σ) ∧
    (x0 ≤ 122 →
      ((1 : Int) = 0 ∨ (1 : Int) = 1) ∧ RT 1 G σ))))) :
  jwp C d mc ms RT k_WordPlaces_isLetter j0 q_WordPlaces_isLetter P 9 0 [some (vI x0)] [] G σ cs ss := h

def q_Arrays_fill2 : List (Nat × List Bool) := [(5, [true, true, true, true])]
set_option maxRecDepth 20000 in
theorem b_Arrays_fill2_0 {C : jC} {d mc ms : Nat} {RT : Int → jG → jH → Prop} {P : jK} {G : jG} {σ : jH} {cs ss : Nat} {x0 : Int} {x1 : Int} (h :
  (1 ≤ (G.2.1 x0).1 ∧ (G.2.1 x0).1 ≤ 7) ∧
  P 5 [some (vR x0), some (vI x1), some (vI 0), some (vI (G.2.1 x0).2)] [] G σ cs ss) :
  jwp C d mc ms RT k_Arrays_fill2 j0 q_Arrays_fill2 P 5 0 [some (vR x0), some (vI x1), none, none] [] G σ cs ss := h
set_option maxRecDepth 20000 in
theorem b_Arrays_fill2_5 {C : jC} {d mc ms : Nat} {RT : Int → jG → jH → Prop} {P : jK} {G : jG} {σ : jH} {cs ss : Nat} {x0 : Int} {x1 : Int} {x2 : Int} {x3 : Int} (h :
  ((x3 ≤ x2 →
    RT 0 G σ) ∧
  (x2 < x3 →
    (G.2.1 x0).1 = 2 ∧ (0 : Int) ≤ x2 ∧ x2 < (G.2.1 x0).2 ∧
    P 5 [some (vR x0), some (vI x1), some (vI (w32 (x2 + 1))), some (vI x3)] [] G (ju σ x0 x2 (w8 x1)) cs ss))) :
  jwp C d mc ms RT k_Arrays_fill2 j0 q_Arrays_fill2 P 9 5 [some (vR x0), some (vI x1), some (vI x2), some (vI x3)] [] G σ cs ss := h

def q_WordPlaces_forgetBook : List (Nat × List Bool) := []
set_option maxRecDepth 20000 in
theorem b_WordPlaces_forgetBook_0 {C : jC} {d mc ms : Nat} {RT : Int → jG → jH → Prop} {P : jK} {G : jG} {σ : jH} {cs ss : Nat} {x0 : Int} (h :
  (G.2.1 x0).1 = 19 ∧
  (G.2.1 (G.2.2 x0 5)).1 = 9 ∧
  ((0 : Int) = 0 ∨ (0 : Int) = 1) ∧
  (G.2.1 x0).1 = 19 ∧
  (G.2.1 (G.2.2 x0 6)).1 = 13 ∧
  ((0 : Int) = 0 ∨ (0 : Int) = 1) ∧
  RT 0 G (ju (ju σ (G.2.2 x0 5) 0 0) (G.2.2 x0 6) 0 0)) :
  jwp C d mc ms RT k_WordPlaces_forgetBook j0 q_WordPlaces_forgetBook P 9 0 [some (vR x0)] [] G σ cs ss := h

def q_WordPlaces_fault : List (Nat × List Bool) := []
set_option maxRecDepth 20000 in
theorem b_WordPlaces_fault_0 {C : jC} {d mc ms : Nat} {RT : Int → jG → jH → Prop} {P : jK} {G : jG} {σ : jH} {cs ss : Nat} {x0 : Int} {x1 : Int} (h :
  ((x1 ≠ 0 →
    ((x1 ≠ 1 →
      RT (-1) G σ) ∧
    (x1 = 1 →
      (G.2.1 x0).1 = 19 ∧
      (G.2.1 (G.2.2 x0 7)).1 = 17 ∧
      RT (σ (G.2.2 x0 7) 7) G σ))) ∧
  (x1 = 0 →
    (G.2.1 x0).1 = 19 ∧
    (G.2.1 (G.2.2 x0 7)).1 = 17 ∧
    RT (σ (G.2.2 x0 7) 6) G σ))) :
  jwp C d mc ms RT k_WordPlaces_fault j0 q_WordPlaces_fault P 10 0 [some (vR x0), some (vI x1)] [] G σ cs ss := h

def q_WordPlaces_line : List (Nat × List Bool) := []
set_option maxRecDepth 20000 in
theorem b_WordPlaces_line_0 {C : jC} {d mc ms : Nat} {RT : Int → jG → jH → Prop} {P : jK} {G : jG} {σ : jH} {cs ss : Nat} {x0 : Int} {x1 : Int} (h :
  cN C.1 d m_WordPlaces_isEdition [vI x1] G σ (fun (r1 : Int) (σ1 : jH) =>
  ((r1 ≠ 0 →
    (G.2.1 x0).1 = 19 ∧
    (G.2.1 x0).1 = 19 ∧
    cN C.1 d m_WordPlaces_takeTape [vR x0] G σ1 (fun (r2 : Int) (σ2 : jH) =>
    (G.2.1 x0).1 = 19 ∧
    cN C.1 d m_WordPlaces_addLine [vR x0, vI x1, vR (G.2.2 x0 0), vI r2] G σ2 (fun (r3 : Int) (σ3 : jH) =>
    RT r3 G σ3))) ∧
  (r1 = 0 →
    RT (-2) G σ1)))) :
  jwp C d mc ms RT k_WordPlaces_line j0 q_WordPlaces_line P 11 0 [some (vR x0), some (vI x1)] [] G σ cs ss := h

def q_WordPlaces_isEdition : List (Nat × List Bool) := []
set_option maxRecDepth 20000 in
theorem b_WordPlaces_isEdition_0 {C : jC} {d mc ms : Nat} {RT : Int → jG → jH → Prop} {P : jK} {G : jG} {σ : jH} {cs ss : Nat} {x0 : Int} (h :
  ((x0 < 0 →
    ((0 : Int) = 0 ∨ (0 : Int) = 1) ∧ RT 0 G σ) ∧
  ((0 : Int) ≤ x0 →
    (((2 : Int) ≤ x0 →
      ((0 : Int) = 0 ∨ (0 : Int) = 1) ∧ RT 0 G σ) ∧
    (x0 < 2 →
      ((1 : Int) = 0 ∨ (1 : Int) = 1) ∧ RT 1 G σ))))) :
  jwp C d mc ms RT k_WordPlaces_isEdition j0 q_WordPlaces_isEdition P 8 0 [some (vI x0)] [] G σ cs ss := h

def q_WordPlaces_addLine : List (Nat × List Bool) := []
set_option maxRecDepth 20000 in
theorem b_WordPlaces_addLine_0 {C : jC} {d mc ms : Nat} {RT : Int → jG → jH → Prop} {P : jK} {G : jG} {σ : jH} {cs ss : Nat} {x0 : Int} {x1 : Int} {x2 : Int} {x3 : Int} (h :
  (G.2.1 x0).1 = 19 ∧
  (G.2.1 (G.2.2 x0 2)).1 = 10 ∧
  cN C.1 d m_Image_lineCount [vR (G.2.2 x0 2), vI x1] G σ (fun (r1 : Int) (σ1 : jH) =>
  (G.2.1 x0).1 = 19 ∧
  cN C.1 d m_WordPlaces_lineFault [vR x0, vI x1, vI r1, vR x2, vI x3] G σ1 (fun (r2 : Int) (σ2 : jH) =>
  ((r2 = 0 →
    (G.2.1 x0).1 = 19 ∧
    (G.2.1 (G.2.2 x0 2)).1 = 10 ∧
    cN C.1 d m_Image_putLine [vR (G.2.2 x0 2), vI x1, vI r1, vR x2, vI x3] G σ2 (fun (r3 : Int) (σ3 : jH) =>
    (G.2.1 x0).1 = 19 ∧
    cN C.1 d m_WordPlaces_forgetBook [vR x0] G σ3 (fun (r4 : Int) (σ4 : jH) =>
    RT r1 G σ4))) ∧
  (r2 ≠ 0 →
    RT r2 G σ2))))) :
  jwp C d mc ms RT k_WordPlaces_addLine j0 q_WordPlaces_addLine P 25 0 [some (vR x0), some (vI x1), some (vR x2), some (vI x3), none, none] [] G σ cs ss := h

def q_WordPlaces_lineFault : List (Nat × List Bool) := []
set_option maxRecDepth 20000 in
theorem b_WordPlaces_lineFault_0 {C : jC} {d mc ms : Nat} {RT : Int → jG → jH → Prop} {P : jK} {G : jG} {σ : jH} {cs ss : Nat} {x0 : Int} {x1 : Int} {x2 : Int} {x3 : Int} {x4 : Int} (h :
  cN C.1 d m_WordPlaces_isLineText [vR x3, vI x4] G σ (fun (r1 : Int) (σ1 : jH) =>
  ((r1 ≠ 0 →
    (((40 : Int) ≤ x2 →
      RT (-3) G σ1) ∧
    (x2 < 40 →
      (G.2.1 x0).1 = 19 ∧
      (G.2.1 (G.2.2 x0 2)).1 = 10 ∧
      cN C.1 d m_Image_wordCountWith [vR (G.2.2 x0 2), vI x1, vI x2, vR x3, vI x4] G σ1 (fun (r2 : Int) (σ2 : jH) =>
      ((r2 ≤ 300 →
        RT 0 G σ2) ∧
      ((300 : Int) < r2 →
        RT (-3) G σ2)))))) ∧
  (r1 = 0 →
    RT (-4) G σ1)))) :
  jwp C d mc ms RT k_WordPlaces_lineFault j0 q_WordPlaces_lineFault P 18 0 [some (vR x0), some (vI x1), some (vI x2), some (vR x3), some (vI x4)] [] G σ cs ss := h

def q_WordPlaces_isLineText : List (Nat × List Bool) := [(16, [true, true, true])]
set_option maxRecDepth 20000 in
theorem b_WordPlaces_isLineText_0 {C : jC} {d mc ms : Nat} {RT : Int → jG → jH → Prop} {P : jK} {G : jG} {σ : jH} {cs ss : Nat} {x0 : Int} {x1 : Int} (h :
  (((60 : Int) < x1 →
    ((0 : Int) = 0 ∨ (0 : Int) = 1) ∧ RT 0 G σ) ∧
  (x1 ≤ 60 →
    (1 ≤ (G.2.1 x0).1 ∧ (G.2.1 x0).1 ≤ 7) ∧
    ((x1 ≤ (G.2.1 x0).2 →
      P 16 [some (vR x0), some (vI x1), some (vI 0)] [] G σ cs ss) ∧
    ((G.2.1 x0).2 < x1 →
      ((0 : Int) = 0 ∨ (0 : Int) = 1) ∧ RT 0 G σ))))) :
  jwp C d mc ms RT k_WordPlaces_isLineText j0 q_WordPlaces_isLineText P 9 0 [some (vR x0), some (vI x1), none] [] G σ cs ss := h
set_option maxRecDepth 20000 in
theorem b_WordPlaces_isLineText_16 {C : jC} {d mc ms : Nat} {RT : Int → jG → jH → Prop} {P : jK} {G : jG} {σ : jH} {cs ss : Nat} {x0 : Int} {x1 : Int} {x2 : Int} (h :
  ((x1 ≤ x2 →
    ((1 : Int) = 0 ∨ (1 : Int) = 1) ∧ RT 1 G σ) ∧
  (x2 < x1 →
    (G.2.1 x0).1 = 2 ∧ (0 : Int) ≤ x2 ∧ x2 < (G.2.1 x0).2 ∧
    cN C.1 d m_WordPlaces_isLetter [vI (σ x0 x2)] G σ (fun (r1 : Int) (σ1 : jH) =>
    ((r1 ≠ 0 →
      P 16 [some (vR x0), some (vI x1), some (vI (w32 (x2 + 1)))] [] G σ1 cs ss) ∧
    (r1 = 0 →
      (G.2.1 x0).1 = 2 ∧ (0 : Int) ≤ x2 ∧ x2 < (G.2.1 x0).2 ∧
      (((σ1 x0 x2) = 32 →
        P 16 [some (vR x0), some (vI x1), some (vI (w32 (x2 + 1)))] [] G σ1 cs ss) ∧
      ((σ1 x0 x2) ≠ 32 →
        (G.2.1 x0).1 = 2 ∧ (0 : Int) ≤ x2 ∧ x2 < (G.2.1 x0).2 ∧
        (((σ1 x0 x2) = 45 →
          P 16 [some (vR x0), some (vI x1), some (vI (w32 (x2 + 1)))] [] G σ1 cs ss) ∧
        ((σ1 x0 x2) ≠ 45 →
          ((0 : Int) = 0 ∨ (0 : Int) = 1) ∧ RT 0 G σ1)))))))))) :
  jwp C d mc ms RT k_WordPlaces_isLineText j0 q_WordPlaces_isLineText P 20 16 [some (vR x0), some (vI x1), some (vI x2)] [] G σ cs ss := h

def q_WordPlaces_right : List (Nat × List Bool) := []
set_option maxRecDepth 20000 in
theorem b_WordPlaces_right_0 {C : jC} {d mc ms : Nat} {RT : Int → jG → jH → Prop} {P : jK} {G : jG} {σ : jH} {cs ss : Nat} {x0 : Int} {x1 : Int} {x2 : Int} (h :
  cN C.1 d m_WordPlaces_isEdition [vI x1] G σ (fun (r1 : Int) (σ1 : jH) =>
  ((r1 = 0 →
    RT (-2) G σ1) ∧
  (r1 ≠ 0 →
    ((x2 < 0 →
      RT (-2) G σ1) ∧
    ((0 : Int) ≤ x2 →
      (G.2.1 x0).1 = 19 ∧
      (G.2.1 (G.2.2 x0 2)).1 = 10 ∧
      cN C.1 d m_Image_lineCount [vR (G.2.2 x0 2), vI x1] G σ1 (fun (r2 : Int) (σ2 : jH) =>
      ((x2 < r2 →
        (G.2.1 x0).1 = 19 ∧
        cN C.1 d m_WordPlaces_takeTape [vR x0] G σ2 (fun (r3 : Int) (σ3 : jH) =>
        (G.2.1 x0).1 = 19 ∧
        (G.2.1 x0).1 = 19 ∧
        cN C.1 d m_WordPlaces_lineFault [vR x0, vI x1, vI x2, vR (G.2.2 x0 0), vI r3] G σ3 (fun (r4 : Int) (σ4 : jH) =>
        ((r4 = 0 →
          (G.2.1 x0).1 = 19 ∧
          (G.2.1 x0).1 = 19 ∧
          (G.2.1 (G.2.2 x0 2)).1 = 10 ∧
          cN C.1 d m_Image_putLine [vR (G.2.2 x0 2), vI x1, vI x2, vR (G.2.2 x0 0), vI r3] G σ4 (fun (r5 : Int) (σ5 : jH) =>
          (G.2.1 x0).1 = 19 ∧
          cN C.1 d m_WordPlaces_forgetBook [vR x0] G σ5 (fun (r6 : Int) (σ6 : jH) =>
          (G.2.1 x0).1 = 19 ∧
          (G.2.1 (G.2.2 x0 2)).1 = 10 ∧
          cN C.1 d m_Image_wordCount [vR (G.2.2 x0 2), vI x1] G σ6 (fun (r7 : Int) (σ7 : jH) =>
          RT r7 G σ7)))) ∧
        (r4 ≠ 0 →
          RT r4 G σ4))))) ∧
      (r2 ≤ x2 →
        RT (-2) G σ2))))))))) :
  jwp C d mc ms RT k_WordPlaces_right j0 q_WordPlaces_right P 39 0 [some (vR x0), some (vI x1), some (vI x2), none, none] [] G σ cs ss := h

def q_WordPlaces_lineOf : List (Nat × List Bool) := []
set_option maxRecDepth 20000 in
theorem b_WordPlaces_lineOf_0 {C : jC} {d mc ms : Nat} {RT : Int → jG → jH → Prop} {P : jK} {G : jG} {σ : jH} {cs ss : Nat} {x0 : Int} {x1 : Int} {x2 : Int} (h :
  cN C.1 d m_WordPlaces_isEdition [vI x1] G σ (fun (r1 : Int) (σ1 : jH) =>
  ((r1 = 0 →
    RT (-2) G σ1) ∧
  (r1 ≠ 0 →
    (G.2.1 x0).1 = 19 ∧
    (G.2.1 (G.2.2 x0 19)).1 = 16 ∧
    cN C.1 d m_Slots_isSlot [vR (G.2.2 x0 19), vI x2] G σ1 (fun (r2 : Int) (σ2 : jH) =>
    ((r2 ≠ 0 →
      (G.2.1 x0).1 = 19 ∧
      (G.2.1 (G.2.2 x0 19)).1 = 16 ∧
      cN C.1 d m_Slots_isEmpty [vR (G.2.2 x0 19), vI x2] G σ2 (fun (r3 : Int) (σ3 : jH) =>
      ((r3 = 0 →
        (G.2.1 x0).1 = 19 ∧
        (G.2.1 (G.2.2 x0 19)).1 = 16 ∧
        cN C.1 d m_Slots_widthOf [vR (G.2.2 x0 19), vI x2] G σ3 (fun (r4 : Int) (σ4 : jH) =>
        ((r4 = 0 →
          (G.2.1 x0).1 = 19 ∧
          (G.2.1 (G.2.2 x0 19)).1 = 16 ∧
          cN C.1 d m_Slots_takeBytes [vR (G.2.2 x0 19), vI x2] G σ4 (fun (r5 : Int) (σ5 : jH) =>
          (G.2.1 x0).1 = 19 ∧
          (G.2.1 (G.2.2 x0 19)).1 = 16 ∧
          (G.2.1 x0).1 = 19 ∧
          cN C.1 d m_WordPlaces_addLine [vR x0, vI x1, vR (G.2.2 (G.2.2 x0 19) 3), vI r5] G σ5 (fun (r6 : Int) (σ6 : jH) =>
          RT r6 G σ6))) ∧
        (r4 ≠ 0 →
          RT (-8) G σ4)))) ∧
      (r3 ≠ 0 →
        RT (-6) G σ3)))) ∧
    (r2 = 0 →
      RT (-2) G σ2))))))) :
  jwp C d mc ms RT k_WordPlaces_lineOf j0 q_WordPlaces_lineOf P 31 0 [some (vR x0), some (vI x1), some (vI x2), none] [] G σ cs ss := h

def q_WordPlaces_edition : List (Nat × List Bool) := []
set_option maxRecDepth 20000 in
theorem b_WordPlaces_edition_0 {C : jC} {d mc ms : Nat} {RT : Int → jG → jH → Prop} {P : jK} {G : jG} {σ : jH} {cs ss : Nat} {x0 : Int} {x1 : Int} {x2 : Int} (h :
  cN C.1 d m_WordPlaces_isEdition [vI x1] G σ (fun (r1 : Int) (σ1 : jH) =>
  ((r1 ≠ 0 →
    ((x2 < 0 ∨ 2 < x2 →
      RT (-2000000000) G σ1) ∧
    (x2 = 0 →
      (G.2.1 x0).1 = 19 ∧
      (G.2.1 (G.2.2 x0 2)).1 = 10 ∧
      cN C.1 d m_Image_lineCount [vR (G.2.2 x0 2), vI x1] G σ1 (fun (r2 : Int) (σ2 : jH) =>
      RT r2 G σ2)) ∧
    (x2 = 1 →
      (G.2.1 x0).1 = 19 ∧
      (G.2.1 (G.2.2 x0 2)).1 = 10 ∧
      cN C.1 d m_Image_wordCount [vR (G.2.2 x0 2), vI x1] G σ1 (fun (r3 : Int) (σ3 : jH) =>
      RT r3 G σ3)) ∧
    (x2 = 2 →
      (G.2.1 x0).1 = 19 ∧
      cN C.1 d m_WordPlaces_freshWords [vR x0, vI x1] G σ1 (fun (r4 : Int) (σ4 : jH) =>
      (G.2.1 r4).1 = 18 ∧
      RT (σ4 r4 9) G σ4)) ∧ True)) ∧
  (r1 = 0 →
    RT (-2000000000) G σ1)))) :
  jwp C d mc ms RT k_WordPlaces_edition j0 q_WordPlaces_edition P 10 0 [some (vR x0), some (vI x1), some (vI x2)] [] G σ cs ss := h

def q_WordPlaces_freshWords : List (Nat × List Bool) := []
set_option maxRecDepth 20000 in
theorem b_WordPlaces_freshWords_0 {C : jC} {d mc ms : Nat} {RT : Int → jG → jH → Prop} {P : jK} {G : jG} {σ : jH} {cs ss : Nat} {x0 : Int} {x1 : Int} (h :
  (G.2.1 x0).1 = 19 ∧
  (G.2.1 x0).1 = 19 ∧
  (G.2.1 (G.2.2 x0 5)).1 = 9 ∧
  cN C.1 d m_Book_refresh [vR (G.2.2 x0 5), vR (G.2.2 x0 2)] G σ (fun (r1 : Int) (σ1 : jH) =>
  (G.2.1 x0).1 = 19 ∧
  (G.2.1 (G.2.2 x0 5)).1 = 9 ∧
  cN C.1 d m_Book_wordsOf [vR (G.2.2 x0 5), vI x1] G σ1 (fun (r2 : Int) (σ2 : jH) =>
  RT r2 G σ2))) :
  jwp C d mc ms RT k_WordPlaces_freshWords j0 q_WordPlaces_freshWords P 10 0 [some (vR x0), some (vI x1)] [] G σ cs ss := h

def q_Long_compare : List (Nat × List Bool) := []
set_option maxRecDepth 20000 in
theorem b_Long_compare_0 {C : jC} {d mc ms : Nat} {RT : Int → jG → jH → Prop} {P : jK} {G : jG} {σ : jH} {cs ss : Nat} {x0 : Int} {x2 : Int} (h :
  (((0 : Int) ≤ (jcmp x0 x2) →
    (((jcmp x0 x2) ≠ 0 →
      RT 1 G σ) ∧
    ((jcmp x0 x2) = 0 →
      RT 0 G σ))) ∧
  ((jcmp x0 x2) < 0 →
    RT (-1) G σ))) :
  jwp C d mc ms RT k_Long_compare j0 q_Long_compare P 11 0 [some (vL x0), none, some (vL x2), none] [] G σ cs ss := h

def q_WordPlaces_word : List (Nat × List Bool) := []
set_option maxRecDepth 20000 in
theorem b_WordPlaces_word_0 {C : jC} {d mc ms : Nat} {RT : Int → jG → jH → Prop} {P : jK} {G : jG} {σ : jH} {cs ss : Nat} {x0 : Int} {x1 : Int} {x2 : Int} {x3 : Int} (h :
  cN C.1 d m_WordPlaces_isEdition [vI x1] G σ (fun (r1 : Int) (σ1 : jH) =>
  ((r1 ≠ 0 →
    (G.2.1 x0).1 = 19 ∧
    cN C.1 d m_WordPlaces_freshWords [vR x0, vI x1] G σ1 (fun (r2 : Int) (σ2 : jH) =>
    (G.2.1 r2).1 = 18 ∧
    cN C.1 d m_Words_has [vR r2, vI x2] G σ2 (fun (r3 : Int) (σ3 : jH) =>
    ((r3 ≠ 0 →
      ((x3 < 0 ∨ 3 < x3 →
        RT (-2000000000) G σ3) ∧
      (x3 = 0 →
        (G.2.1 r2).1 = 18 ∧
        (G.2.1 (G.2.2 r2 5)).1 = 1 ∧ (0 : Int) ≤ x2 ∧ x2 < (G.2.1 (G.2.2 r2 5)).2 ∧
        RT (σ3 (G.2.2 r2 5) x2) G σ3) ∧
      (x3 = 1 →
        (G.2.1 r2).1 = 18 ∧
        (G.2.1 (G.2.2 r2 2)).1 = 1 ∧ (0 : Int) ≤ x2 ∧ x2 < (G.2.1 (G.2.2 r2 2)).2 ∧
        RT (σ3 (G.2.2 r2 2) x2) G σ3) ∧
      (x3 = 2 →
        (G.2.1 r2).1 = 18 ∧
        (G.2.1 (G.2.2 r2 3)).1 = 1 ∧ (0 : Int) ≤ x2 ∧ x2 < (G.2.1 (G.2.2 r2 3)).2 ∧
        RT (σ3 (G.2.2 r2 3) x2) G σ3) ∧
      (x3 = 3 →
        (G.2.1 r2).1 = 18 ∧
        (G.2.1 (G.2.2 r2 4)).1 = 1 ∧ (0 : Int) ≤ x2 ∧ x2 < (G.2.1 (G.2.2 r2 4)).2 ∧
        RT (σ3 (G.2.2 r2 4) x2) G σ3) ∧ True)) ∧
    (r3 = 0 →
      RT (-2000000000) G σ3))))) ∧
  (r1 = 0 →
    RT (-2000000000) G σ1)))) :
  jwp C d mc ms RT k_WordPlaces_word j0 q_WordPlaces_word P 18 0 [some (vR x0), some (vI x1), some (vI x2), some (vI x3), none] [] G σ cs ss := h

def q_WordPlaces_forms : List (Nat × List Bool) := []
set_option maxRecDepth 20000 in
theorem b_WordPlaces_forms_0 {C : jC} {d mc ms : Nat} {RT : Int → jG → jH → Prop} {P : jK} {G : jG} {σ : jH} {cs ss : Nat} {x0 : Int} (h :
  (G.2.1 x0).1 = 19 ∧
  cN C.1 d m_WordPlaces_freshBook [vR x0] G σ (fun (r1 : Int) (σ1 : jH) =>
  (G.2.1 r1).1 = 9 ∧
  RT (σ1 r1 1) G σ1)) :
  jwp C d mc ms RT k_WordPlaces_forms j0 q_WordPlaces_forms P 4 0 [some (vR x0)] [] G σ cs ss := h

def q_WordPlaces_freshBook : List (Nat × List Bool) := []
set_option maxRecDepth 20000 in
theorem b_WordPlaces_freshBook_0 {C : jC} {d mc ms : Nat} {RT : Int → jG → jH → Prop} {P : jK} {G : jG} {σ : jH} {cs ss : Nat} {x0 : Int} (h :
  (G.2.1 x0).1 = 19 ∧
  (G.2.1 x0).1 = 19 ∧
  (G.2.1 (G.2.2 x0 5)).1 = 9 ∧
  cN C.1 d m_Book_refresh [vR (G.2.2 x0 5), vR (G.2.2 x0 2)] G σ (fun (r1 : Int) (σ1 : jH) =>
  (G.2.1 x0).1 = 19 ∧
  RT (G.2.2 x0 5) G σ1)) :
  jwp C d mc ms RT k_WordPlaces_freshBook j0 q_WordPlaces_freshBook P 8 0 [some (vR x0)] [] G σ cs ss := h

def q_WordPlaces_form : List (Nat × List Bool) := []
set_option maxRecDepth 20000 in
theorem b_WordPlaces_form_0 {C : jC} {d mc ms : Nat} {RT : Int → jG → jH → Prop} {P : jK} {G : jG} {σ : jH} {cs ss : Nat} {x0 : Int} {x1 : Int} {x2 : Int} (h :
  (G.2.1 x0).1 = 19 ∧
  cN C.1 d m_WordPlaces_freshBook [vR x0] G σ (fun (r1 : Int) (σ1 : jH) =>
  (G.2.1 r1).1 = 9 ∧
  cN C.1 d m_Book_has [vR r1, vI x1] G σ1 (fun (r2 : Int) (σ2 : jH) =>
  ((r2 = 0 →
    RT (-2000000000) G σ2) ∧
  (r2 ≠ 0 →
    (((0 : Int) ≤ x2 →
      (G.2.1 r1).1 = 9 ∧
      (G.2.1 (G.2.2 r1 2)).1 = 12 ∧
      (G.2.1 (G.2.2 (G.2.2 r1 2) 0)).1 = 4 ∧ (0 : Int) ≤ x1 ∧ x1 < (G.2.1 (G.2.2 (G.2.2 r1 2) 0)).2 ∧
      (G.2.1 r1).1 = 9 ∧
      (G.2.1 (G.2.2 r1 2)).1 = 12 ∧
      (G.2.1 (G.2.2 (G.2.2 r1 2) 1)).1 = 4 ∧ (0 : Int) ≤ x1 ∧ x1 < (G.2.1 (G.2.2 (G.2.2 r1 2) 1)).2 ∧
      ((x2 < 10 →
        ((x2 < 0 ∨ 4 < x2 →
          RT (-2000000000) G σ2) ∧
        (x2 = 0 →
          cN C.1 d m_Key_lengthOf [vL (σ2 (G.2.2 (G.2.2 r1 2) 0) x1), vL (σ2 (G.2.2 (G.2.2 r1 2) 1) x1)] G σ2 (fun (r3 : Int) (σ3 : jH) =>
          RT r3 G σ3)) ∧
        (x2 = 1 →
          (G.2.1 r1).1 = 9 ∧
          cN C.1 d m_Book_wordsOf [vR r1, vI 0] G σ2 (fun (r4 : Int) (σ4 : jH) =>
          (G.2.1 r4).1 = 18 ∧
          cN C.1 d m_Words_oftenOf [vR r4, vI x1] G σ4 (fun (r5 : Int) (σ5 : jH) =>
          RT r5 G σ5))) ∧
        (x2 = 2 →
          (G.2.1 r1).1 = 9 ∧
          cN C.1 d m_Book_wordsOf [vR r1, vI 1] G σ2 (fun (r6 : Int) (σ6 : jH) =>
          (G.2.1 r6).1 = 18 ∧
          cN C.1 d m_Words_oftenOf [vR r6, vI x1] G σ6 (fun (r7 : Int) (σ7 : jH) =>
          RT r7 G σ7))) ∧
        (x2 = 3 →
          (G.2.1 x0).1 = 19 ∧
          (G.2.1 (G.2.2 x0 2)).1 = 10 ∧
          (G.2.1 (G.2.2 (G.2.2 x0 2) 0)).1 = 15 ∧
          cN C.1 d m_Rules_isStop [vR (G.2.2 (G.2.2 x0 2) 0), vL (σ2 (G.2.2 (G.2.2 r1 2) 0) x1), vL (σ2 (G.2.2 (G.2.2 r1 2) 1) x1)] G σ2 (fun (r8 : Int) (σ8 : jH) =>
          ((r8 = 0 →
            RT 0 G σ8) ∧
          (r8 ≠ 0 →
            RT 1 G σ8)))) ∧
        (x2 = 4 →
          (G.2.1 x0).1 = 19 ∧
          (G.2.1 (G.2.2 x0 2)).1 = 10 ∧
          (G.2.1 (G.2.2 (G.2.2 x0 2) 0)).1 = 15 ∧
          cN C.1 d m_Rules_rootOf [vR (G.2.2 (G.2.2 x0 2) 0), vL (σ2 (G.2.2 (G.2.2 r1 2) 0) x1), vL (σ2 (G.2.2 (G.2.2 r1 2) 1) x1)] G σ2 (fun (r9 : Int) (σ9 : jH) =>
          RT r9 G σ9)) ∧ True)) ∧
      ((10 : Int) ≤ x2 →
        cN C.1 d m_Key_letterAt [vL (σ2 (G.2.2 (G.2.2 r1 2) 0) x1), vL (σ2 (G.2.2 (G.2.2 r1 2) 1) x1), vI (w32 (x2 - 10))] G σ2 (fun (r10 : Int) (σ10 : jH) =>
        ((r10 ≠ (-1) →
          RT (w32 (97 + r10)) G σ10) ∧
        (r10 = (-1) →
          RT (-1) G σ10)))))) ∧
    (x2 < 0 →
      RT (-2000000000) G σ2))))))) :
  jwp C d mc ms RT k_WordPlaces_form j0 q_WordPlaces_form P 38 0 [some (vR x0), some (vI x1), some (vI x2), none, none, none, none, none, none] [] G σ cs ss := h

def q_WordPlaces_ordered : List (Nat × List Bool) := []
set_option maxRecDepth 20000 in
theorem b_WordPlaces_ordered_0 {C : jC} {d mc ms : Nat} {RT : Int → jG → jH → Prop} {P : jK} {G : jG} {σ : jH} {cs ss : Nat} {x0 : Int} {x1 : Int} (h :
  (G.2.1 x0).1 = 19 ∧
  cN C.1 d m_WordPlaces_freshBook [vR x0] G σ (fun (r1 : Int) (σ1 : jH) =>
  (G.2.1 r1).1 = 9 ∧
  cN C.1 d m_Book_has [vR r1, vI x1] G σ1 (fun (r2 : Int) (σ2 : jH) =>
  ((r2 = 0 →
    RT (-1) G σ2) ∧
  (r2 ≠ 0 →
    (G.2.1 r1).1 = 9 ∧
    (G.2.1 (G.2.2 r1 3)).1 = 1 ∧ (0 : Int) ≤ x1 ∧ x1 < (G.2.1 (G.2.2 r1 3)).2 ∧
    RT (σ2 (G.2.2 r1 3) x1) G σ2))))) :
  jwp C d mc ms RT k_WordPlaces_ordered j0 q_WordPlaces_ordered P 13 0 [some (vR x0), some (vI x1), none] [] G σ cs ss := h

def q_WordPlaces_ask : List (Nat × List Bool) := []
set_option maxRecDepth 20000 in
theorem b_WordPlaces_ask_0 {C : jC} {d mc ms : Nat} {RT : Int → jG → jH → Prop} {P : jK} {G : jG} {σ : jH} {cs ss : Nat} {x0 : Int} {x1 : Int} (h :
  cN C.1 d m_WordPlaces_isEdition [vI x1] G σ (fun (r1 : Int) (σ1 : jH) =>
  ((r1 ≠ 0 →
    (G.2.1 x0).1 = 19 ∧
    (G.2.1 x0).1 = 19 ∧
    (G.2.1 (G.2.2 x0 5)).1 = 9 ∧
    cN C.1 d m_Book_refresh [vR (G.2.2 x0 5), vR (G.2.2 x0 2)] G σ1 (fun (r2 : Int) (σ2 : jH) =>
    (G.2.1 x0).1 = 19 ∧
    (G.2.1 x0).1 = 19 ∧
    cN C.1 d m_WordPlaces_takeTape [vR x0] G σ2 (fun (r3 : Int) (σ3 : jH) =>
    (G.2.1 (G.2.2 x0 9)).1 = 8 ∧
    cN C.1 d m_Asker_solve [vR (G.2.2 x0 9), vI x1, vI r3] G σ3 (fun (r4 : Int) (σ4 : jH) =>
    ((r4 = 0 →
      RT (-4) G σ4) ∧
    (r4 ≠ 0 →
      (G.2.1 x0).1 = 19 ∧
      (G.2.1 (G.2.2 x0 9)).1 = 8 ∧
      RT (σ4 (G.2.2 x0 9) 9) G σ4)))))) ∧
  (r1 = 0 →
    RT (-2) G σ1)))) :
  jwp C d mc ms RT k_WordPlaces_ask j0 q_WordPlaces_ask P 20 0 [some (vR x0), some (vI x1)] [] G σ cs ss := h

def q_WordPlaces_answer : List (Nat × List Bool) := []
set_option maxRecDepth 20000 in
theorem b_WordPlaces_answer_0 {C : jC} {d mc ms : Nat} {RT : Int → jG → jH → Prop} {P : jK} {G : jG} {σ : jH} {cs ss : Nat} {x0 : Int} {x1 : Int} {x2 : Int} (h :
  ((x1 < 0 →
    RT (-2000000000) G σ) ∧
  ((0 : Int) ≤ x1 →
    (G.2.1 x0).1 = 19 ∧
    (G.2.1 (G.2.2 x0 9)).1 = 8 ∧
    (((σ (G.2.2 x0 9) 9) ≤ x1 →
      RT (-2000000000) G σ) ∧
    (x1 < (σ (G.2.2 x0 9) 9) →
      ((x1 < 300 →
        ((x2 < 0 ∨ 2 < x2 →
          RT (-2000000000) G σ) ∧
        (x2 = 0 →
          (G.2.1 x0).1 = 19 ∧
          (G.2.1 (G.2.2 x0 9)).1 = 8 ∧
          (G.2.1 (G.2.2 (G.2.2 x0 9) 10)).1 = 1 ∧ (0 : Int) ≤ x1 ∧ x1 < (G.2.1 (G.2.2 (G.2.2 x0 9) 10)).2 ∧
          RT (σ (G.2.2 (G.2.2 x0 9) 10) x1) G σ) ∧
        (x2 = 1 →
          (G.2.1 x0).1 = 19 ∧
          (G.2.1 (G.2.2 x0 9)).1 = 8 ∧
          (G.2.1 (G.2.2 (G.2.2 x0 9) 11)).1 = 1 ∧ (0 : Int) ≤ x1 ∧ x1 < (G.2.1 (G.2.2 (G.2.2 x0 9) 11)).2 ∧
          RT (σ (G.2.2 (G.2.2 x0 9) 11) x1) G σ) ∧
        (x2 = 2 →
          (G.2.1 x0).1 = 19 ∧
          (G.2.1 (G.2.2 x0 9)).1 = 8 ∧
          (G.2.1 (G.2.2 (G.2.2 x0 9) 12)).1 = 1 ∧ (0 : Int) ≤ x1 ∧ x1 < (G.2.1 (G.2.2 (G.2.2 x0 9) 12)).2 ∧
          RT (σ (G.2.2 (G.2.2 x0 9) 12) x1) G σ) ∧ True)) ∧
      ((300 : Int) ≤ x1 →
        RT (-2000000000) G σ))))))) :
  jwp C d mc ms RT k_WordPlaces_answer j0 q_WordPlaces_answer P 18 0 [some (vR x0), some (vI x1), some (vI x2)] [] G σ cs ss := h

def q_WordPlaces_stands : List (Nat × List Bool) := []
set_option maxRecDepth 20000 in
theorem b_WordPlaces_stands_0 {C : jC} {d mc ms : Nat} {RT : Int → jG → jH → Prop} {P : jK} {G : jG} {σ : jH} {cs ss : Nat} {x0 : Int} {x1 : Int} {x2 : Int} {x3 : Int} (h :
  cN C.1 d m_WordPlaces_isEdition [vI x1] G σ (fun (r1 : Int) (σ1 : jH) =>
  ((r1 = 0 →
    RT (-1) G σ1) ∧
  (r1 ≠ 0 →
    (G.2.1 x0).1 = 19 ∧
    cN C.1 d m_WordPlaces_isForm [vR x0, vI x2] G σ1 (fun (r2 : Int) (σ2 : jH) =>
    ((r2 ≠ 0 →
      (G.2.1 x0).1 = 19 ∧
      cN C.1 d m_WordPlaces_freshWords [vR x0, vI x1] G σ2 (fun (r3 : Int) (σ3 : jH) =>
      (G.2.1 r3).1 = 18 ∧
      cN C.1 d m_Words_placeOf [vR r3, vI x2, vI x3] G σ3 (fun (r4 : Int) (σ4 : jH) =>
      RT r4 G σ4))) ∧
    (r2 = 0 →
      RT (-1) G σ2))))))) :
  jwp C d mc ms RT k_WordPlaces_stands j0 q_WordPlaces_stands P 14 0 [some (vR x0), some (vI x1), some (vI x2), some (vI x3)] [] G σ cs ss := h

def q_WordPlaces_isForm : List (Nat × List Bool) := []
set_option maxRecDepth 20000 in
theorem b_WordPlaces_isForm_0 {C : jC} {d mc ms : Nat} {RT : Int → jG → jH → Prop} {P : jK} {G : jG} {σ : jH} {cs ss : Nat} {x0 : Int} {x1 : Int} (h :
  (G.2.1 x0).1 = 19 ∧
  cN C.1 d m_WordPlaces_freshBook [vR x0] G σ (fun (r1 : Int) (σ1 : jH) =>
  (G.2.1 r1).1 = 9 ∧
  cN C.1 d m_Book_has [vR r1, vI x1] G σ1 (fun (r2 : Int) (σ2 : jH) =>
  (r2 = 0 ∨ r2 = 1) ∧ RT r2 G σ2))) :
  jwp C d mc ms RT k_WordPlaces_isForm j0 q_WordPlaces_isForm P 5 0 [some (vR x0), some (vI x1)] [] G σ cs ss := h

def q_WordPlaces_pack : List (Nat × List Bool) := []
set_option maxRecDepth 20000 in
theorem b_WordPlaces_pack_0 {C : jC} {d mc ms : Nat} {RT : Int → jG → jH → Prop} {P : jK} {G : jG} {σ : jH} {cs ss : Nat} {x0 : Int} {x1 : Int} {x2 : Int} {x3 : Int} (h :
  cN C.1 d m_WordPlaces_isEdition [vI x1] G σ (fun (r1 : Int) (σ1 : jH) =>
  ((r1 = 0 →
    RT (-2) G σ1) ∧
  (r1 ≠ 0 →
    (G.2.1 x0).1 = 19 ∧
    cN C.1 d m_WordPlaces_isForm [vR x0, vI x2] G σ1 (fun (r2 : Int) (σ2 : jH) =>
    ((r2 = 0 →
      RT (-2) G σ2) ∧
    (r2 ≠ 0 →
      ((x3 < (-1) →
        RT (-2) G σ2) ∧
      (((-1) : Int) ≤ x3 →
        ((x3 ≤ 10 →
          (G.2.1 x0).1 = 19 ∧
          cN C.1 d m_WordPlaces_freshWords [vR x0, vI x1] G σ2 (fun (r3 : Int) (σ3 : jH) =>
          ((x3 ≠ (-1) →
            (G.2.1 r3).1 = 18 ∧
            cN C.1 d m_Words_bits [vR r3, vI x2, vI x3] G σ3 (fun (r4 : Int) (σ4 : jH) =>
            RT r4 G σ4)) ∧
          (x3 = (-1) →
            (G.2.1 r3).1 = 18 ∧
            cN C.1 d m_Words_leastBits [vR r3, vI x2] G σ3 (fun (r5 : Int) (σ5 : jH) =>
            RT r5 G σ5))))) ∧
        ((10 : Int) < x3 →
          RT (-2) G σ2))))))))))) :
  jwp C d mc ms RT k_WordPlaces_pack j0 q_WordPlaces_pack P 25 0 [some (vR x0), some (vI x1), some (vI x2), some (vI x3), none] [] G σ cs ss := h

def q_WordPlaces_room : List (Nat × List Bool) := [(21, [true, false, true, true, true])]
set_option maxRecDepth 20000 in
theorem b_WordPlaces_room_0 {C : jC} {d mc ms : Nat} {RT : Int → jG → jH → Prop} {P : jK} {G : jG} {σ : jH} {cs ss : Nat} {x0 : Int} {x1 : Int} (h :
  cN C.1 d m_WordPlaces_isEdition [vI x1] G σ (fun (r1 : Int) (σ1 : jH) =>
  ((r1 ≠ 0 →
    (G.2.1 x0).1 = 19 ∧
    cN C.1 d m_WordPlaces_freshWords [vR x0, vI x1] G σ1 (fun (r2 : Int) (σ2 : jH) =>
    P 21 [some (vR x0), none, some (vR r2), some (vI 0), some (vI 0)] [] G σ2 cs ss)) ∧
  (r1 = 0 →
    RT (-2) G σ1)))) :
  jwp C d mc ms RT k_WordPlaces_room j0 q_WordPlaces_room P 11 0 [some (vR x0), some (vI x1), none, none, none] [] G σ cs ss := h
set_option maxRecDepth 20000 in
theorem b_WordPlaces_room_21 {C : jC} {d mc ms : Nat} {RT : Int → jG → jH → Prop} {P : jK} {G : jG} {σ : jH} {cs ss : Nat} {x0 : Int} {x2 : Int} {x3 : Int} {x4 : Int} (h :
  (G.2.1 x0).1 = 19 ∧
  (G.2.1 (G.2.2 x0 5)).1 = 9 ∧
  (((σ (G.2.2 x0 5) 1) ≤ x4 →
    RT x3 G σ) ∧
  (x4 < (σ (G.2.2 x0 5) 1) →
    (G.2.1 x2).1 = 18 ∧
    cN C.1 d m_Words_leastBits [vR x2, vI x4] G σ (fun (r1 : Int) (σ1 : jH) =>
    P 21 [some (vR x0), none, some (vR x2), some (vI (w32 (x3 + r1))), some (vI (w32 (x4 + 1)))] [] G σ1 cs ss)))) :
  jwp C d mc ms RT k_WordPlaces_room j0 q_WordPlaces_room P 13 21 [some (vR x0), none, some (vR x2), some (vI x3), some (vI x4)] [] G σ cs ss := h

def q_WordPlaces_shares : List (Nat × List Bool) := []
set_option maxRecDepth 20000 in
theorem b_WordPlaces_shares_0 {C : jC} {d mc ms : Nat} {RT : Int → jG → jH → Prop} {P : jK} {G : jG} {σ : jH} {cs ss : Nat} {x0 : Int} {x1 : Int} {x2 : Int} (h :
  cN C.1 d m_WordPlaces_isEdition [vI x1] G σ (fun (r1 : Int) (σ1 : jH) =>
  ((r1 = 0 →
    RT (-2) G σ1) ∧
  (r1 ≠ 0 →
    ((x2 < 1 →
      RT (-2) G σ1) ∧
    ((1 : Int) ≤ x2 →
      ((x2 ≤ 8 →
        (G.2.1 x0).1 = 19 ∧
        (G.2.1 x0).1 = 19 ∧
        cN C.1 d m_WordPlaces_freshWords [vR x0, vI x1] G (ju σ1 x0 12 x2) (fun (r2 : Int) (σ2 : jH) =>
        (G.2.1 x0).1 = 19 ∧
        (G.2.1 (G.2.2 x0 2)).1 = 10 ∧
        cN C.1 d m_Image_lineCount [vR (G.2.2 x0 2), vI x1] G σ2 (fun (r3 : Int) (σ3 : jH) =>
        (G.2.1 x0).1 = 19 ∧
        (G.2.1 r2).1 = 18 ∧
        cN C.1 d m_Words_divide [vR r2, vI x2, vI r3, vR (G.2.2 x0 11)] G σ3 (fun (r4 : Int) (σ4 : jH) =>
        RT r4 G σ4)))) ∧
      ((8 : Int) < x2 →
        RT (-2) G σ1)))))))) :
  jwp C d mc ms RT k_WordPlaces_shares j0 q_WordPlaces_shares P 24 0 [some (vR x0), some (vI x1), some (vI x2)] [] G σ cs ss := h

def q_WordPlaces_share : List (Nat × List Bool) := []
set_option maxRecDepth 20000 in
theorem b_WordPlaces_share_0 {C : jC} {d mc ms : Nat} {RT : Int → jG → jH → Prop} {P : jK} {G : jG} {σ : jH} {cs ss : Nat} {x0 : Int} {x1 : Int} (h :
  ((x1 < 0 →
    RT (-1) G σ) ∧
  ((0 : Int) ≤ x1 →
    (G.2.1 x0).1 = 19 ∧
    (((σ x0 12) ≤ x1 →
      RT (-1) G σ) ∧
    (x1 < (σ x0 12) →
      (((8 : Int) ≤ x1 →
        RT (-1) G σ) ∧
      (x1 < 8 →
        (G.2.1 x0).1 = 19 ∧
        (G.2.1 (G.2.2 x0 11)).1 = 1 ∧ (0 : Int) ≤ x1 ∧ x1 < (G.2.1 (G.2.2 x0 11)).2 ∧
        RT (σ (G.2.2 x0 11) x1) G σ))))))) :
  jwp C d mc ms RT k_WordPlaces_share j0 q_WordPlaces_share P 15 0 [some (vR x0), some (vI x1)] [] G σ cs ss := h

def q_WordPlaces_alike : List (Nat × List Bool) := []
set_option maxRecDepth 20000 in
theorem b_WordPlaces_alike_0 {C : jC} {d mc ms : Nat} {RT : Int → jG → jH → Prop} {P : jK} {G : jG} {σ : jH} {cs ss : Nat} {x0 : Int} (h :
  (G.2.1 x0).1 = 19 ∧
  cN C.1 d m_WordPlaces_freshLikeness [vR x0] G σ (fun (r1 : Int) (σ1 : jH) =>
  (G.2.1 r1).1 = 13 ∧
  RT (σ1 r1 1) G σ1)) :
  jwp C d mc ms RT k_WordPlaces_alike j0 q_WordPlaces_alike P 4 0 [some (vR x0)] [] G σ cs ss := h

def q_WordPlaces_freshLikeness : List (Nat × List Bool) := []
set_option maxRecDepth 20000 in
theorem b_WordPlaces_freshLikeness_0 {C : jC} {d mc ms : Nat} {RT : Int → jG → jH → Prop} {P : jK} {G : jG} {σ : jH} {cs ss : Nat} {x0 : Int} (h :
  (G.2.1 x0).1 = 19 ∧
  (G.2.1 x0).1 = 19 ∧
  (G.2.1 (G.2.2 x0 5)).1 = 9 ∧
  cN C.1 d m_Book_refresh [vR (G.2.2 x0 5), vR (G.2.2 x0 2)] G σ (fun (r1 : Int) (σ1 : jH) =>
  (G.2.1 x0).1 = 19 ∧
  (G.2.1 x0).1 = 19 ∧
  (G.2.1 (G.2.2 x0 5)).1 = 9 ∧
  cN C.1 d m_Book_wordsOf [vR (G.2.2 x0 5), vI 0] G σ1 (fun (r2 : Int) (σ2 : jH) =>
  (G.2.1 x0).1 = 19 ∧
  (G.2.1 (G.2.2 x0 5)).1 = 9 ∧
  cN C.1 d m_Book_wordsOf [vR (G.2.2 x0 5), vI 1] G σ2 (fun (r3 : Int) (σ3 : jH) =>
  (G.2.1 (G.2.2 x0 6)).1 = 13 ∧
  cN C.1 d m_Likeness_refresh [vR (G.2.2 x0 6), vR r2, vR r3] G σ3 (fun (r4 : Int) (σ4 : jH) =>
  (G.2.1 x0).1 = 19 ∧
  RT (G.2.2 x0 6) G σ4))))) :
  jwp C d mc ms RT k_WordPlaces_freshLikeness j0 q_WordPlaces_freshLikeness P 19 0 [some (vR x0)] [] G σ cs ss := h

def q_Arrays_fill3 : List (Nat × List Bool) := [(6, [true, true, false, true, true])]
set_option maxRecDepth 20000 in
theorem b_Arrays_fill3_0 {C : jC} {d mc ms : Nat} {RT : Int → jG → jH → Prop} {P : jK} {G : jG} {σ : jH} {cs ss : Nat} {x0 : Int} {x1 : Int} (h :
  (1 ≤ (G.2.1 x0).1 ∧ (G.2.1 x0).1 ≤ 7) ∧
  P 6 [some (vR x0), some (vL x1), none, some (vI 0), some (vI (G.2.1 x0).2)] [] G σ cs ss) :
  jwp C d mc ms RT k_Arrays_fill3 j0 q_Arrays_fill3 P 5 0 [some (vR x0), some (vL x1), none, none, none] [] G σ cs ss := h
set_option maxRecDepth 20000 in
theorem b_Arrays_fill3_6 {C : jC} {d mc ms : Nat} {RT : Int → jG → jH → Prop} {P : jK} {G : jG} {σ : jH} {cs ss : Nat} {x0 : Int} {x1 : Int} {x3 : Int} {x4 : Int} (h :
  ((x4 ≤ x3 →
    RT 0 G σ) ∧
  (x3 < x4 →
    (G.2.1 x0).1 = 4 ∧ (0 : Int) ≤ x3 ∧ x3 < (G.2.1 x0).2 ∧
    P 6 [some (vR x0), some (vL x1), none, some (vI (w32 (x3 + 1))), some (vI x4)] [] G (ju σ x0 x3 x1) cs ss))) :
  jwp C d mc ms RT k_Arrays_fill3 j0 q_Arrays_fill3 P 9 6 [some (vR x0), some (vL x1), none, some (vI x3), some (vI x4)] [] G σ cs ss := h

def q_WordPlaces_matched : List (Nat × List Bool) := []
set_option maxRecDepth 20000 in
theorem b_WordPlaces_matched_0 {C : jC} {d mc ms : Nat} {RT : Int → jG → jH → Prop} {P : jK} {G : jG} {σ : jH} {cs ss : Nat} {x0 : Int} {x1 : Int} (h :
  (G.2.1 x0).1 = 19 ∧
  cN C.1 d m_WordPlaces_freshLikeness [vR x0] G σ (fun (r1 : Int) (σ1 : jH) =>
  (G.2.1 x0).1 = 19 ∧
  (G.2.1 (G.2.2 x0 5)).1 = 9 ∧
  cN C.1 d m_Book_wordsOf [vR (G.2.2 x0 5), vI 0] G σ1 (fun (r2 : Int) (σ2 : jH) =>
  (G.2.1 r2).1 = 18 ∧
  cN C.1 d m_Words_has [vR r2, vI x1] G σ2 (fun (r3 : Int) (σ3 : jH) =>
  ((r3 = 0 →
    RT (-1) G σ3) ∧
  (r3 ≠ 0 →
    (G.2.1 r1).1 = 13 ∧
    (G.2.1 (G.2.2 r1 2)).1 = 1 ∧ (0 : Int) ≤ x1 ∧ x1 < (G.2.1 (G.2.2 r1 2)).2 ∧
    RT (σ3 (G.2.2 r1 2) x1) G σ3)))))) :
  jwp C d mc ms RT k_WordPlaces_matched j0 q_WordPlaces_matched P 16 0 [some (vR x0), some (vI x1), none] [] G σ cs ss := h

def q_WordPlaces_slip : List (Nat × List Bool) := []
set_option maxRecDepth 20000 in
theorem b_WordPlaces_slip_0 {C : jC} {d mc ms : Nat} {RT : Int → jG → jH → Prop} {P : jK} {G : jG} {σ : jH} {cs ss : Nat} {x0 : Int} {x1 : Int} {x2 : Int} (h :
  cN C.1 d m_WordPlaces_isHand [vI x1] G σ (fun (r1 : Int) (σ1 : jH) =>
  ((r1 = 0 →
    RT (-2) G σ1) ∧
  (r1 ≠ 0 →
    ((x2 < 0 →
      RT (-2) G σ1) ∧
    ((0 : Int) ≤ x2 →
      (G.2.1 x0).1 = 19 ∧
      (G.2.1 (G.2.2 x0 2)).1 = 10 ∧
      cN C.1 d m_Image_wordCount [vR (G.2.2 x0 2), vI 0] G σ1 (fun (r2 : Int) (σ2 : jH) =>
      ((x2 < r2 →
        (G.2.1 x0).1 = 19 ∧
        cN C.1 d m_WordPlaces_takeTape [vR x0] G σ2 (fun (r3 : Int) (σ3 : jH) =>
        (G.2.1 x0).1 = 19 ∧
        cN C.1 d m_WordPlaces_isOneWord [vR x0, vI r3] G σ3 (fun (r4 : Int) (σ4 : jH) =>
        ((r4 ≠ 0 →
          (G.2.1 x0).1 = 19 ∧
          cN C.1 d m_WordPlaces_readLetters [vR x0, vI 0, vI r3] G σ4 (fun (r5 : Int) (σ5 : jH) =>
          (G.2.1 x0).1 = 19 ∧
          (G.2.1 (G.2.2 x0 2)).1 = 10 ∧
          cN C.1 d m_Image_slipAt [vI x1, vI x2] G σ5 (fun (r6 : Int) (σ6 : jH) =>
          (G.2.1 x0).1 = 19 ∧
          (G.2.1 (G.2.2 x0 10)).1 = 11 ∧
          (G.2.1 x0).1 = 19 ∧
          (G.2.1 (G.2.2 x0 10)).1 = 11 ∧
          (G.2.1 (G.2.2 (G.2.2 x0 2) 6)).1 = 12 ∧
          cN C.1 d m_KeyRow_put [vR (G.2.2 (G.2.2 x0 2) 6), vI r6, vL (σ6 (G.2.2 x0 10) 0), vL (σ6 (G.2.2 x0 10) 1)] G σ6 (fun (r7 : Int) (σ7 : jH) =>
          (G.2.1 x0).1 = 19 ∧
          cN C.1 d m_WordPlaces_freshWords [vR x0, vI 0] G σ7 (fun (r8 : Int) (σ8 : jH) =>
          (G.2.1 x0).1 = 19 ∧
          cN C.1 d m_WordPlaces_isWrong [vR x0, vR r8, vI x1, vI x2] G σ8 (fun (r9 : Int) (σ9 : jH) =>
          ((r9 = 0 →
            RT 1 G σ9) ∧
          (r9 ≠ 0 →
            RT 0 G σ9)))))))) ∧
        (r4 = 0 →
          RT (-4) G σ4))))) ∧
      (r2 ≤ x2 →
        RT (-2) G σ2))))))))) :
  jwp C d mc ms RT k_WordPlaces_slip j0 q_WordPlaces_slip P 46 0 [some (vR x0), some (vI x1), some (vI x2), none] [] G σ cs ss := h

def q_WordPlaces_isHand : List (Nat × List Bool) := []
set_option maxRecDepth 20000 in
theorem b_WordPlaces_isHand_0 {C : jC} {d mc ms : Nat} {RT : Int → jG → jH → Prop} {P : jK} {G : jG} {σ : jH} {cs ss : Nat} {x0 : Int} (h :
  ((x0 < 0 →
    ((0 : Int) = 0 ∨ (0 : Int) = 1) ∧ RT 0 G σ) ∧
  ((0 : Int) ≤ x0 →
    (((4 : Int) ≤ x0 →
      ((0 : Int) = 0 ∨ (0 : Int) = 1) ∧ RT 0 G σ) ∧
    (x0 < 4 →
      ((1 : Int) = 0 ∨ (1 : Int) = 1) ∧ RT 1 G σ))))) :
  jwp C d mc ms RT k_WordPlaces_isHand j0 q_WordPlaces_isHand P 8 0 [some (vI x0)] [] G σ cs ss := h

def q_WordPlaces_isOneWord : List (Nat × List Bool) := []
set_option maxRecDepth 20000 in
theorem b_WordPlaces_isOneWord_0 {C : jC} {d mc ms : Nat} {RT : Int → jG → jH → Prop} {P : jK} {G : jG} {σ : jH} {cs ss : Nat} {x0 : Int} {x1 : Int} (h :
  ((x1 < 1 →
    ((0 : Int) = 0 ∨ (0 : Int) = 1) ∧ RT 0 G σ) ∧
  ((1 : Int) ≤ x1 →
    (((20 : Int) < x1 →
      ((0 : Int) = 0 ∨ (0 : Int) = 1) ∧ RT 0 G σ) ∧
    (x1 ≤ 20 →
      (G.2.1 x0).1 = 19 ∧
      cN C.1 d m_WordPlaces_lettersOnTape [vR x0, vI x1] G σ (fun (r1 : Int) (σ1 : jH) =>
      ((r1 ≠ x1 →
        ((0 : Int) = 0 ∨ (0 : Int) = 1) ∧ RT 0 G σ1) ∧
      (r1 = x1 →
        ((1 : Int) = 0 ∨ (1 : Int) = 1) ∧ RT 1 G σ1)))))))) :
  jwp C d mc ms RT k_WordPlaces_isOneWord j0 q_WordPlaces_isOneWord P 14 0 [some (vR x0), some (vI x1)] [] G σ cs ss := h

def q_WordPlaces_lettersOnTape : List (Nat × List Bool) := [(4, [true, true, true, true])]
set_option maxRecDepth 20000 in
theorem b_WordPlaces_lettersOnTape_0 {C : jC} {d mc ms : Nat} {RT : Int → jG → jH → Prop} {P : jK} {G : jG} {σ : jH} {cs ss : Nat} {x0 : Int} {x1 : Int} (h :
  P 4 [some (vR x0), some (vI x1), some (vI 0), some (vI 0)] [] G σ cs ss) :
  jwp C d mc ms RT k_WordPlaces_lettersOnTape j0 q_WordPlaces_lettersOnTape P 4 0 [some (vR x0), some (vI x1), none, none] [] G σ cs ss := h
set_option maxRecDepth 20000 in
theorem b_WordPlaces_lettersOnTape_4 {C : jC} {d mc ms : Nat} {RT : Int → jG → jH → Prop} {P : jK} {G : jG} {σ : jH} {cs ss : Nat} {x0 : Int} {x1 : Int} {x2 : Int} {x3 : Int} (h :
  ((x1 ≤ x3 →
    RT x2 G σ) ∧
  (x3 < x1 →
    (G.2.1 x0).1 = 19 ∧
    cN C.1 d m_WordPlaces_letterOn [vR x0, vI x3, vI x1] G σ (fun (r1 : Int) (σ1 : jH) =>
    ((r1 = (-1) →
      P 4 [some (vR x0), some (vI x1), some (vI (w32 (x2 + 0))), some (vI (w32 (x3 + 1)))] [] G σ1 cs ss) ∧
    (r1 ≠ (-1) →
      P 4 [some (vR x0), some (vI x1), some (vI (w32 (x2 + 1))), some (vI (w32 (x3 + 1)))] [] G σ1 cs ss)))))) :
  jwp C d mc ms RT k_WordPlaces_lettersOnTape j0 q_WordPlaces_lettersOnTape P 16 4 [some (vR x0), some (vI x1), some (vI x2), some (vI x3)] [] G σ cs ss := h

def q_WordPlaces_letterOn : List (Nat × List Bool) := []
set_option maxRecDepth 20000 in
theorem b_WordPlaces_letterOn_0 {C : jC} {d mc ms : Nat} {RT : Int → jG → jH → Prop} {P : jK} {G : jG} {σ : jH} {cs ss : Nat} {x0 : Int} {x1 : Int} {x2 : Int} (h :
  ((x1 < 0 →
    RT (-1) G σ) ∧
  ((0 : Int) ≤ x1 →
    ((x2 ≤ x1 →
      RT (-1) G σ) ∧
    (x1 < x2 →
      (((400 : Int) ≤ x1 →
        RT (-1) G σ) ∧
      (x1 < 400 →
        (G.2.1 x0).1 = 19 ∧
        (G.2.1 (G.2.2 x0 0)).1 = 2 ∧ (0 : Int) ≤ x1 ∧ x1 < (G.2.1 (G.2.2 x0 0)).2 ∧
        cN C.1 d m_WordPlaces_isLetter [vI (σ (G.2.2 x0 0) x1)] G σ (fun (r1 : Int) (σ1 : jH) =>
        ((r1 = 0 →
          RT (-1) G σ1) ∧
        (r1 ≠ 0 →
          (G.2.1 x0).1 = 19 ∧
          (G.2.1 (G.2.2 x0 0)).1 = 2 ∧ (0 : Int) ≤ x1 ∧ x1 < (G.2.1 (G.2.2 x0 0)).2 ∧
          RT (w32 ((σ1 (G.2.2 x0 0) x1) - 97)) G σ1)))))))))) :
  jwp C d mc ms RT k_WordPlaces_letterOn j0 q_WordPlaces_letterOn P 22 0 [some (vR x0), some (vI x1), some (vI x2)] [] G σ cs ss := h

def q_WordPlaces_readLetters : List (Nat × List Bool) := [(9, [true, false, true, true])]
set_option maxRecDepth 20000 in
theorem b_WordPlaces_readLetters_0 {C : jC} {d mc ms : Nat} {RT : Int → jG → jH → Prop} {P : jK} {G : jG} {σ : jH} {cs ss : Nat} {x0 : Int} {x1 : Int} {x2 : Int} (h :
  (G.2.1 x0).1 = 19 ∧
  (G.2.1 (G.2.2 x0 10)).1 = 11 ∧
  cN C.1 d m_Key_clear [vR (G.2.2 x0 10)] G σ (fun (r1 : Int) (σ1 : jH) =>
  P 9 [some (vR x0), none, some (vI x2), some (vI x1)] [] G σ1 cs ss)) :
  jwp C d mc ms RT k_WordPlaces_readLetters j0 q_WordPlaces_readLetters P 5 0 [some (vR x0), some (vI x1), some (vI x2), none] [] G σ cs ss := h
set_option maxRecDepth 20000 in
theorem b_WordPlaces_readLetters_9 {C : jC} {d mc ms : Nat} {RT : Int → jG → jH → Prop} {P : jK} {G : jG} {σ : jH} {cs ss : Nat} {x0 : Int} {x2 : Int} {x3 : Int} (h :
  ((x2 ≤ x3 →
    RT 0 G σ) ∧
  (x3 < x2 →
    (G.2.1 x0).1 = 19 ∧
    (G.2.1 x0).1 = 19 ∧
    cN C.1 d m_WordPlaces_letterOn [vR x0, vI x3, vI x2] G σ (fun (r1 : Int) (σ1 : jH) =>
    (G.2.1 (G.2.2 x0 10)).1 = 11 ∧
    cN C.1 d m_Key_add [vR (G.2.2 x0 10), vI r1] G σ1 (fun (r2 : Int) (σ2 : jH) =>
    P 9 [some (vR x0), none, some (vI x2), some (vI (w32 (x3 + 1)))] [] G σ2 cs ss))))) :
  jwp C d mc ms RT k_WordPlaces_readLetters j0 q_WordPlaces_readLetters P 12 9 [some (vR x0), none, some (vI x2), some (vI x3)] [] G σ cs ss := h

def q_WordPlaces_isWrong : List (Nat × List Bool) := []
set_option maxRecDepth 20000 in
theorem b_WordPlaces_isWrong_0 {C : jC} {d mc ms : Nat} {RT : Int → jG → jH → Prop} {P : jK} {G : jG} {σ : jH} {cs ss : Nat} {x0 : Int} {x1 : Int} {x2 : Int} {x3 : Int} (h :
  cN C.1 d m_Image_slipAt [vI x2, vI x3] G σ (fun (r1 : Int) (σ1 : jH) =>
  (G.2.1 x1).1 = 18 ∧
  (((σ1 x1 0) ≤ x3 →
    ((1 : Int) = 0 ∨ (1 : Int) = 1) ∧ RT 1 G σ1) ∧
  (x3 < (σ1 x1 0) →
    (G.2.1 x1).1 = 18 ∧
    (G.2.1 x0).1 = 19 ∧
    (G.2.1 (G.2.2 x0 2)).1 = 10 ∧
    cN C.1 d m_Image_slipHigh [vR (G.2.2 x0 2), vI r1] G σ1 (fun (r2 : Int) (σ2 : jH) =>
    (G.2.1 x0).1 = 19 ∧
    (G.2.1 (G.2.2 x0 2)).1 = 10 ∧
    cN C.1 d m_Image_slipLow [vR (G.2.2 x0 2), vI r1] G σ2 (fun (r3 : Int) (σ3 : jH) =>
    (G.2.1 (G.2.2 x1 1)).1 = 12 ∧
    cN C.1 d m_KeyRow_holds [vR (G.2.2 x1 1), vI x3, vL r2, vL r3] G σ3 (fun (r4 : Int) (σ4 : jH) =>
    ((r4 ≠ 0 →
      ((0 : Int) = 0 ∨ (0 : Int) = 1) ∧ RT 0 G σ4) ∧
    (r4 = 0 →
      ((1 : Int) = 0 ∨ (1 : Int) = 1) ∧ RT 1 G σ4))))))))) :
  jwp C d mc ms RT k_WordPlaces_isWrong j0 q_WordPlaces_isWrong P 24 0 [some (vR x0), some (vR x1), some (vI x2), some (vI x3), none] [] G σ cs ss := h

def q_WordPlaces_hand : List (Nat × List Bool) := [(40, [true, true, true, true, true, true, true, true]), (82, [true, true, true, true, true, false, true, true])]
set_option maxRecDepth 20000 in
theorem b_WordPlaces_hand_0 {C : jC} {d mc ms : Nat} {RT : Int → jG → jH → Prop} {P : jK} {G : jG} {σ : jH} {cs ss : Nat} {x0 : Int} {x1 : Int} {x2 : Int} (h :
  cN C.1 d m_WordPlaces_isHand [vI x1] G σ (fun (r1 : Int) (σ1 : jH) =>
  ((r1 = 0 →
    RT (-2000000000) G σ1) ∧
  (r1 ≠ 0 →
    ((x2 < 0 →
      RT (-2000000000) G σ1) ∧
    ((0 : Int) ≤ x2 →
      ((x2 ≤ 2 →
        (G.2.1 x0).1 = 19 ∧
        cN C.1 d m_WordPlaces_freshWords [vR x0, vI 0] G σ1 (fun (r2 : Int) (σ2 : jH) =>
        (G.2.1 r2).1 = 18 ∧
        P 40 [some (vR x0), some (vI x1), some (vI x2), some (vR r2), some (vI 0), some (vI 0), some (vI (σ2 r2 0)), some (vI 0)] [] G σ2 cs ss)) ∧
      ((2 : Int) < x2 →
        RT (-2000000000) G σ1)))))))) :
  jwp C d mc ms RT k_WordPlaces_hand j0 q_WordPlaces_hand P 21 0 [some (vR x0), some (vI x1), some (vI x2), none, none, none, none, none] [] G σ cs ss := h
set_option maxRecDepth 20000 in
theorem b_WordPlaces_hand_40 {C : jC} {d mc ms : Nat} {RT : Int → jG → jH → Prop} {P : jK} {G : jG} {σ : jH} {cs ss : Nat} {x0 : Int} {x1 : Int} {x2 : Int} {x3 : Int} {x4 : Int} {x5 : Int} {x6 : Int} {x7 : Int} (h :
  (((300 : Int) ≤ x7 →
    ((x2 ≠ 0 →
      ((x2 ≠ 1 →
        RT x6 G σ) ∧
      (x2 = 1 →
        RT x5 G σ))) ∧
    (x2 = 0 →
      RT x4 G σ))) ∧
  (x7 < 300 →
    (G.2.1 x0).1 = 19 ∧
    (G.2.1 (G.2.2 x0 2)).1 = 10 ∧
    cN C.1 d m_Image_hasSlip [vR (G.2.2 x0 2), vI x1, vI x7] G σ (fun (r1 : Int) (σ1 : jH) =>
    ((r1 = 0 →
      P 40 [some (vR x0), some (vI x1), some (vI x2), some (vR x3), some (vI x4), some (vI x5), some (vI x6), some (vI (w32 (x7 + 1)))] [] G σ1 cs ss) ∧
    (r1 ≠ 0 →
      (G.2.1 x0).1 = 19 ∧
      cN C.1 d m_WordPlaces_isWrong [vR x0, vR x3, vI x1, vI x7] G σ1 (fun (r2 : Int) (σ2 : jH) =>
      ((r2 = 0 →
        P 82 [some (vR x0), some (vI x1), some (vI x2), some (vR x3), some (vI (w32 (x4 + 1))), none, some (vI x6), some (vI x7)] [vI 0, vI x5] G σ2 cs ss) ∧
      (r2 ≠ 0 →
        P 82 [some (vR x0), some (vI x1), some (vI x2), some (vR x3), some (vI (w32 (x4 + 1))), none, some (vI x6), some (vI x7)] [vI 1, vI x5] G σ2 cs ss))))))))) :
  jwp C d mc ms RT k_WordPlaces_hand j0 q_WordPlaces_hand P 19 40 [some (vR x0), some (vI x1), some (vI x2), some (vR x3), some (vI x4), some (vI x5), some (vI x6), some (vI x7)] [] G σ cs ss := h
set_option maxRecDepth 20000 in
theorem b_WordPlaces_hand_82 {C : jC} {d mc ms : Nat} {RT : Int → jG → jH → Prop} {P : jK} {G : jG} {σ : jH} {cs ss : Nat} {x0 : Int} {x1 : Int} {x2 : Int} {x3 : Int} {x4 : Int} {x6 : Int} {x7 : Int} {s0 : Int} {s1 : Int} (h :
  (G.2.1 x3).1 = 18 ∧
  (((σ x3 0) ≤ x7 →
    P 40 [some (vR x0), some (vI x1), some (vI x2), some (vR x3), some (vI x4), some (vI (w32 (s0 + s1))), some (vI (w32 (x6 - 0))), some (vI (w32 (x7 + 1)))] [] G σ cs ss) ∧
  (x7 < (σ x3 0) →
    P 40 [some (vR x0), some (vI x1), some (vI x2), some (vR x3), some (vI x4), some (vI (w32 (s0 + s1))), some (vI (w32 (x6 - 1))), some (vI (w32 (x7 + 1)))] [] G σ cs ss))) :
  jwp C d mc ms RT k_WordPlaces_hand j0 q_WordPlaces_hand P 13 82 [some (vR x0), some (vI x1), some (vI x2), some (vR x3), some (vI x4), none, some (vI x6), some (vI x7)] [vI s1, vI s0] G σ cs ss := h

def q_WordPlaces_copied : List (Nat × List Bool) := [(34, [true, true, true, true, true, true])]
set_option maxRecDepth 20000 in
theorem b_WordPlaces_copied_0 {C : jC} {d mc ms : Nat} {RT : Int → jG → jH → Prop} {P : jK} {G : jG} {σ : jH} {cs ss : Nat} {x0 : Int} {x1 : Int} {x2 : Int} (h :
  cN C.1 d m_WordPlaces_isHand [vI x1] G σ (fun (r1 : Int) (σ1 : jH) =>
  ((r1 = 0 →
    RT (-2) G σ1) ∧
  (r1 ≠ 0 →
    cN C.1 d m_WordPlaces_isHand [vI x2] G σ1 (fun (r2 : Int) (σ2 : jH) =>
    ((r2 = 0 →
      RT (-2) G σ2) ∧
    (r2 ≠ 0 →
      ((x1 ≠ x2 →
        (G.2.1 x0).1 = 19 ∧
        cN C.1 d m_WordPlaces_freshWords [vR x0, vI 0] G σ2 (fun (r3 : Int) (σ3 : jH) =>
        P 34 [some (vR x0), some (vI x1), some (vI x2), some (vR r3), some (vI 0), some (vI 0)] [] G σ3 cs ss)) ∧
      (x1 = x2 →
        RT (-2) G σ2))))))))) :
  jwp C d mc ms RT k_WordPlaces_copied j0 q_WordPlaces_copied P 17 0 [some (vR x0), some (vI x1), some (vI x2), none, none, none] [] G σ cs ss := h
set_option maxRecDepth 20000 in
theorem b_WordPlaces_copied_34 {C : jC} {d mc ms : Nat} {RT : Int → jG → jH → Prop} {P : jK} {G : jG} {σ : jH} {cs ss : Nat} {x0 : Int} {x1 : Int} {x2 : Int} {x3 : Int} {x4 : Int} {x5 : Int} (h :
  (((300 : Int) ≤ x5 →
    RT x4 G σ) ∧
  (x5 < 300 →
    (G.2.1 x0).1 = 19 ∧
    (G.2.1 (G.2.2 x0 2)).1 = 10 ∧
    cN C.1 d m_Image_hasSlip [vR (G.2.2 x0 2), vI x1, vI x5] G σ (fun (r1 : Int) (σ1 : jH) =>
    ((r1 = 0 →
      P 34 [some (vR x0), some (vI x1), some (vI x2), some (vR x3), some (vI x4), some (vI (w32 (x5 + 1)))] [] G σ1 cs ss) ∧
    (r1 ≠ 0 →
      (G.2.1 x0).1 = 19 ∧
      cN C.1 d m_WordPlaces_isWrong [vR x0, vR x3, vI x1, vI x5] G σ1 (fun (r2 : Int) (σ2 : jH) =>
      ((r2 = 0 →
        P 34 [some (vR x0), some (vI x1), some (vI x2), some (vR x3), some (vI x4), some (vI (w32 (x5 + 1)))] [] G σ2 cs ss) ∧
      (r2 ≠ 0 →
        cN C.1 d m_Image_slipAt [vI x1, vI x5] G σ2 (fun (r3 : Int) (σ3 : jH) =>
        cN C.1 d m_Image_slipAt [vI x2, vI x5] G σ3 (fun (r4 : Int) (σ4 : jH) =>
        (G.2.1 x0).1 = 19 ∧
        cN C.1 d m_WordPlaces_areAlike [vR x0, vI r3, vI r4] G σ4 (fun (r5 : Int) (σ5 : jH) =>
        ((r5 = 0 →
          P 34 [some (vR x0), some (vI x1), some (vI x2), some (vR x3), some (vI x4), some (vI (w32 (x5 + 1)))] [] G σ5 cs ss) ∧
        (r5 ≠ 0 →
          P 34 [some (vR x0), some (vI x1), some (vI x2), some (vR x3), some (vI (w32 (x4 + 1))), some (vI (w32 (x5 + 1)))] [] G σ5 cs ss)))))))))))))) :
  jwp C d mc ms RT k_WordPlaces_copied j0 q_WordPlaces_copied P 27 34 [some (vR x0), some (vI x1), some (vI x2), some (vR x3), some (vI x4), some (vI x5)] [] G σ cs ss := h

def q_WordPlaces_areAlike : List (Nat × List Bool) := []
set_option maxRecDepth 20000 in
theorem b_WordPlaces_areAlike_0 {C : jC} {d mc ms : Nat} {RT : Int → jG → jH → Prop} {P : jK} {G : jG} {σ : jH} {cs ss : Nat} {x0 : Int} {x1 : Int} {x2 : Int} (h :
  (G.2.1 x0).1 = 19 ∧
  (G.2.1 (G.2.2 x0 2)).1 = 10 ∧
  cN C.1 d m_Image_slipHigh [vR (G.2.2 x0 2), vI x1] G σ (fun (r1 : Int) (σ1 : jH) =>
  (G.2.1 x0).1 = 19 ∧
  (G.2.1 (G.2.2 x0 2)).1 = 10 ∧
  cN C.1 d m_Image_slipHigh [vR (G.2.2 x0 2), vI x2] G σ1 (fun (r2 : Int) (σ2 : jH) =>
  (((jcmp r1 r2) ≠ 0 →
    ((0 : Int) = 0 ∨ (0 : Int) = 1) ∧ RT 0 G σ2) ∧
  ((jcmp r1 r2) = 0 →
    (G.2.1 x0).1 = 19 ∧
    (G.2.1 (G.2.2 x0 2)).1 = 10 ∧
    cN C.1 d m_Image_slipLow [vR (G.2.2 x0 2), vI x1] G σ2 (fun (r3 : Int) (σ3 : jH) =>
    (G.2.1 x0).1 = 19 ∧
    (G.2.1 (G.2.2 x0 2)).1 = 10 ∧
    cN C.1 d m_Image_slipLow [vR (G.2.2 x0 2), vI x2] G σ3 (fun (r4 : Int) (σ4 : jH) =>
    (((jcmp r3 r4) ≠ 0 →
      ((0 : Int) = 0 ∨ (0 : Int) = 1) ∧ RT 0 G σ4) ∧
    ((jcmp r3 r4) = 0 →
      ((1 : Int) = 0 ∨ (1 : Int) = 1) ∧ RT 1 G σ4))))))))) :
  jwp C d mc ms RT k_WordPlaces_areAlike j0 q_WordPlaces_areAlike P 23 0 [some (vR x0), some (vI x1), some (vI x2)] [] G σ cs ss := h

def q_WordPlaces_rank : List (Nat × List Bool) := [(28, [true, true, true, true, true, false]), (38, [true, true, true, true, true, true]), (61, [true, true, true, true, true, true]), (125, [true, true, false, true, true, false])]
set_option maxRecDepth 20000 in
theorem b_WordPlaces_rank_0 {C : jC} {d mc ms : Nat} {RT : Int → jG → jH → Prop} {P : jK} {G : jG} {σ : jH} {cs ss : Nat} {x0 : Int} {x1 : Int} (h :
  cN C.1 d m_WordPlaces_isEdition [vI x1] G σ (fun (r1 : Int) (σ1 : jH) =>
  ((r1 ≠ 0 →
    (G.2.1 x0).1 = 19 ∧
    cN C.1 d m_WordPlaces_takeTape [vR x0] G σ1 (fun (r2 : Int) (σ2 : jH) =>
    (G.2.1 x0).1 = 19 ∧
    cN C.1 d m_WordPlaces_freshWords [vR x0, vI x1] G σ2 (fun (r3 : Int) (σ3 : jH) =>
    (G.2.1 r3).1 = 18 ∧
    cN C.1 d m_Words_clearWorths [vR r3] G σ3 (fun (r4 : Int) (σ4 : jH) =>
    P 28 [some (vR x0), some (vI x1), some (vI r2), some (vR r3), some (vI 0), none] [] G σ4 cs ss)))) ∧
  (r1 = 0 →
    RT (-2) G σ1)))) :
  jwp C d mc ms RT k_WordPlaces_rank j0 q_WordPlaces_rank P 14 0 [some (vR x0), some (vI x1), none, none, none, none] [] G σ cs ss := h
set_option maxRecDepth 20000 in
theorem b_WordPlaces_rank_28 {C : jC} {d mc ms : Nat} {RT : Int → jG → jH → Prop} {P : jK} {G : jG} {σ : jH} {cs ss : Nat} {x0 : Int} {x1 : Int} {x2 : Int} {x3 : Int} {x4 : Int} (h :
  ((x2 ≤ x4 →
    (G.2.1 x0).1 = 19 ∧
    P 125 [some (vR x0), some (vI x1), none, some (vR x3), some (vI 0), none] [] G (ju σ x0 15 0) cs ss) ∧
  (x4 < x2 →
    P 38 [some (vR x0), some (vI x1), some (vI x2), some (vR x3), some (vI x4), some (vI x4)] [] G σ cs ss))) :
  jwp C d mc ms RT k_WordPlaces_rank j0 q_WordPlaces_rank P 8 28 [some (vR x0), some (vI x1), some (vI x2), some (vR x3), some (vI x4), none] [] G σ cs ss := h
set_option maxRecDepth 20000 in
theorem b_WordPlaces_rank_38 {C : jC} {d mc ms : Nat} {RT : Int → jG → jH → Prop} {P : jK} {G : jG} {σ : jH} {cs ss : Nat} {x0 : Int} {x1 : Int} {x2 : Int} {x3 : Int} {x4 : Int} {x5 : Int} (h :
  ((x2 ≤ x4 →
    P 61 [some (vR x0), some (vI x1), some (vI x2), some (vR x3), some (vI x4), some (vI x5)] [] G σ cs ss) ∧
  (x4 < x2 →
    (G.2.1 x0).1 = 19 ∧
    cN C.1 d m_WordPlaces_letterOn [vR x0, vI x4, vI x2] G σ (fun (r1 : Int) (σ1 : jH) =>
    ((r1 = (-1) →
      P 61 [some (vR x0), some (vI x1), some (vI x2), some (vR x3), some (vI x4), some (vI x5)] [] G σ1 cs ss) ∧
    (r1 ≠ (-1) →
      P 38 [some (vR x0), some (vI x1), some (vI x2), some (vR x3), some (vI (w32 (x4 + 1))), some (vI x5)] [] G σ1 cs ss)))))) :
  jwp C d mc ms RT k_WordPlaces_rank j0 q_WordPlaces_rank P 11 38 [some (vR x0), some (vI x1), some (vI x2), some (vR x3), some (vI x4), some (vI x5)] [] G σ cs ss := h
set_option maxRecDepth 20000 in
theorem b_WordPlaces_rank_61 {C : jC} {d mc ms : Nat} {RT : Int → jG → jH → Prop} {P : jK} {G : jG} {σ : jH} {cs ss : Nat} {x0 : Int} {x1 : Int} {x2 : Int} {x3 : Int} {x4 : Int} {x5 : Int} (h :
  ((x4 ≤ x5 →
    P 28 [some (vR x0), some (vI x1), some (vI x2), some (vR x3), some (vI (w32 (x4 + 1))), none] [] G σ cs ss) ∧
  (x5 < x4 →
    (G.2.1 x0).1 = 19 ∧
    cN C.1 d m_WordPlaces_readFolded [vR x0, vI x5, vI x4] G σ (fun (r1 : Int) (σ1 : jH) =>
    (G.2.1 x0).1 = 19 ∧
    (G.2.1 (G.2.2 x0 5)).1 = 9 ∧
    (G.2.1 x0).1 = 19 ∧
    (G.2.1 (G.2.2 x0 5)).1 = 9 ∧
    (G.2.1 x0).1 = 19 ∧
    (G.2.1 (G.2.2 x0 10)).1 = 11 ∧
    (G.2.1 x0).1 = 19 ∧
    (G.2.1 (G.2.2 x0 10)).1 = 11 ∧
    (G.2.1 (G.2.2 (G.2.2 x0 5) 2)).1 = 12 ∧
    cN C.1 d m_KeyRow_find [vR (G.2.2 (G.2.2 x0 5) 2), vI (σ1 (G.2.2 x0 5) 1), vL (σ1 (G.2.2 x0 10) 0), vL (σ1 (G.2.2 x0 10) 1)] G σ1 (fun (r2 : Int) (σ2 : jH) =>
    (G.2.1 x3).1 = 18 ∧
    cN C.1 d m_Words_addWorths [vR x3, vI r2] G σ2 (fun (r3 : Int) (σ3 : jH) =>
    P 28 [some (vR x0), some (vI x1), some (vI x2), some (vR x3), some (vI (w32 (x4 + 1))), none] [] G σ3 cs ss)))))) :
  jwp C d mc ms RT k_WordPlaces_rank j0 q_WordPlaces_rank P 24 61 [some (vR x0), some (vI x1), some (vI x2), some (vR x3), some (vI x4), some (vI x5)] [] G σ cs ss := h
set_option maxRecDepth 20000 in
theorem b_WordPlaces_rank_125 {C : jC} {d mc ms : Nat} {RT : Int → jG → jH → Prop} {P : jK} {G : jG} {σ : jH} {cs ss : Nat} {x0 : Int} {x1 : Int} {x3 : Int} {x4 : Int} (h :
  (G.2.1 x0).1 = 19 ∧
  (G.2.1 (G.2.2 x0 2)).1 = 10 ∧
  cN C.1 d m_Image_lineCount [vR (G.2.2 x0 2), vI x1] G σ (fun (r1 : Int) (σ1 : jH) =>
  ((r1 ≤ x4 →
    (G.2.1 x0).1 = 19 ∧
    RT (σ1 x0 15) G σ1) ∧
  (x4 < r1 →
    (((40 : Int) ≤ x4 →
      (G.2.1 x0).1 = 19 ∧
      RT (σ1 x0 15) G σ1) ∧
    (x4 < 40 →
      (G.2.1 x3).1 = 18 ∧
      (G.2.1 (G.2.2 x3 11)).1 = 1 ∧ (0 : Int) ≤ x4 ∧ x4 < (G.2.1 (G.2.2 x3 11)).2 ∧
      (((σ1 (G.2.2 x3 11) x4) ≤ 0 →
        P 125 [some (vR x0), some (vI x1), none, some (vR x3), some (vI (w32 (x4 + 1))), none] [] G σ1 cs ss) ∧
      ((0 : Int) < (σ1 (G.2.2 x3 11) x4) →
        (G.2.1 x3).1 = 18 ∧
        (G.2.1 (G.2.2 x3 11)).1 = 1 ∧ (0 : Int) ≤ x4 ∧ x4 < (G.2.1 (G.2.2 x3 11)).2 ∧
        (G.2.1 x0).1 = 19 ∧
        cN C.1 d m_WordPlaces_insertRanked [vR x0, vI x4, vI (σ1 (G.2.2 x3 11) x4)] G σ1 (fun (r2 : Int) (σ2 : jH) =>
        P 125 [some (vR x0), some (vI x1), none, some (vR x3), some (vI (w32 (x4 + 1))), none] [] G σ2 cs ss))))))))) :
  jwp C d mc ms RT k_WordPlaces_rank j0 q_WordPlaces_rank P 23 125 [some (vR x0), some (vI x1), none, some (vR x3), some (vI x4), none] [] G σ cs ss := h

def q_WordPlaces_readFolded : List (Nat × List Bool) := []
set_option maxRecDepth 20000 in
theorem b_WordPlaces_readFolded_0 {C : jC} {d mc ms : Nat} {RT : Int → jG → jH → Prop} {P : jK} {G : jG} {σ : jH} {cs ss : Nat} {x0 : Int} {x1 : Int} {x2 : Int} (h :
  (G.2.1 x0).1 = 19 ∧
  cN C.1 d m_WordPlaces_readLetters [vR x0, vI x1, vI x2] G σ (fun (r1 : Int) (σ1 : jH) =>
  (G.2.1 x0).1 = 19 ∧
  (G.2.1 x0).1 = 19 ∧
  (G.2.1 (G.2.2 x0 2)).1 = 10 ∧
  (G.2.1 (G.2.2 (G.2.2 x0 2) 0)).1 = 15 ∧
  (G.2.1 (G.2.2 x0 10)).1 = 11 ∧
  cN C.1 d m_Key_map [vR (G.2.2 x0 10), vR (G.2.2 (G.2.2 (G.2.2 x0 2) 0) 1)] G σ1 (fun (r2 : Int) (σ2 : jH) =>
  RT 0 G σ2))) :
  jwp C d mc ms RT k_WordPlaces_readFolded j0 q_WordPlaces_readFolded P 12 0 [some (vR x0), some (vI x1), some (vI x2)] [] G σ cs ss := h

def q_WordPlaces_insertRanked : List (Nat × List Bool) := [(22, [true, true, true, true]), (72, [true, true, true, true])]
set_option maxRecDepth 20000 in
theorem b_WordPlaces_insertRanked_0 {C : jC} {d mc ms : Nat} {RT : Int → jG → jH → Prop} {P : jK} {G : jG} {σ : jH} {cs ss : Nat} {x0 : Int} {x1 : Int} {x2 : Int} (h :
  (G.2.1 x0).1 = 19 ∧
  (((σ x0 15) < 0 →
    RT 0 G σ) ∧
  ((0 : Int) ≤ (σ x0 15) →
    (G.2.1 x0).1 = 19 ∧
    (((σ x0 15) < 40 →
      (G.2.1 x0).1 = 19 ∧
      P 22 [some (vR x0), some (vI x1), some (vI x2), some (vI (σ x0 15))] [] G σ cs ss) ∧
    ((40 : Int) ≤ (σ x0 15) →
      RT 0 G σ))))) :
  jwp C d mc ms RT k_WordPlaces_insertRanked j0 q_WordPlaces_insertRanked P 10 0 [some (vR x0), some (vI x1), some (vI x2), none] [] G σ cs ss := h
set_option maxRecDepth 20000 in
theorem b_WordPlaces_insertRanked_22 {C : jC} {d mc ms : Nat} {RT : Int → jG → jH → Prop} {P : jK} {G : jG} {σ : jH} {cs ss : Nat} {x0 : Int} {x1 : Int} {x2 : Int} {x3 : Int} (h :
  ((x3 ≤ 0 →
    P 72 [some (vR x0), some (vI x1), some (vI x2), some (vI x3)] [] G σ cs ss) ∧
  ((0 : Int) < x3 →
    (G.2.1 x0).1 = 19 ∧
    (G.2.1 (G.2.2 x0 14)).1 = 1 ∧ (0 : Int) ≤ (w32 (x3 - 1)) ∧ (w32 (x3 - 1)) < (G.2.1 (G.2.2 x0 14)).2 ∧
    ((x2 ≤ (σ (G.2.2 x0 14) (w32 (x3 - 1))) →
      P 72 [some (vR x0), some (vI x1), some (vI x2), some (vI x3)] [] G σ cs ss) ∧
    ((σ (G.2.2 x0 14) (w32 (x3 - 1))) < x2 →
      (G.2.1 x0).1 = 19 ∧
      (G.2.1 x0).1 = 19 ∧
      (G.2.1 (G.2.2 x0 14)).1 = 1 ∧ (0 : Int) ≤ (w32 (x3 - 1)) ∧ (w32 (x3 - 1)) < (G.2.1 (G.2.2 x0 14)).2 ∧
      (G.2.1 (G.2.2 x0 14)).1 = 1 ∧ (0 : Int) ≤ x3 ∧ x3 < (G.2.1 (G.2.2 x0 14)).2 ∧
      (G.2.1 x0).1 = 19 ∧
      (G.2.1 x0).1 = 19 ∧
      (G.2.1 (G.2.2 x0 13)).1 = 1 ∧ (0 : Int) ≤ (w32 (x3 - 1)) ∧ (w32 (x3 - 1)) < (G.2.1 (G.2.2 x0 13)).2 ∧
      (G.2.1 (G.2.2 x0 13)).1 = 1 ∧ (0 : Int) ≤ x3 ∧ x3 < (G.2.1 (G.2.2 x0 13)).2 ∧
      P 22 [some (vR x0), some (vI x1), some (vI x2), some (vI (w32 (x3 + (-1))))] [] G (ju (ju σ (G.2.2 x0 14) x3 (σ (G.2.2 x0 14) (w32 (x3 - 1)))) (G.2.2 x0 13) x3 ((ju σ (G.2.2 x0 14) x3 (σ (G.2.2 x0 14) (w32 (x3 - 1)))) (G.2.2 x0 13) (w32 (x3 - 1)))) cs ss))))) :
  jwp C d mc ms RT k_WordPlaces_insertRanked j0 q_WordPlaces_insertRanked P 32 22 [some (vR x0), some (vI x1), some (vI x2), some (vI x3)] [] G σ cs ss := h
set_option maxRecDepth 20000 in
theorem b_WordPlaces_insertRanked_72 {C : jC} {d mc ms : Nat} {RT : Int → jG → jH → Prop} {P : jK} {G : jG} {σ : jH} {cs ss : Nat} {x0 : Int} {x1 : Int} {x2 : Int} {x3 : Int} (h :
  (G.2.1 x0).1 = 19 ∧
  (G.2.1 (G.2.2 x0 14)).1 = 1 ∧ (0 : Int) ≤ x3 ∧ x3 < (G.2.1 (G.2.2 x0 14)).2 ∧
  (G.2.1 x0).1 = 19 ∧
  (G.2.1 (G.2.2 x0 13)).1 = 1 ∧ (0 : Int) ≤ x3 ∧ x3 < (G.2.1 (G.2.2 x0 13)).2 ∧
  (G.2.1 x0).1 = 19 ∧
  (G.2.1 x0).1 = 19 ∧
  RT 0 G (ju (ju (ju σ (G.2.2 x0 14) x3 x2) (G.2.2 x0 13) x3 x1) x0 15 (w32 (((ju (ju σ (G.2.2 x0 14) x3 x2) (G.2.2 x0 13) x3 x1) x0 15) + 1)))) :
  jwp C d mc ms RT k_WordPlaces_insertRanked j0 q_WordPlaces_insertRanked P 17 72 [some (vR x0), some (vI x1), some (vI x2), some (vI x3)] [] G σ cs ss := h

def q_WordPlaces_ranked : List (Nat × List Bool) := []
set_option maxRecDepth 20000 in
theorem b_WordPlaces_ranked_0 {C : jC} {d mc ms : Nat} {RT : Int → jG → jH → Prop} {P : jK} {G : jG} {σ : jH} {cs ss : Nat} {x0 : Int} {x1 : Int} {x2 : Int} (h :
  ((x1 < 0 →
    RT (-2000000000) G σ) ∧
  ((0 : Int) ≤ x1 →
    (G.2.1 x0).1 = 19 ∧
    (((σ x0 15) ≤ x1 →
      RT (-2000000000) G σ) ∧
    (x1 < (σ x0 15) →
      ((x1 < 40 →
        ((x2 ≠ 0 →
          ((x2 ≠ 1 →
            RT (-2000000000) G σ) ∧
          (x2 = 1 →
            (G.2.1 x0).1 = 19 ∧
            (G.2.1 (G.2.2 x0 14)).1 = 1 ∧ (0 : Int) ≤ x1 ∧ x1 < (G.2.1 (G.2.2 x0 14)).2 ∧
            RT (σ (G.2.2 x0 14) x1) G σ))) ∧
        (x2 = 0 →
          (G.2.1 x0).1 = 19 ∧
          (G.2.1 (G.2.2 x0 13)).1 = 1 ∧ (0 : Int) ≤ x1 ∧ x1 < (G.2.1 (G.2.2 x0 13)).2 ∧
          RT (σ (G.2.2 x0 13) x1) G σ))) ∧
      ((40 : Int) ≤ x1 →
        RT (-2000000000) G σ))))))) :
  jwp C d mc ms RT k_WordPlaces_ranked j0 q_WordPlaces_ranked P 20 0 [some (vR x0), some (vI x1), some (vI x2)] [] G σ cs ss := h

def q_WordPlaces_begins : List (Nat × List Bool) := [(79, [true, false, true, false])]
set_option maxRecDepth 20000 in
theorem b_WordPlaces_begins_0 {C : jC} {d mc ms : Nat} {RT : Int → jG → jH → Prop} {P : jK} {G : jG} {σ : jH} {cs ss : Nat} {x0 : Int} (h :
  (G.2.1 x0).1 = 19 ∧
  cN C.1 d m_WordPlaces_takeTape [vR x0] G σ (fun (r1 : Int) (σ1 : jH) =>
  (G.2.1 x0).1 = 19 ∧
  cN C.1 d m_WordPlaces_freshBook [vR x0] G σ1 (fun (r2 : Int) (σ2 : jH) =>
  (G.2.1 x0).1 = 19 ∧
  cN C.1 d m_WordPlaces_readFolded [vR x0, vI 0, vI r1] G σ2 (fun (r3 : Int) (σ3 : jH) =>
  (G.2.1 x0).1 = 19 ∧
  (G.2.1 x0).1 = 19 ∧
  (G.2.1 x0).1 = 19 ∧
  cN C.1 d m_WordPlaces_lettersOnTape [vR x0, vI r1] G (ju (ju σ3 x0 16 0) x0 17 0) (fun (r4 : Int) (σ4 : jH) =>
  ((r4 ≤ 20 →
    (G.2.1 r2).1 = 9 ∧
    (G.2.1 r2).1 = 9 ∧
    (G.2.1 x0).1 = 19 ∧
    (G.2.1 (G.2.2 x0 10)).1 = 11 ∧
    (G.2.1 x0).1 = 19 ∧
    (G.2.1 (G.2.2 x0 10)).1 = 11 ∧
    (G.2.1 (G.2.2 r2 2)).1 = 12 ∧
    cN C.1 d m_KeyRow_find [vR (G.2.2 r2 2), vI (σ4 r2 1), vL (σ4 (G.2.2 x0 10) 0), vL (σ4 (G.2.2 x0 10) 1)] G σ4 (fun (r5 : Int) (σ5 : jH) =>
    ((r5 < 0 →
      (G.2.1 x0).1 = 19 ∧
      P 79 [some (vR x0), none, some (vR r2), none] [] G (ju σ5 x0 16 (w32 ((-1) - r5))) cs ss) ∧
    ((0 : Int) ≤ r5 →
      (G.2.1 x0).1 = 19 ∧
      P 79 [some (vR x0), none, some (vR r2), none] [] G (ju σ5 x0 16 r5) cs ss)))) ∧
  ((20 : Int) < r4 →
    RT 0 G σ4))))))) :
  jwp C d mc ms RT k_WordPlaces_begins j0 q_WordPlaces_begins P 40 0 [some (vR x0), none, none, none] [] G σ cs ss := h
set_option maxRecDepth 20000 in
theorem b_WordPlaces_begins_79 {C : jC} {d mc ms : Nat} {RT : Int → jG → jH → Prop} {P : jK} {G : jG} {σ : jH} {cs ss : Nat} {x0 : Int} {x2 : Int} (h :
  (G.2.1 x0).1 = 19 ∧
  (G.2.1 x0).1 = 19 ∧
  (G.2.1 x2).1 = 9 ∧
  (((σ x2 1) ≤ (w32 ((σ x0 16) + (σ x0 17))) →
    (G.2.1 x0).1 = 19 ∧
    RT (σ x0 17) G σ) ∧
  ((w32 ((σ x0 16) + (σ x0 17))) < (σ x2 1) →
    (G.2.1 x0).1 = 19 ∧
    (G.2.1 x0).1 = 19 ∧
    (G.2.1 x0).1 = 19 ∧
    (G.2.1 x2).1 = 9 ∧
    cN C.1 d m_Book_beginsWith [vR x2, vI (w32 ((σ x0 16) + (σ x0 17))), vR (G.2.2 x0 10)] G σ (fun (r1 : Int) (σ1 : jH) =>
    ((r1 = 0 →
      (G.2.1 x0).1 = 19 ∧
      RT (σ1 x0 17) G σ1) ∧
    (r1 ≠ 0 →
      (G.2.1 x0).1 = 19 ∧
      (G.2.1 x0).1 = 19 ∧
      P 79 [some (vR x0), none, some (vR x2), none] [] G (ju σ1 x0 17 (w32 ((σ1 x0 17) + 1))) cs ss)))))) :
  jwp C d mc ms RT k_WordPlaces_begins j0 q_WordPlaces_begins P 25 79 [some (vR x0), none, some (vR x2), none] [] G σ cs ss := h

def q_WordPlaces_begun : List (Nat × List Bool) := []
set_option maxRecDepth 20000 in
theorem b_WordPlaces_begun_0 {C : jC} {d mc ms : Nat} {RT : Int → jG → jH → Prop} {P : jK} {G : jG} {σ : jH} {cs ss : Nat} {x0 : Int} {x1 : Int} (h :
  ((x1 < 0 →
    RT (-1) G σ) ∧
  ((0 : Int) ≤ x1 →
    (G.2.1 x0).1 = 19 ∧
    (((σ x0 17) ≤ x1 →
      RT (-1) G σ) ∧
    (x1 < (σ x0 17) →
      (G.2.1 x0).1 = 19 ∧
      RT (w32 ((σ x0 16) + x1)) G σ))))) :
  jwp C d mc ms RT k_WordPlaces_begun j0 q_WordPlaces_begun P 12 0 [some (vR x0), some (vI x1)] [] G σ cs ss := h

def q_WordPlaces_print : List (Nat × List Bool) := [(41, [true, false, true, true, true, true, false, false, false]), (128, [true, false, true, true, true, true, true, true, false])]
set_option maxRecDepth 20000 in
theorem b_WordPlaces_print_0 {C : jC} {d mc ms : Nat} {RT : Int → jG → jH → Prop} {P : jK} {G : jG} {σ : jH} {cs ss : Nat} {x0 : Int} {x1 : Int} {x2 : Int} (h :
  cN C.1 d m_WordPlaces_isEdition [vI x1] G σ (fun (r1 : Int) (σ1 : jH) =>
  ((r1 = 0 →
    RT (-2) G σ1) ∧
  (r1 ≠ 0 →
    ((x2 < 5 →
      RT (-2) G σ1) ∧
    ((5 : Int) ≤ x2 →
      ((x2 ≤ 100 →
        (G.2.1 x0).1 = 19 ∧
        cN C.1 d m_WordPlaces_freshWords [vR x0, vI x1] G σ1 (fun (r2 : Int) (σ2 : jH) =>
        (G.2.1 x0).1 = 19 ∧
        cN C.1 d m_Arrays_fill [vR (G.2.2 x0 18), vI (-1)] G σ2 (fun (r3 : Int) (σ3 : jH) =>
        P 41 [some (vR x0), none, some (vI x2), some (vR r2), some (vI 0), some (vI 0), none, none, none] [] G σ3 cs ss))) ∧
      ((100 : Int) < x2 →
        RT (-2) G σ1)))))))) :
  jwp C d mc ms RT k_WordPlaces_print j0 q_WordPlaces_print P 21 0 [some (vR x0), some (vI x1), some (vI x2), none, none, none, none, none, none] [] G σ cs ss := h
set_option maxRecDepth 20000 in
theorem b_WordPlaces_print_41 {C : jC} {d mc ms : Nat} {RT : Int → jG → jH → Prop} {P : jK} {G : jG} {σ : jH} {cs ss : Nat} {x0 : Int} {x2 : Int} {x3 : Int} {x4 : Int} {x5 : Int} (h :
  (G.2.1 x0).1 = 19 ∧
  (G.2.1 (G.2.2 x0 5)).1 = 9 ∧
  (((σ (G.2.2 x0 5) 1) ≤ x5 →
    x2 ≠ 0 ∧
    RT (w32 (Int.tdiv (w32 ((w32 (x4 + x2)) - 1)) x2)) G σ) ∧
  (x5 < (σ (G.2.2 x0 5) 1) →
    (((600 : Int) ≤ x5 →
      x2 ≠ 0 ∧
      RT (w32 (Int.tdiv (w32 ((w32 (x4 + x2)) - 1)) x2)) G σ) ∧
    (x5 < 600 →
      (G.2.1 x0).1 = 19 ∧
      (G.2.1 (G.2.2 x0 5)).1 = 9 ∧
      (G.2.1 (G.2.2 (G.2.2 x0 5) 3)).1 = 1 ∧ (0 : Int) ≤ x5 ∧ x5 < (G.2.1 (G.2.2 (G.2.2 x0 5) 3)).2 ∧
      (G.2.1 x0).1 = 19 ∧
      cN C.1 d m_WordPlaces_rowsOf [vR x0, vR x3, vI (σ (G.2.2 (G.2.2 x0 5) 3) x5)] G σ (fun (r1 : Int) (σ1 : jH) =>
      ((r1 ≤ 0 →
        P 41 [some (vR x0), none, some (vI x2), some (vR x3), some (vI x4), some (vI (w32 (x5 + 1))), none, none, none] [] G σ1 cs ss) ∧
      ((0 : Int) < r1 →
        (G.2.1 x0).1 = 19 ∧
        (G.2.1 (G.2.2 x0 5)).1 = 9 ∧
        cN C.1 d m_Book_has [vR (G.2.2 x0 5), vI (σ (G.2.2 (G.2.2 x0 5) 3) x5)] G σ1 (fun (r2 : Int) (σ2 : jH) =>
        ((r2 = 0 →
          P 41 [some (vR x0), none, some (vI x2), some (vR x3), some (vI x4), some (vI (w32 (x5 + 1))), none, none, none] [] G σ2 cs ss) ∧
        (r2 ≠ 0 →
          x2 ≠ 0 ∧
          (((Int.tmod x4 x2) ≤ 0 →
            P 128 [some (vR x0), none, some (vI x2), some (vR x3), some (vI x4), some (vI x5), some (vI (σ (G.2.2 (G.2.2 x0 5) 3) x5)), some (vI r1), none] [] G σ2 cs ss) ∧
          ((0 : Int) < (Int.tmod x4 x2) →
            (((w32 ((Int.tmod x4 x2) + r1)) ≤ x2 →
              P 128 [some (vR x0), none, some (vI x2), some (vR x3), some (vI x4), some (vI x5), some (vI (σ (G.2.2 (G.2.2 x0 5) 3) x5)), some (vI r1), none] [] G σ2 cs ss) ∧
            (x2 < (w32 ((Int.tmod x4 x2) + r1)) →
              P 128 [some (vR x0), none, some (vI x2), some (vR x3), some (vI (w32 (x4 + (w32 (x2 - (Int.tmod x4 x2)))))), some (vI x5), some (vI (σ (G.2.2 (G.2.2 x0 5) 3) x5)), some (vI r1), none] [] G σ2 cs ss))))))))))))))) :
  jwp C d mc ms RT k_WordPlaces_print j0 q_WordPlaces_print P 43 41 [some (vR x0), none, some (vI x2), some (vR x3), some (vI x4), some (vI x5), none, none, none] [] G σ cs ss := h
set_option maxRecDepth 20000 in
theorem b_WordPlaces_print_128 {C : jC} {d mc ms : Nat} {RT : Int → jG → jH → Prop} {P : jK} {G : jG} {σ : jH} {cs ss : Nat} {x0 : Int} {x2 : Int} {x3 : Int} {x4 : Int} {x5 : Int} {x6 : Int} {x7 : Int} (h :
  (G.2.1 x0).1 = 19 ∧
  x2 ≠ 0 ∧
  (G.2.1 (G.2.2 x0 18)).1 = 1 ∧ (0 : Int) ≤ x6 ∧ x6 < (G.2.1 (G.2.2 x0 18)).2 ∧
  P 41 [some (vR x0), none, some (vI x2), some (vR x3), some (vI (w32 (x4 + x7))), some (vI (w32 (x5 + 1))), none, none, none] [] G (ju σ (G.2.2 x0 18) x6 (w32 (Int.tdiv x4 x2))) cs ss) :
  jwp C d mc ms RT k_WordPlaces_print j0 q_WordPlaces_print P 13 128 [some (vR x0), none, some (vI x2), some (vR x3), some (vI x4), some (vI x5), some (vI x6), some (vI x7), none] [] G σ cs ss := h

def q_WordPlaces_rowsOf : List (Nat × List Bool) := []
set_option maxRecDepth 20000 in
theorem b_WordPlaces_rowsOf_0 {C : jC} {d mc ms : Nat} {RT : Int → jG → jH → Prop} {P : jK} {G : jG} {σ : jH} {cs ss : Nat} {x0 : Int} {x1 : Int} {x2 : Int} (h :
  (G.2.1 x0).1 = 19 ∧
  (G.2.1 (G.2.2 x0 5)).1 = 9 ∧
  cN C.1 d m_Book_has [vR (G.2.2 x0 5), vI x2] G σ (fun (r1 : Int) (σ1 : jH) =>
  ((r1 = 0 →
    RT 0 G σ1) ∧
  (r1 ≠ 0 →
    (G.2.1 x1).1 = 18 ∧
    (G.2.1 (G.2.2 x1 6)).1 = 1 ∧ (0 : Int) ≤ x2 ∧ x2 < (G.2.1 (G.2.2 x1 6)).2 ∧
    (((σ1 (G.2.2 x1 6) x2) ≤ 0 →
      RT 0 G σ1) ∧
    ((0 : Int) < (σ1 (G.2.2 x1 6) x2) →
      (G.2.1 x0).1 = 19 ∧
      (G.2.1 (G.2.2 x0 2)).1 = 10 ∧
      (G.2.1 x0).1 = 19 ∧
      (G.2.1 (G.2.2 x0 5)).1 = 9 ∧
      (G.2.1 (G.2.2 (G.2.2 x0 5) 2)).1 = 12 ∧
      (G.2.1 (G.2.2 (G.2.2 (G.2.2 x0 5) 2) 0)).1 = 4 ∧ (0 : Int) ≤ x2 ∧ x2 < (G.2.1 (G.2.2 (G.2.2 (G.2.2 x0 5) 2) 0)).2 ∧
      (G.2.1 x0).1 = 19 ∧
      (G.2.1 (G.2.2 x0 5)).1 = 9 ∧
      (G.2.1 (G.2.2 (G.2.2 x0 5) 2)).1 = 12 ∧
      (G.2.1 (G.2.2 (G.2.2 (G.2.2 x0 5) 2) 1)).1 = 4 ∧ (0 : Int) ≤ x2 ∧ x2 < (G.2.1 (G.2.2 (G.2.2 (G.2.2 x0 5) 2) 1)).2 ∧
      (G.2.1 (G.2.2 (G.2.2 x0 2) 0)).1 = 15 ∧
      cN C.1 d m_Rules_isStop [vR (G.2.2 (G.2.2 x0 2) 0), vL (σ1 (G.2.2 (G.2.2 (G.2.2 x0 5) 2) 0) x2), vL (σ1 (G.2.2 (G.2.2 (G.2.2 x0 5) 2) 1) x2)] G σ1 (fun (r2 : Int) (σ2 : jH) =>
      ((r2 = 0 →
        (G.2.1 x1).1 = 18 ∧
        (G.2.1 (G.2.2 x1 6)).1 = 1 ∧ (0 : Int) ≤ x2 ∧ x2 < (G.2.1 (G.2.2 x1 6)).2 ∧
        (6 : Int) ≠ 0 ∧
        RT (w32 (1 + (w32 (Int.tdiv (w32 ((w32 ((σ2 (G.2.2 x1 6) x2) + 6)) - 1)) 6)))) G σ2) ∧
      (r2 ≠ 0 →
        RT 0 G σ2))))))))) :
  jwp C d mc ms RT k_WordPlaces_rowsOf j0 q_WordPlaces_rowsOf P 40 0 [some (vR x0), some (vR x1), some (vI x2)] [] G σ cs ss := h

def q_WordPlaces_page : List (Nat × List Bool) := []
set_option maxRecDepth 20000 in
theorem b_WordPlaces_page_0 {C : jC} {d mc ms : Nat} {RT : Int → jG → jH → Prop} {P : jK} {G : jG} {σ : jH} {cs ss : Nat} {x0 : Int} {x1 : Int} (h :
  ((x1 < 0 →
    RT (-1) G σ) ∧
  ((0 : Int) ≤ x1 →
    (((600 : Int) ≤ x1 →
      RT (-1) G σ) ∧
    (x1 < 600 →
      (G.2.1 x0).1 = 19 ∧
      (G.2.1 (G.2.2 x0 18)).1 = 1 ∧ (0 : Int) ≤ x1 ∧ x1 < (G.2.1 (G.2.2 x0 18)).2 ∧
      RT (σ (G.2.2 x0 18) x1) G σ))))) :
  jwp C d mc ms RT k_WordPlaces_page j0 q_WordPlaces_page P 11 0 [some (vR x0), some (vI x1)] [] G σ cs ss := h

def q_WordPlaces_count : List (Nat × List Bool) := []
set_option maxRecDepth 20000 in
theorem b_WordPlaces_count_0 {C : jC} {d mc ms : Nat} {RT : Int → jG → jH → Prop} {P : jK} {G : jG} {σ : jH} {cs ss : Nat} {x0 : Int} {x1 : Int} (h :
  ((x1 < 0 ∨ 8 < x1 →
    RT (-1) G σ) ∧
  (x1 = 0 →
    (G.2.1 x0).1 = 19 ∧
    (G.2.1 (G.2.2 x0 2)).1 = 10 ∧
    cN C.1 d m_Image_lineCount [vR (G.2.2 x0 2), vI 0] G σ (fun (r1 : Int) (σ1 : jH) =>
    (G.2.1 x0).1 = 19 ∧
    (G.2.1 (G.2.2 x0 2)).1 = 10 ∧
    cN C.1 d m_Image_lineCount [vR (G.2.2 x0 2), vI 1] G σ1 (fun (r2 : Int) (σ2 : jH) =>
    RT (w32 (r1 + r2)) G σ2))) ∧
  (x1 = 1 →
    (G.2.1 x0).1 = 19 ∧
    (G.2.1 (G.2.2 x0 2)).1 = 10 ∧
    cN C.1 d m_Image_wordCount [vR (G.2.2 x0 2), vI 0] G σ (fun (r3 : Int) (σ3 : jH) =>
    (G.2.1 x0).1 = 19 ∧
    (G.2.1 (G.2.2 x0 2)).1 = 10 ∧
    cN C.1 d m_Image_wordCount [vR (G.2.2 x0 2), vI 1] G σ3 (fun (r4 : Int) (σ4 : jH) =>
    RT (w32 (r3 + r4)) G σ4))) ∧
  (x1 = 2 →
    (G.2.1 x0).1 = 19 ∧
    (G.2.1 (G.2.2 x0 2)).1 = 10 ∧
    (G.2.1 (G.2.2 (G.2.2 x0 2) 0)).1 = 15 ∧
    RT (σ (G.2.2 (G.2.2 x0 2) 0) 0) G σ) ∧
  (x1 = 3 →
    (G.2.1 x0).1 = 19 ∧
    (G.2.1 (G.2.2 x0 2)).1 = 10 ∧
    (G.2.1 (G.2.2 (G.2.2 x0 2) 0)).1 = 15 ∧
    RT (σ (G.2.2 (G.2.2 x0 2) 0) 5) G σ) ∧
  (x1 = 4 →
    (G.2.1 x0).1 = 19 ∧
    (G.2.1 (G.2.2 x0 2)).1 = 10 ∧
    (G.2.1 (G.2.2 (G.2.2 x0 2) 0)).1 = 15 ∧
    RT (σ (G.2.2 (G.2.2 x0 2) 0) 7) G σ) ∧
  (x1 = 5 →
    (G.2.1 x0).1 = 19 ∧
    RT (σ x0 1) G σ) ∧
  (x1 = 6 →
    (G.2.1 x0).1 = 19 ∧
    (G.2.1 (G.2.2 x0 2)).1 = 10 ∧
    cN C.1 d m_Image_slipCount [vR (G.2.2 x0 2)] G σ (fun (r5 : Int) (σ5 : jH) =>
    RT r5 G σ5)) ∧
  (x1 = 7 →
    (G.2.1 x0).1 = 19 ∧
    (G.2.1 (G.2.2 x0 19)).1 = 16 ∧
    cN C.1 d m_Slots_filled [vR (G.2.2 x0 19)] G σ (fun (r6 : Int) (σ6 : jH) =>
    RT r6 G σ6)) ∧
  (x1 = 8 →
    (G.2.1 x0).1 = 19 ∧
    (G.2.1 (G.2.2 x0 2)).1 = 10 ∧
    (G.2.1 (G.2.2 (G.2.2 x0 2) 0)).1 = 15 ∧
    RT (σ (G.2.2 (G.2.2 x0 2) 0) 3) G σ) ∧ True)) :
  jwp C d mc ms RT k_WordPlaces_count j0 q_WordPlaces_count P 12 0 [some (vR x0), some (vI x1)] [] G σ cs ss := h

def q_WordPlaces_keep : List (Nat × List Bool) := []
set_option maxRecDepth 20000 in
theorem b_WordPlaces_keep_0 {C : jC} {d mc ms : Nat} {RT : Int → jG → jH → Prop} {P : jK} {G : jG} {σ : jH} {cs ss : Nat} {x0 : Int} {x1 : Int} (h :
  ((x1 < 0 →
    RT (-2) G σ) ∧
  ((0 : Int) ≤ x1 →
    ((x1 < 3 →
      (G.2.1 x0).1 = 19 ∧
      (G.2.1 (G.2.2 x0 3)).1 = 5 ∧ (0 : Int) ≤ x1 ∧ x1 < (G.2.1 (G.2.2 x0 3)).2 ∧
      (G.2.1 x0).1 = 19 ∧
      (G.2.1 (G.2.2 (G.2.2 x0 3) x1)).1 = 10 ∧
      cN C.1 d m_Image_copyFrom [vR (G.2.2 (G.2.2 x0 3) x1), vR (G.2.2 x0 2)] G σ (fun (r1 : Int) (σ1 : jH) =>
      (G.2.1 x0).1 = 19 ∧
      (G.2.1 (G.2.2 x0 4)).1 = 3 ∧ (0 : Int) ≤ x1 ∧ x1 < (G.2.1 (G.2.2 x0 4)).2 ∧
      ((1 : Int) = 0 ∨ (1 : Int) = 1) ∧
      RT 0 G (ju σ1 (G.2.2 x0 4) x1 1))) ∧
    ((3 : Int) ≤ x1 →
      RT (-2) G σ))))) :
  jwp C d mc ms RT k_WordPlaces_keep j0 q_WordPlaces_keep P 19 0 [some (vR x0), some (vI x1)] [] G σ cs ss := h

def q_WordPlaces_back : List (Nat × List Bool) := []
set_option maxRecDepth 20000 in
theorem b_WordPlaces_back_0 {C : jC} {d mc ms : Nat} {RT : Int → jG → jH → Prop} {P : jK} {G : jG} {σ : jH} {cs ss : Nat} {x0 : Int} {x1 : Int} (h :
  ((x1 < 0 →
    RT (-2) G σ) ∧
  ((0 : Int) ≤ x1 →
    ((x1 < 3 →
      (G.2.1 x0).1 = 19 ∧
      (G.2.1 (G.2.2 x0 4)).1 = 3 ∧ (0 : Int) ≤ x1 ∧ x1 < (G.2.1 (G.2.2 x0 4)).2 ∧
      (((σ (G.2.2 x0 4) x1) ≠ 0 →
        (G.2.1 x0).1 = 19 ∧
        (G.2.1 x0).1 = 19 ∧
        (G.2.1 (G.2.2 x0 3)).1 = 5 ∧ (0 : Int) ≤ x1 ∧ x1 < (G.2.1 (G.2.2 x0 3)).2 ∧
        (G.2.1 (G.2.2 x0 2)).1 = 10 ∧
        cN C.1 d m_Image_copyFrom [vR (G.2.2 x0 2), vR (G.2.2 (G.2.2 x0 3) x1)] G σ (fun (r1 : Int) (σ1 : jH) =>
        (G.2.1 x0).1 = 19 ∧
        cN C.1 d m_WordPlaces_forgetBook [vR x0] G σ1 (fun (r2 : Int) (σ2 : jH) =>
        RT 0 G σ2))) ∧
      ((σ (G.2.2 x0 4) x1) = 0 →
        RT (-6) G σ))) ∧
    ((3 : Int) ≤ x1 →
      RT (-2) G σ))))) :
  jwp C d mc ms RT k_WordPlaces_back j0 q_WordPlaces_back P 21 0 [some (vR x0), some (vI x1)] [] G σ cs ss := h

def q_WordPlaces_row : List (Nat × List Bool) := []
set_option maxRecDepth 20000 in
theorem b_WordPlaces_row_0 {C : jC} {d mc ms : Nat} {RT : Int → jG → jH → Prop} {P : jK} {G : jG} {σ : jH} {cs ss : Nat} {x0 : Int} {x1 : Int} {x2 : Int} {x3 : Int} (h :
  (G.2.1 x0).1 = 19 ∧
  (G.2.1 (G.2.2 x0 19)).1 = 16 ∧
  cN C.1 d m_Slots_isSlot [vR (G.2.2 x0 19), vI x1] G σ (fun (r1 : Int) (σ1 : jH) =>
  ((r1 = 0 →
    RT (-2) G σ1) ∧
  (r1 ≠ 0 →
    ((x2 < 0 →
      RT (-2) G σ1) ∧
    ((0 : Int) ≤ x2 →
      (((4 : Int) ≤ x2 →
        RT (-2) G σ1) ∧
      (x2 < 4 →
        ((x3 ≤ 60 →
          (((0 : Int) ≤ x3 →
            (G.2.1 x0).1 = 19 ∧
            (G.2.1 (G.2.2 x0 19)).1 = 16 ∧
            cN C.1 d m_Slots_make [vR (G.2.2 x0 19), vI x1, vI x2, vI x3] G σ1 (fun (r2 : Int) (σ2 : jH) =>
            RT 0 G σ2)) ∧
          (x3 < 0 →
            RT (-3) G σ1))) ∧
        ((60 : Int) < x3 →
          RT (-2) G σ1)))))))))) :
  jwp C d mc ms RT k_WordPlaces_row j0 q_WordPlaces_row P 23 0 [some (vR x0), some (vI x1), some (vI x2), some (vI x3)] [] G σ cs ss := h

def q_Arrays_fill4 : List (Nat × List Bool) := [(10, [true, false, true, true, false, true])]
set_option maxRecDepth 20000 in
theorem b_Arrays_fill4_0 {C : jC} {d mc ms : Nat} {RT : Int → jG → jH → Prop} {P : jK} {G : jG} {σ : jH} {cs ss : Nat} {x0 : Int} {x1 : Int} {x2 : Int} {x3 : Int} (h :
  (1 ≤ (G.2.1 x0).1 ∧ (G.2.1 x0).1 ≤ 7) ∧
  cN C.1 d m_Arrays_rangeCheck [vI (G.2.1 x0).2, vI x1, vI x2] G σ (fun (r1 : Int) (σ1 : jH) =>
  P 10 [some (vR x0), none, some (vI x2), some (vL x3), none, some (vI x1)] [] G σ1 cs ss)) :
  jwp C d mc ms RT k_Arrays_fill4 j0 q_Arrays_fill4 P 7 0 [some (vR x0), some (vI x1), some (vI x2), some (vL x3), none, none] [] G σ cs ss := h
set_option maxRecDepth 20000 in
theorem b_Arrays_fill4_10 {C : jC} {d mc ms : Nat} {RT : Int → jG → jH → Prop} {P : jK} {G : jG} {σ : jH} {cs ss : Nat} {x0 : Int} {x2 : Int} {x3 : Int} {x5 : Int} (h :
  ((x2 ≤ x5 →
    RT 0 G σ) ∧
  (x5 < x2 →
    (G.2.1 x0).1 = 4 ∧ (0 : Int) ≤ x5 ∧ x5 < (G.2.1 x0).2 ∧
    P 10 [some (vR x0), none, some (vI x2), some (vL x3), none, some (vI (w32 (x5 + 1)))] [] G (ju σ x0 x5 x3) cs ss))) :
  jwp C d mc ms RT k_Arrays_fill4 j0 q_Arrays_fill4 P 9 10 [some (vR x0), none, some (vI x2), some (vL x3), none, some (vI x5)] [] G σ cs ss := h

def q_Arrays_rangeCheck : List (Nat × List Bool) := []
set_option maxRecDepth 20000 in
theorem b_Arrays_rangeCheck_0 {C : jC} {d mc ms : Nat} {RT : Int → jG → jH → Prop} {P : jK} {G : jG} {σ : jH} {cs ss : Nat} {x0 : Int} {x1 : Int} {x2 : Int} (h :
  ((x1 ≤ x2 →
    (((0 : Int) ≤ x1 →
      ((x2 ≤ x0 →
        RT 0 G σ) ∧
      (x0 < x2 →
        False))) ∧
    (x1 < 0 →
      False))) ∧
  (x2 < x1 →
    False))) :
  jwp C d mc ms RT k_Arrays_rangeCheck j0 q_Arrays_rangeCheck P 9 0 [some (vI x0), some (vI x1), some (vI x2)] [] G σ cs ss := h

def q_WordPlaces_write : List (Nat × List Bool) := []
set_option maxRecDepth 20000 in
theorem b_WordPlaces_write_0 {C : jC} {d mc ms : Nat} {RT : Int → jG → jH → Prop} {P : jK} {G : jG} {σ : jH} {cs ss : Nat} {x0 : Int} {x1 : Int} {x2 : Int} {x3 : Int} (h :
  (G.2.1 x0).1 = 19 ∧
  (G.2.1 (G.2.2 x0 19)).1 = 16 ∧
  cN C.1 d m_Slots_isSlot [vR (G.2.2 x0 19), vI x1] G σ (fun (r1 : Int) (σ1 : jH) =>
  ((r1 ≠ 0 →
    (G.2.1 x0).1 = 19 ∧
    (G.2.1 (G.2.2 x0 19)).1 = 16 ∧
    cN C.1 d m_Slots_isEmpty [vR (G.2.2 x0 19), vI x1] G σ1 (fun (r2 : Int) (σ2 : jH) =>
    ((r2 = 0 →
      (G.2.1 x0).1 = 19 ∧
      (G.2.1 (G.2.2 x0 19)).1 = 16 ∧
      cN C.1 d m_Slots_put [vR (G.2.2 x0 19), vI x1, vI x2, vL x3] G σ2 (fun (r3 : Int) (σ3 : jH) =>
      ((r3 = 0 →
        RT (-7) G σ3) ∧
      (r3 ≠ 0 →
        RT 0 G σ3)))) ∧
    (r2 ≠ 0 →
      RT (-6) G σ2)))) ∧
  (r1 = 0 →
    RT (-2) G σ1)))) :
  jwp C d mc ms RT k_WordPlaces_write j0 q_WordPlaces_write P 20 0 [some (vR x0), some (vI x1), some (vI x2), some (vL x3), none] [] G σ cs ss := h

def q_WordPlaces_paste : List (Nat × List Bool) := []
set_option maxRecDepth 20000 in
theorem b_WordPlaces_paste_0 {C : jC} {d mc ms : Nat} {RT : Int → jG → jH → Prop} {P : jK} {G : jG} {σ : jH} {cs ss : Nat} {x0 : Int} {x1 : Int} {x2 : Int} {x3 : Int} {x4 : Int} {x5 : Int} (h :
  (G.2.1 x0).1 = 19 ∧
  (G.2.1 (G.2.2 x0 19)).1 = 16 ∧
  cN C.1 d m_Slots_isSlot [vR (G.2.2 x0 19), vI x1] G σ (fun (r1 : Int) (σ1 : jH) =>
  ((r1 = 0 →
    RT (-2) G σ1) ∧
  (r1 ≠ 0 →
    (G.2.1 x0).1 = 19 ∧
    (G.2.1 (G.2.2 x0 19)).1 = 16 ∧
    cN C.1 d m_Slots_isSlot [vR (G.2.2 x0 19), vI x3] G σ1 (fun (r2 : Int) (σ2 : jH) =>
    ((r2 ≠ 0 →
      (G.2.1 x0).1 = 19 ∧
      (G.2.1 (G.2.2 x0 19)).1 = 16 ∧
      cN C.1 d m_Slots_isEmpty [vR (G.2.2 x0 19), vI x1] G σ2 (fun (r3 : Int) (σ3 : jH) =>
      ((r3 ≠ 0 →
        RT (-6) G σ3) ∧
      (r3 = 0 →
        (G.2.1 x0).1 = 19 ∧
        (G.2.1 (G.2.2 x0 19)).1 = 16 ∧
        cN C.1 d m_Slots_isEmpty [vR (G.2.2 x0 19), vI x3] G σ3 (fun (r4 : Int) (σ4 : jH) =>
        ((r4 = 0 →
          (G.2.1 x0).1 = 19 ∧
          (G.2.1 (G.2.2 x0 19)).1 = 16 ∧
          cN C.1 d m_Slots_widthOf [vR (G.2.2 x0 19), vI x1] G σ4 (fun (r5 : Int) (σ5 : jH) =>
          (G.2.1 x0).1 = 19 ∧
          (G.2.1 (G.2.2 x0 19)).1 = 16 ∧
          cN C.1 d m_Slots_widthOf [vR (G.2.2 x0 19), vI x3] G σ5 (fun (r6 : Int) (σ6 : jH) =>
          ((r5 = r6 →
            (G.2.1 x0).1 = 19 ∧
            (G.2.1 (G.2.2 x0 19)).1 = 16 ∧
            cN C.1 d m_Slots_move [vR (G.2.2 x0 19), vI x1, vI x2, vI x3, vI x4, vI x5] G σ6 (fun (r7 : Int) (σ7 : jH) =>
            ((r7 = 0 →
              RT (-7) G σ7) ∧
            (r7 ≠ 0 →
              RT 0 G σ7)))) ∧
          (r5 ≠ r6 →
            RT (-8) G σ6))))) ∧
        (r4 ≠ 0 →
          RT (-6) G σ4))))))) ∧
    (r2 = 0 →
      RT (-2) G σ2))))))) :
  jwp C d mc ms RT k_WordPlaces_paste j0 q_WordPlaces_paste P 41 0 [some (vR x0), some (vI x1), some (vI x2), some (vI x3), some (vI x4), some (vI x5)] [] G σ cs ss := h
