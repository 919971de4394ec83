/-! Blocks: what must hold ahead of each piece of a method -/
def q_Model_init : List (Nat × List Bool) := [(13, [true]), (21, [true]), (28, [true]), (35, [true]), (44, [true]), (53, [true]), (62, [true]), (71, [true]), (80, [true]), (89, [true]), (241, [true]), (249, [true]), (258, [true]), (265, [true]), (270, [true]), (279, [true]), (287, [true]), (295, [true]), (308, [true]), (316, [true]), (325, [true]), (333, [true]), (341, [true]), (349, [true]), (358, [true]), (366, [true]), (374, [true]), (383, [true]), (392, [true]), (401, [true]), (424, [true]), (431, [true]), (440, [true]), (448, [true])]
set_option maxRecDepth 20000 in
theorem b_Model_init_0 {C : jC} {d mc ms : Nat} {RT : Int → jG → jH → Prop} {P : jK} {G : jG} {σ : jH} {cs ss : Nat} {x0 : Int} (h :
  1 ≤ d ∧ 0 < x0 ∧
  (0 : Int) ≤ 32677 ∧ (32677 : Int) < 60000000 ∧ cs + 1 ≤ mc ∧ ss + Int.toNat 32677 ≤ ms ∧
  ((jnewG G 1 32677).2.1 x0).1 = 20 ∧
  P 13 [some (vR x0)] [] (((jnewG G 1 32677).1, (jnewG G 1 32677).2.1, ju (jnewG G 1 32677).2.2 x0 1 ((G.1 + 1 : Nat) : Int)) : jG) (jnewH G σ) (cs + 1) (ss + Int.toNat 32677)) :
  jwp C d mc ms RT k_Model_init j0 q_Model_init P 6 0 [some (vR x0)] [] G σ cs ss := h
set_option maxRecDepth 20000 in
theorem b_Model_init_13 {C : jC} {d mc ms : Nat} {RT : Int → jG → jH → Prop} {P : jK} {G : jG} {σ : jH} {cs ss : Nat} {x0 : Int} (h :
  (0 : Int) ≤ 98031 ∧ (98031 : Int) < 60000000 ∧ cs + 1 ≤ mc ∧ ss + Int.toNat 98031 ≤ ms ∧
  ((jnewG G 1 98031).2.1 x0).1 = 20 ∧
  P 21 [some (vR x0)] [] (((jnewG G 1 98031).1, (jnewG G 1 98031).2.1, ju (jnewG G 1 98031).2.2 x0 2 ((G.1 + 1 : Nat) : Int)) : jG) (jnewH G σ) (cs + 1) (ss + Int.toNat 98031)) :
  jwp C d mc ms RT k_Model_init j0 q_Model_init P 4 13 [some (vR x0)] [] G σ cs ss := h
set_option maxRecDepth 20000 in
theorem b_Model_init_21 {C : jC} {d mc ms : Nat} {RT : Int → jG → jH → Prop} {P : jK} {G : jG} {σ : jH} {cs ss : Nat} {x0 : Int} (h :
  (0 : Int) ≤ 3 ∧ (3 : Int) < 60000000 ∧ cs + 1 ≤ mc ∧ ss + Int.toNat 3 ≤ ms ∧
  ((jnewG G 3 3).2.1 x0).1 = 20 ∧
  P 28 [some (vR x0)] [] (((jnewG G 3 3).1, (jnewG G 3 3).2.1, ju (jnewG G 3 3).2.2 x0 3 ((G.1 + 1 : Nat) : Int)) : jG) (jnewH G σ) (cs + 1) (ss + Int.toNat 3)) :
  jwp C d mc ms RT k_Model_init j0 q_Model_init P 4 21 [some (vR x0)] [] G σ cs ss := h
set_option maxRecDepth 20000 in
theorem b_Model_init_28 {C : jC} {d mc ms : Nat} {RT : Int → jG → jH → Prop} {P : jK} {G : jG} {σ : jH} {cs ss : Nat} {x0 : Int} (h :
  (0 : Int) ≤ 2 ∧ (2 : Int) < 60000000 ∧ cs + 1 ≤ mc ∧ ss + Int.toNat 2 ≤ ms ∧
  ((jnewG G 1 2).2.1 x0).1 = 20 ∧
  P 35 [some (vR x0)] [] (((jnewG G 1 2).1, (jnewG G 1 2).2.1, ju (jnewG G 1 2).2.2 x0 4 ((G.1 + 1 : Nat) : Int)) : jG) (jnewH G σ) (cs + 1) (ss + Int.toNat 2)) :
  jwp C d mc ms RT k_Model_init j0 q_Model_init P 4 28 [some (vR x0)] [] G σ cs ss := h
set_option maxRecDepth 20000 in
theorem b_Model_init_35 {C : jC} {d mc ms : Nat} {RT : Int → jG → jH → Prop} {P : jK} {G : jG} {σ : jH} {cs ss : Nat} {x0 : Int} (h :
  (0 : Int) ≤ 680 ∧ (680 : Int) < 60000000 ∧ cs + 1 ≤ mc ∧ ss + Int.toNat 680 ≤ ms ∧
  ((jnewG G 1 680).2.1 x0).1 = 20 ∧
  P 44 [some (vR x0)] [] (((jnewG G 1 680).1, (jnewG G 1 680).2.1, ju (jnewG G 1 680).2.2 x0 5 ((G.1 + 1 : Nat) : Int)) : jG) (jnewH G σ) (cs + 1) (ss + Int.toNat 680)) :
  jwp C d mc ms RT k_Model_init j0 q_Model_init P 4 35 [some (vR x0)] [] G σ cs ss := h
set_option maxRecDepth 20000 in
theorem b_Model_init_44 {C : jC} {d mc ms : Nat} {RT : Int → jG → jH → Prop} {P : jK} {G : jG} {σ : jH} {cs ss : Nat} {x0 : Int} (h :
  (0 : Int) ≤ 680 ∧ (680 : Int) < 60000000 ∧ cs + 1 ≤ mc ∧ ss + Int.toNat 680 ≤ ms ∧
  ((jnewG G 1 680).2.1 x0).1 = 20 ∧
  P 53 [some (vR x0)] [] (((jnewG G 1 680).1, (jnewG G 1 680).2.1, ju (jnewG G 1 680).2.2 x0 6 ((G.1 + 1 : Nat) : Int)) : jG) (jnewH G σ) (cs + 1) (ss + Int.toNat 680)) :
  jwp C d mc ms RT k_Model_init j0 q_Model_init P 4 44 [some (vR x0)] [] G σ cs ss := h
set_option maxRecDepth 20000 in
theorem b_Model_init_53 {C : jC} {d mc ms : Nat} {RT : Int → jG → jH → Prop} {P : jK} {G : jG} {σ : jH} {cs ss : Nat} {x0 : Int} (h :
  (0 : Int) ≤ 680 ∧ (680 : Int) < 60000000 ∧ cs + 1 ≤ mc ∧ ss + Int.toNat 680 ≤ ms ∧
  ((jnewG G 1 680).2.1 x0).1 = 20 ∧
  P 62 [some (vR x0)] [] (((jnewG G 1 680).1, (jnewG G 1 680).2.1, ju (jnewG G 1 680).2.2 x0 7 ((G.1 + 1 : Nat) : Int)) : jG) (jnewH G σ) (cs + 1) (ss + Int.toNat 680)) :
  jwp C d mc ms RT k_Model_init j0 q_Model_init P 4 53 [some (vR x0)] [] G σ cs ss := h
set_option maxRecDepth 20000 in
theorem b_Model_init_62 {C : jC} {d mc ms : Nat} {RT : Int → jG → jH → Prop} {P : jK} {G : jG} {σ : jH} {cs ss : Nat} {x0 : Int} (h :
  (0 : Int) ≤ 14280 ∧ (14280 : Int) < 60000000 ∧ cs + 1 ≤ mc ∧ ss + Int.toNat 14280 ≤ ms ∧
  ((jnewG G 1 14280).2.1 x0).1 = 20 ∧
  P 71 [some (vR x0)] [] (((jnewG G 1 14280).1, (jnewG G 1 14280).2.1, ju (jnewG G 1 14280).2.2 x0 8 ((G.1 + 1 : Nat) : Int)) : jG) (jnewH G σ) (cs + 1) (ss + Int.toNat 14280)) :
  jwp C d mc ms RT k_Model_init j0 q_Model_init P 4 62 [some (vR x0)] [] G σ cs ss := h
set_option maxRecDepth 20000 in
theorem b_Model_init_71 {C : jC} {d mc ms : Nat} {RT : Int → jG → jH → Prop} {P : jK} {G : jG} {σ : jH} {cs ss : Nat} {x0 : Int} (h :
  (0 : Int) ≤ 14280 ∧ (14280 : Int) < 60000000 ∧ cs + 1 ≤ mc ∧ ss + Int.toNat 14280 ≤ ms ∧
  ((jnewG G 1 14280).2.1 x0).1 = 20 ∧
  P 80 [some (vR x0)] [] (((jnewG G 1 14280).1, (jnewG G 1 14280).2.1, ju (jnewG G 1 14280).2.2 x0 9 ((G.1 + 1 : Nat) : Int)) : jG) (jnewH G σ) (cs + 1) (ss + Int.toNat 14280)) :
  jwp C d mc ms RT k_Model_init j0 q_Model_init P 4 71 [some (vR x0)] [] G σ cs ss := h
set_option maxRecDepth 20000 in
theorem b_Model_init_80 {C : jC} {d mc ms : Nat} {RT : Int → jG → jH → Prop} {P : jK} {G : jG} {σ : jH} {cs ss : Nat} {x0 : Int} (h :
  (0 : Int) ≤ 680 ∧ (680 : Int) < 60000000 ∧ cs + 1 ≤ mc ∧ ss + Int.toNat 680 ≤ ms ∧
  ((jnewG G 1 680).2.1 x0).1 = 20 ∧
  P 89 [some (vR x0)] [] (((jnewG G 1 680).1, (jnewG G 1 680).2.1, ju (jnewG G 1 680).2.2 x0 11 ((G.1 + 1 : Nat) : Int)) : jG) (jnewH G σ) (cs + 1) (ss + Int.toNat 680)) :
  jwp C d mc ms RT k_Model_init j0 q_Model_init P 4 80 [some (vR x0)] [] G σ cs ss := h
set_option maxRecDepth 20000 in
theorem b_Model_init_89 {C : jC} {d mc ms : Nat} {RT : Int → jG → jH → Prop} {P : jK} {G : jG} {σ : jH} {cs ss : Nat} {x0 : Int} (h :
  (0 : Int) ≤ 26 ∧ (26 : Int) < 60000000 ∧ cs + 1 ≤ mc ∧ ss + Int.toNat 26 ≤ ms ∧
  ((jnewG G 1 26).2.1 ((G.1 + 1 : Nat) : Int)).1 = 1 ∧ (0 : Int) ≤ 0 ∧ 0 < ((jnewG G 1 26).2.1 ((G.1 + 1 : Nat) : Int)).2 ∧
  ((jnewG G 1 26).2.1 ((G.1 + 1 : Nat) : Int)).1 = 1 ∧ (0 : Int) ≤ 1 ∧ 1 < ((jnewG G 1 26).2.1 ((G.1 + 1 : Nat) : Int)).2 ∧
  ((jnewG G 1 26).2.1 ((G.1 + 1 : Nat) : Int)).1 = 1 ∧ (0 : Int) ≤ 2 ∧ 2 < ((jnewG G 1 26).2.1 ((G.1 + 1 : Nat) : Int)).2 ∧
  ((jnewG G 1 26).2.1 ((G.1 + 1 : Nat) : Int)).1 = 1 ∧ (0 : Int) ≤ 3 ∧ 3 < ((jnewG G 1 26).2.1 ((G.1 + 1 : Nat) : Int)).2 ∧
  ((jnewG G 1 26).2.1 ((G.1 + 1 : Nat) : Int)).1 = 1 ∧ (0 : Int) ≤ 4 ∧ 4 < ((jnewG G 1 26).2.1 ((G.1 + 1 : Nat) : Int)).2 ∧
  ((jnewG G 1 26).2.1 ((G.1 + 1 : Nat) : Int)).1 = 1 ∧ (0 : Int) ≤ 5 ∧ 5 < ((jnewG G 1 26).2.1 ((G.1 + 1 : Nat) : Int)).2 ∧
  ((jnewG G 1 26).2.1 ((G.1 + 1 : Nat) : Int)).1 = 1 ∧ (0 : Int) ≤ 6 ∧ 6 < ((jnewG G 1 26).2.1 ((G.1 + 1 : Nat) : Int)).2 ∧
  ((jnewG G 1 26).2.1 ((G.1 + 1 : Nat) : Int)).1 = 1 ∧ (0 : Int) ≤ 7 ∧ 7 < ((jnewG G 1 26).2.1 ((G.1 + 1 : Nat) : Int)).2 ∧
  ((jnewG G 1 26).2.1 ((G.1 + 1 : Nat) : Int)).1 = 1 ∧ (0 : Int) ≤ 8 ∧ 8 < ((jnewG G 1 26).2.1 ((G.1 + 1 : Nat) : Int)).2 ∧
  ((jnewG G 1 26).2.1 ((G.1 + 1 : Nat) : Int)).1 = 1 ∧ (0 : Int) ≤ 9 ∧ 9 < ((jnewG G 1 26).2.1 ((G.1 + 1 : Nat) : Int)).2 ∧
  ((jnewG G 1 26).2.1 ((G.1 + 1 : Nat) : Int)).1 = 1 ∧ (0 : Int) ≤ 10 ∧ 10 < ((jnewG G 1 26).2.1 ((G.1 + 1 : Nat) : Int)).2 ∧
  ((jnewG G 1 26).2.1 ((G.1 + 1 : Nat) : Int)).1 = 1 ∧ (0 : Int) ≤ 11 ∧ 11 < ((jnewG G 1 26).2.1 ((G.1 + 1 : Nat) : Int)).2 ∧
  ((jnewG G 1 26).2.1 ((G.1 + 1 : Nat) : Int)).1 = 1 ∧ (0 : Int) ≤ 12 ∧ 12 < ((jnewG G 1 26).2.1 ((G.1 + 1 : Nat) : Int)).2 ∧
  ((jnewG G 1 26).2.1 ((G.1 + 1 : Nat) : Int)).1 = 1 ∧ (0 : Int) ≤ 13 ∧ 13 < ((jnewG G 1 26).2.1 ((G.1 + 1 : Nat) : Int)).2 ∧
  ((jnewG G 1 26).2.1 ((G.1 + 1 : Nat) : Int)).1 = 1 ∧ (0 : Int) ≤ 14 ∧ 14 < ((jnewG G 1 26).2.1 ((G.1 + 1 : Nat) : Int)).2 ∧
  ((jnewG G 1 26).2.1 ((G.1 + 1 : Nat) : Int)).1 = 1 ∧ (0 : Int) ≤ 15 ∧ 15 < ((jnewG G 1 26).2.1 ((G.1 + 1 : Nat) : Int)).2 ∧
  ((jnewG G 1 26).2.1 ((G.1 + 1 : Nat) : Int)).1 = 1 ∧ (0 : Int) ≤ 16 ∧ 16 < ((jnewG G 1 26).2.1 ((G.1 + 1 : Nat) : Int)).2 ∧
  ((jnewG G 1 26).2.1 ((G.1 + 1 : Nat) : Int)).1 = 1 ∧ (0 : Int) ≤ 17 ∧ 17 < ((jnewG G 1 26).2.1 ((G.1 + 1 : Nat) : Int)).2 ∧
  ((jnewG G 1 26).2.1 ((G.1 + 1 : Nat) : Int)).1 = 1 ∧ (0 : Int) ≤ 18 ∧ 18 < ((jnewG G 1 26).2.1 ((G.1 + 1 : Nat) : Int)).2 ∧
  ((jnewG G 1 26).2.1 ((G.1 + 1 : Nat) : Int)).1 = 1 ∧ (0 : Int) ≤ 19 ∧ 19 < ((jnewG G 1 26).2.1 ((G.1 + 1 : Nat) : Int)).2 ∧
  ((jnewG G 1 26).2.1 ((G.1 + 1 : Nat) : Int)).1 = 1 ∧ (0 : Int) ≤ 20 ∧ 20 < ((jnewG G 1 26).2.1 ((G.1 + 1 : Nat) : Int)).2 ∧
  ((jnewG G 1 26).2.1 ((G.1 + 1 : Nat) : Int)).1 = 1 ∧ (0 : Int) ≤ 21 ∧ 21 < ((jnewG G 1 26).2.1 ((G.1 + 1 : Nat) : Int)).2 ∧
  ((jnewG G 1 26).2.1 ((G.1 + 1 : Nat) : Int)).1 = 1 ∧ (0 : Int) ≤ 22 ∧ 22 < ((jnewG G 1 26).2.1 ((G.1 + 1 : Nat) : Int)).2 ∧
  ((jnewG G 1 26).2.1 ((G.1 + 1 : Nat) : Int)).1 = 1 ∧ (0 : Int) ≤ 23 ∧ 23 < ((jnewG G 1 26).2.1 ((G.1 + 1 : Nat) : Int)).2 ∧
  ((jnewG G 1 26).2.1 ((G.1 + 1 : Nat) : Int)).1 = 1 ∧ (0 : Int) ≤ 24 ∧ 24 < ((jnewG G 1 26).2.1 ((G.1 + 1 : Nat) : Int)).2 ∧
  ((jnewG G 1 26).2.1 ((G.1 + 1 : Nat) : Int)).1 = 1 ∧ (0 : Int) ≤ 25 ∧ 25 < ((jnewG G 1 26).2.1 ((G.1 + 1 : Nat) : Int)).2 ∧
  ((jnewG G 1 26).2.1 x0).1 = 20 ∧
  P 241 [some (vR x0)] [] (((jnewG G 1 26).1, (jnewG G 1 26).2.1, ju (jnewG G 1 26).2.2 x0 12 ((G.1 + 1 : Nat) : Int)) : jG) (ju (ju (ju (ju (ju (ju (ju (ju (ju (ju (ju (ju (ju (ju (ju (ju (ju (ju (ju (ju (ju (ju (ju (ju (ju (ju (jnewH G σ) ((G.1 + 1 : Nat) : Int) 0 0) ((G.1 + 1 : Nat) : Int) 1 1) ((G.1 + 1 : Nat) : Int) 2 2) ((G.1 + 1 : Nat) : Int) 3 3) ((G.1 + 1 : Nat) : Int) 4 4) ((G.1 + 1 : Nat) : Int) 5 5) ((G.1 + 1 : Nat) : Int) 6 6) ((G.1 + 1 : Nat) : Int) 7 7) ((G.1 + 1 : Nat) : Int) 8 8) ((G.1 + 1 : Nat) : Int) 9 9) ((G.1 + 1 : Nat) : Int) 10 10) ((G.1 + 1 : Nat) : Int) 11 11) ((G.1 + 1 : Nat) : Int) 12 12) ((G.1 + 1 : Nat) : Int) 13 13) ((G.1 + 1 : Nat) : Int) 14 14) ((G.1 + 1 : Nat) : Int) 15 15) ((G.1 + 1 : Nat) : Int) 16 16) ((G.1 + 1 : Nat) : Int) 17 17) ((G.1 + 1 : Nat) : Int) 18 18) ((G.1 + 1 : Nat) : Int) 19 19) ((G.1 + 1 : Nat) : Int) 20 20) ((G.1 + 1 : Nat) : Int) 21 21) ((G.1 + 1 : Nat) : Int) 22 22) ((G.1 + 1 : Nat) : Int) 23 23) ((G.1 + 1 : Nat) : Int) 24 24) ((G.1 + 1 : Nat) : Int) 25 25) (cs + 1) (ss + Int.toNat 26)) :
  jwp C d mc ms RT k_Model_init j0 q_Model_init P 108 89 [some (vR x0)] [] G σ cs ss := h
set_option maxRecDepth 20000 in
theorem b_Model_init_241 {C : jC} {d mc ms : Nat} {RT : Int → jG → jH → Prop} {P : jK} {G : jG} {σ : jH} {cs ss : Nat} {x0 : Int} (h :
  (0 : Int) ≤ 21 ∧ (21 : Int) < 60000000 ∧ cs + 1 ≤ mc ∧ ss + Int.toNat 21 ≤ ms ∧
  ((jnewG G 1 21).2.1 x0).1 = 20 ∧
  P 249 [some (vR x0)] [] (((jnewG G 1 21).1, (jnewG G 1 21).2.1, ju (jnewG G 1 21).2.2 x0 13 ((G.1 + 1 : Nat) : Int)) : jG) (jnewH G σ) (cs + 1) (ss + Int.toNat 21)) :
  jwp C d mc ms RT k_Model_init j0 q_Model_init P 4 241 [some (vR x0)] [] G σ cs ss := h
set_option maxRecDepth 20000 in
theorem b_Model_init_249 {C : jC} {d mc ms : Nat} {RT : Int → jG → jH → Prop} {P : jK} {G : jG} {σ : jH} {cs ss : Nat} {x0 : Int} (h :
  (0 : Int) ≤ 400 ∧ (400 : Int) < 60000000 ∧ cs + 1 ≤ mc ∧ ss + Int.toNat 400 ≤ ms ∧
  ((jnewG G 2 400).2.1 x0).1 = 20 ∧
  P 258 [some (vR x0)] [] (((jnewG G 2 400).1, (jnewG G 2 400).2.1, ju (jnewG G 2 400).2.2 x0 14 ((G.1 + 1 : Nat) : Int)) : jG) (jnewH G σ) (cs + 1) (ss + Int.toNat 400)) :
  jwp C d mc ms RT k_Model_init j0 q_Model_init P 4 249 [some (vR x0)] [] G σ cs ss := h
set_option maxRecDepth 20000 in
theorem b_Model_init_258 {C : jC} {d mc ms : Nat} {RT : Int → jG → jH → Prop} {P : jK} {G : jG} {σ : jH} {cs ss : Nat} {x0 : Int} (h :
  (0 : Int) ≤ 5 ∧ (5 : Int) < 60000000 ∧ cs + 1 ≤ mc ∧ ss + Int.toNat 5 ≤ ms ∧
  ((jnewG G 1 5).2.1 x0).1 = 20 ∧
  P 265 [some (vR x0)] [] (((jnewG G 1 5).1, (jnewG G 1 5).2.1, ju (jnewG G 1 5).2.2 x0 16 ((G.1 + 1 : Nat) : Int)) : jG) (jnewH G σ) (cs + 1) (ss + Int.toNat 5)) :
  jwp C d mc ms RT k_Model_init j0 q_Model_init P 4 258 [some (vR x0)] [] G σ cs ss := h
set_option maxRecDepth 20000 in
theorem b_Model_init_265 {C : jC} {d mc ms : Nat} {RT : Int → jG → jH → Prop} {P : jK} {G : jG} {σ : jH} {cs ss : Nat} {x0 : Int} (h :
  (G.2.1 x0).1 = 20 ∧
  P 270 [some (vR x0)] [] G (ju σ x0 23 (-1)) cs ss) :
  jwp C d mc ms RT k_Model_init j0 q_Model_init P 3 265 [some (vR x0)] [] G σ cs ss := h
set_option maxRecDepth 20000 in
theorem b_Model_init_270 {C : jC} {d mc ms : Nat} {RT : Int → jG → jH → Prop} {P : jK} {G : jG} {σ : jH} {cs ss : Nat} {x0 : Int} (h :
  (0 : Int) ≤ 2597 ∧ (2597 : Int) < 60000000 ∧ cs + 1 ≤ mc ∧ ss + Int.toNat 2597 ≤ ms ∧
  ((jnewG G 1 2597).2.1 x0).1 = 20 ∧
  P 279 [some (vR x0)] [] (((jnewG G 1 2597).1, (jnewG G 1 2597).2.1, ju (jnewG G 1 2597).2.2 x0 24 ((G.1 + 1 : Nat) : Int)) : jG) (jnewH G σ) (cs + 1) (ss + Int.toNat 2597)) :
  jwp C d mc ms RT k_Model_init j0 q_Model_init P 4 270 [some (vR x0)] [] G σ cs ss := h
set_option maxRecDepth 20000 in
theorem b_Model_init_279 {C : jC} {d mc ms : Nat} {RT : Int → jG → jH → Prop} {P : jK} {G : jG} {σ : jH} {cs ss : Nat} {x0 : Int} (h :
  (0 : Int) ≤ 61 ∧ (61 : Int) < 60000000 ∧ cs + 1 ≤ mc ∧ ss + Int.toNat 61 ≤ ms ∧
  ((jnewG G 1 61).2.1 x0).1 = 20 ∧
  P 287 [some (vR x0)] [] (((jnewG G 1 61).1, (jnewG G 1 61).2.1, ju (jnewG G 1 61).2.2 x0 26 ((G.1 + 1 : Nat) : Int)) : jG) (jnewH G σ) (cs + 1) (ss + Int.toNat 61)) :
  jwp C d mc ms RT k_Model_init j0 q_Model_init P 4 279 [some (vR x0)] [] G σ cs ss := h
set_option maxRecDepth 20000 in
theorem b_Model_init_287 {C : jC} {d mc ms : Nat} {RT : Int → jG → jH → Prop} {P : jK} {G : jG} {σ : jH} {cs ss : Nat} {x0 : Int} (h :
  (0 : Int) ≤ 60 ∧ (60 : Int) < 60000000 ∧ cs + 1 ≤ mc ∧ ss + Int.toNat 60 ≤ ms ∧
  ((jnewG G 1 60).2.1 x0).1 = 20 ∧
  P 295 [some (vR x0)] [] (((jnewG G 1 60).1, (jnewG G 1 60).2.1, ju (jnewG G 1 60).2.2 x0 27 ((G.1 + 1 : Nat) : Int)) : jG) (jnewH G σ) (cs + 1) (ss + Int.toNat 60)) :
  jwp C d mc ms RT k_Model_init j0 q_Model_init P 4 287 [some (vR x0)] [] G σ cs ss := h
set_option maxRecDepth 20000 in
theorem b_Model_init_295 {C : jC} {d mc ms : Nat} {RT : Int → jG → jH → Prop} {P : jK} {G : jG} {σ : jH} {cs ss : Nat} {x0 : Int} (h :
  (0 : Int) ≤ 10 ∧ (10 : Int) < 60000000 ∧ (0 : Int) ≤ 340 ∧ (340 : Int) < 60000000 ∧ cs + 1 + Int.toNat 10 ≤ mc ∧ ss + Int.toNat 10 + Int.toNat 10 * Int.toNat 340 ≤ ms ∧
  ((jgridG G 7 3 10 340).2.1 x0).1 = 20 ∧
  P 308 [some (vR x0)] [] (((jgridG G 7 3 10 340).1, (jgridG G 7 3 10 340).2.1, ju (jgridG G 7 3 10 340).2.2 x0 28 ((G.1 + 1 : Nat) : Int)) : jG) (jgridH G σ 10) (cs + 1 + Int.toNat 10) (ss + Int.toNat 10 + Int.toNat 10 * Int.toNat 340)) :
  jwp C d mc ms RT k_Model_init j0 q_Model_init P 5 295 [some (vR x0)] [] G σ cs ss := h
set_option maxRecDepth 20000 in
theorem b_Model_init_308 {C : jC} {d mc ms : Nat} {RT : Int → jG → jH → Prop} {P : jK} {G : jG} {σ : jH} {cs ss : Nat} {x0 : Int} (h :
  (0 : Int) ≤ 21 ∧ (21 : Int) < 60000000 ∧ cs + 1 ≤ mc ∧ ss + Int.toNat 21 ≤ ms ∧
  ((jnewG G 1 21).2.1 x0).1 = 20 ∧
  P 316 [some (vR x0)] [] (((jnewG G 1 21).1, (jnewG G 1 21).2.1, ju (jnewG G 1 21).2.2 x0 31 ((G.1 + 1 : Nat) : Int)) : jG) (jnewH G σ) (cs + 1) (ss + Int.toNat 21)) :
  jwp C d mc ms RT k_Model_init j0 q_Model_init P 4 308 [some (vR x0)] [] G σ cs ss := h
set_option maxRecDepth 20000 in
theorem b_Model_init_316 {C : jC} {d mc ms : Nat} {RT : Int → jG → jH → Prop} {P : jK} {G : jG} {σ : jH} {cs ss : Nat} {x0 : Int} (h :
  (0 : Int) ≤ 1020 ∧ (1020 : Int) < 60000000 ∧ cs + 1 ≤ mc ∧ ss + Int.toNat 1020 ≤ ms ∧
  ((jnewG G 1 1020).2.1 x0).1 = 20 ∧
  P 325 [some (vR x0)] [] (((jnewG G 1 1020).1, (jnewG G 1 1020).2.1, ju (jnewG G 1 1020).2.2 x0 32 ((G.1 + 1 : Nat) : Int)) : jG) (jnewH G σ) (cs + 1) (ss + Int.toNat 1020)) :
  jwp C d mc ms RT k_Model_init j0 q_Model_init P 4 316 [some (vR x0)] [] G σ cs ss := h
set_option maxRecDepth 20000 in
theorem b_Model_init_325 {C : jC} {d mc ms : Nat} {RT : Int → jG → jH → Prop} {P : jK} {G : jG} {σ : jH} {cs ss : Nat} {x0 : Int} (h :
  (0 : Int) ≤ 40 ∧ (40 : Int) < 60000000 ∧ cs + 1 ≤ mc ∧ ss + Int.toNat 40 ≤ ms ∧
  ((jnewG G 1 40).2.1 x0).1 = 20 ∧
  P 333 [some (vR x0)] [] (((jnewG G 1 40).1, (jnewG G 1 40).2.1, ju (jnewG G 1 40).2.2 x0 34 ((G.1 + 1 : Nat) : Int)) : jG) (jnewH G σ) (cs + 1) (ss + Int.toNat 40)) :
  jwp C d mc ms RT k_Model_init j0 q_Model_init P 4 325 [some (vR x0)] [] G σ cs ss := h
set_option maxRecDepth 20000 in
theorem b_Model_init_333 {C : jC} {d mc ms : Nat} {RT : Int → jG → jH → Prop} {P : jK} {G : jG} {σ : jH} {cs ss : Nat} {x0 : Int} (h :
  (0 : Int) ≤ 8 ∧ (8 : Int) < 60000000 ∧ cs + 1 ≤ mc ∧ ss + Int.toNat 8 ≤ ms ∧
  ((jnewG G 1 8).2.1 x0).1 = 20 ∧
  P 341 [some (vR x0)] [] (((jnewG G 1 8).1, (jnewG G 1 8).2.1, ju (jnewG G 1 8).2.2 x0 35 ((G.1 + 1 : Nat) : Int)) : jG) (jnewH G σ) (cs + 1) (ss + Int.toNat 8)) :
  jwp C d mc ms RT k_Model_init j0 q_Model_init P 4 333 [some (vR x0)] [] G σ cs ss := h
set_option maxRecDepth 20000 in
theorem b_Model_init_341 {C : jC} {d mc ms : Nat} {RT : Int → jG → jH → Prop} {P : jK} {G : jG} {σ : jH} {cs ss : Nat} {x0 : Int} (h :
  (0 : Int) ≤ 90601 ∧ (90601 : Int) < 60000000 ∧ cs + 1 ≤ mc ∧ ss + Int.toNat 90601 ≤ ms ∧
  ((jnewG G 1 90601).2.1 x0).1 = 20 ∧
  P 349 [some (vR x0)] [] (((jnewG G 1 90601).1, (jnewG G 1 90601).2.1, ju (jnewG G 1 90601).2.2 x0 37 ((G.1 + 1 : Nat) : Int)) : jG) (jnewH G σ) (cs + 1) (ss + Int.toNat 90601)) :
  jwp C d mc ms RT k_Model_init j0 q_Model_init P 4 341 [some (vR x0)] [] G σ cs ss := h
set_option maxRecDepth 20000 in
theorem b_Model_init_349 {C : jC} {d mc ms : Nat} {RT : Int → jG → jH → Prop} {P : jK} {G : jG} {σ : jH} {cs ss : Nat} {x0 : Int} (h :
  (0 : Int) ≤ 680 ∧ (680 : Int) < 60000000 ∧ cs + 1 ≤ mc ∧ ss + Int.toNat 680 ≤ ms ∧
  ((jnewG G 3 680).2.1 x0).1 = 20 ∧
  P 358 [some (vR x0)] [] (((jnewG G 3 680).1, (jnewG G 3 680).2.1, ju (jnewG G 3 680).2.2 x0 38 ((G.1 + 1 : Nat) : Int)) : jG) (jnewH G σ) (cs + 1) (ss + Int.toNat 680)) :
  jwp C d mc ms RT k_Model_init j0 q_Model_init P 4 349 [some (vR x0)] [] G σ cs ss := h
set_option maxRecDepth 20000 in
theorem b_Model_init_358 {C : jC} {d mc ms : Nat} {RT : Int → jG → jH → Prop} {P : jK} {G : jG} {σ : jH} {cs ss : Nat} {x0 : Int} (h :
  (0 : Int) ≤ 40 ∧ (40 : Int) < 60000000 ∧ cs + 1 ≤ mc ∧ ss + Int.toNat 40 ≤ ms ∧
  ((jnewG G 1 40).2.1 x0).1 = 20 ∧
  P 366 [some (vR x0)] [] (((jnewG G 1 40).1, (jnewG G 1 40).2.1, ju (jnewG G 1 40).2.2 x0 39 ((G.1 + 1 : Nat) : Int)) : jG) (jnewH G σ) (cs + 1) (ss + Int.toNat 40)) :
  jwp C d mc ms RT k_Model_init j0 q_Model_init P 4 358 [some (vR x0)] [] G σ cs ss := h
set_option maxRecDepth 20000 in
theorem b_Model_init_366 {C : jC} {d mc ms : Nat} {RT : Int → jG → jH → Prop} {P : jK} {G : jG} {σ : jH} {cs ss : Nat} {x0 : Int} (h :
  (0 : Int) ≤ 40 ∧ (40 : Int) < 60000000 ∧ cs + 1 ≤ mc ∧ ss + Int.toNat 40 ≤ ms ∧
  ((jnewG G 1 40).2.1 x0).1 = 20 ∧
  P 374 [some (vR x0)] [] (((jnewG G 1 40).1, (jnewG G 1 40).2.1, ju (jnewG G 1 40).2.2 x0 40 ((G.1 + 1 : Nat) : Int)) : jG) (jnewH G σ) (cs + 1) (ss + Int.toNat 40)) :
  jwp C d mc ms RT k_Model_init j0 q_Model_init P 4 366 [some (vR x0)] [] G σ cs ss := h
set_option maxRecDepth 20000 in
theorem b_Model_init_374 {C : jC} {d mc ms : Nat} {RT : Int → jG → jH → Prop} {P : jK} {G : jG} {σ : jH} {cs ss : Nat} {x0 : Int} (h :
  (0 : Int) ≤ 680 ∧ (680 : Int) < 60000000 ∧ cs + 1 ≤ mc ∧ ss + Int.toNat 680 ≤ ms ∧
  ((jnewG G 1 680).2.1 x0).1 = 20 ∧
  P 383 [some (vR x0)] [] (((jnewG G 1 680).1, (jnewG G 1 680).2.1, ju (jnewG G 1 680).2.2 x0 42 ((G.1 + 1 : Nat) : Int)) : jG) (jnewH G σ) (cs + 1) (ss + Int.toNat 680)) :
  jwp C d mc ms RT k_Model_init j0 q_Model_init P 4 374 [some (vR x0)] [] G σ cs ss := h
set_option maxRecDepth 20000 in
theorem b_Model_init_383 {C : jC} {d mc ms : Nat} {RT : Int → jG → jH → Prop} {P : jK} {G : jG} {σ : jH} {cs ss : Nat} {x0 : Int} (h :
  (0 : Int) ≤ 400 ∧ (400 : Int) < 60000000 ∧ cs + 1 ≤ mc ∧ ss + Int.toNat 400 ≤ ms ∧
  ((jnewG G 1 400).2.1 x0).1 = 20 ∧
  P 392 [some (vR x0)] [] (((jnewG G 1 400).1, (jnewG G 1 400).2.1, ju (jnewG G 1 400).2.2 x0 44 ((G.1 + 1 : Nat) : Int)) : jG) (jnewH G σ) (cs + 1) (ss + Int.toNat 400)) :
  jwp C d mc ms RT k_Model_init j0 q_Model_init P 4 383 [some (vR x0)] [] G σ cs ss := h
set_option maxRecDepth 20000 in
theorem b_Model_init_392 {C : jC} {d mc ms : Nat} {RT : Int → jG → jH → Prop} {P : jK} {G : jG} {σ : jH} {cs ss : Nat} {x0 : Int} (h :
  (0 : Int) ≤ 680 ∧ (680 : Int) < 60000000 ∧ cs + 1 ≤ mc ∧ ss + Int.toNat 680 ≤ ms ∧
  ((jnewG G 1 680).2.1 x0).1 = 20 ∧
  P 401 [some (vR x0)] [] (((jnewG G 1 680).1, (jnewG G 1 680).2.1, ju (jnewG G 1 680).2.2 x0 45 ((G.1 + 1 : Nat) : Int)) : jG) (jnewH G σ) (cs + 1) (ss + Int.toNat 680)) :
  jwp C d mc ms RT k_Model_init j0 q_Model_init P 4 392 [some (vR x0)] [] G σ cs ss := h
set_option maxRecDepth 20000 in
theorem b_Model_init_401 {C : jC} {d mc ms : Nat} {RT : Int → jG → jH → Prop} {P : jK} {G : jG} {σ : jH} {cs ss : Nat} {x0 : Int} (h :
  (0 : Int) ≤ 4 ∧ (4 : Int) < 60000000 ∧ cs + 1 ≤ mc ∧ ss + Int.toNat 4 ≤ ms ∧
  ((jnewG G 1 4).2.1 ((G.1 + 1 : Nat) : Int)).1 = 1 ∧ (0 : Int) ≤ 0 ∧ 0 < ((jnewG G 1 4).2.1 ((G.1 + 1 : Nat) : Int)).2 ∧
  ((jnewG G 1 4).2.1 ((G.1 + 1 : Nat) : Int)).1 = 1 ∧ (0 : Int) ≤ 1 ∧ 1 < ((jnewG G 1 4).2.1 ((G.1 + 1 : Nat) : Int)).2 ∧
  ((jnewG G 1 4).2.1 ((G.1 + 1 : Nat) : Int)).1 = 1 ∧ (0 : Int) ≤ 2 ∧ 2 < ((jnewG G 1 4).2.1 ((G.1 + 1 : Nat) : Int)).2 ∧
  ((jnewG G 1 4).2.1 ((G.1 + 1 : Nat) : Int)).1 = 1 ∧ (0 : Int) ≤ 3 ∧ 3 < ((jnewG G 1 4).2.1 ((G.1 + 1 : Nat) : Int)).2 ∧
  ((jnewG G 1 4).2.1 x0).1 = 20 ∧
  P 424 [some (vR x0)] [] (((jnewG G 1 4).1, (jnewG G 1 4).2.1, ju (jnewG G 1 4).2.2 x0 47 ((G.1 + 1 : Nat) : Int)) : jG) (ju (ju (ju (ju (jnewH G σ) ((G.1 + 1 : Nat) : Int) 0 (-1)) ((G.1 + 1 : Nat) : Int) 1 (-1)) ((G.1 + 1 : Nat) : Int) 2 (-1)) ((G.1 + 1 : Nat) : Int) 3 (-1)) (cs + 1) (ss + Int.toNat 4)) :
  jwp C d mc ms RT k_Model_init j0 q_Model_init P 20 401 [some (vR x0)] [] G σ cs ss := h
set_option maxRecDepth 20000 in
theorem b_Model_init_424 {C : jC} {d mc ms : Nat} {RT : Int → jG → jH → Prop} {P : jK} {G : jG} {σ : jH} {cs ss : Nat} {x0 : Int} (h :
  (0 : Int) ≤ 4 ∧ (4 : Int) < 60000000 ∧ cs + 1 ≤ mc ∧ ss + Int.toNat 4 ≤ ms ∧
  ((jnewG G 1 4).2.1 x0).1 = 20 ∧
  P 431 [some (vR x0)] [] (((jnewG G 1 4).1, (jnewG G 1 4).2.1, ju (jnewG G 1 4).2.2 x0 48 ((G.1 + 1 : Nat) : Int)) : jG) (jnewH G σ) (cs + 1) (ss + Int.toNat 4)) :
  jwp C d mc ms RT k_Model_init j0 q_Model_init P 4 424 [some (vR x0)] [] G σ cs ss := h
set_option maxRecDepth 20000 in
theorem b_Model_init_431 {C : jC} {d mc ms : Nat} {RT : Int → jG → jH → Prop} {P : jK} {G : jG} {σ : jH} {cs ss : Nat} {x0 : Int} (h :
  (0 : Int) ≤ 240 ∧ (240 : Int) < 60000000 ∧ cs + 1 ≤ mc ∧ ss + Int.toNat 240 ≤ ms ∧
  ((jnewG G 4 240).2.1 x0).1 = 20 ∧
  P 440 [some (vR x0)] [] (((jnewG G 4 240).1, (jnewG G 4 240).2.1, ju (jnewG G 4 240).2.2 x0 49 ((G.1 + 1 : Nat) : Int)) : jG) (jnewH G σ) (cs + 1) (ss + Int.toNat 240)) :
  jwp C d mc ms RT k_Model_init j0 q_Model_init P 4 431 [some (vR x0)] [] G σ cs ss := h
set_option maxRecDepth 20000 in
theorem b_Model_init_440 {C : jC} {d mc ms : Nat} {RT : Int → jG → jH → Prop} {P : jK} {G : jG} {σ : jH} {cs ss : Nat} {x0 : Int} (h :
  (0 : Int) ≤ 60 ∧ (60 : Int) < 60000000 ∧ cs + 1 ≤ mc ∧ ss + Int.toNat 60 ≤ ms ∧
  ((jnewG G 4 60).2.1 x0).1 = 20 ∧
  P 448 [some (vR x0)] [] (((jnewG G 4 60).1, (jnewG G 4 60).2.1, ju (jnewG G 4 60).2.2 x0 50 ((G.1 + 1 : Nat) : Int)) : jG) (jnewH G σ) (cs + 1) (ss + Int.toNat 60)) :
  jwp C d mc ms RT k_Model_init j0 q_Model_init P 4 440 [some (vR x0)] [] G σ cs ss := h
set_option maxRecDepth 20000 in
theorem b_Model_init_448 {C : jC} {d mc ms : Nat} {RT : Int → jG → jH → Prop} {P : jK} {G : jG} {σ : jH} {cs ss : Nat} {x0 : Int} (h :
  (G.2.1 x0).1 = 20 ∧
  cN C.1 d m_Model_plain [vR (G.2.2 x0 1)] G σ (fun (r1 : Int) (σ1 : jH) =>
  (G.2.1 x0).1 = 20 ∧
  cN C.1 d m_Model_makes [vR x0] G σ1 (fun (r2 : Int) (σ2 : jH) =>
  RT 0 G σ2))) :
  jwp C d mc ms RT k_Model_init j0 q_Model_init P 6 448 [some (vR x0)] [] G σ cs ss := h

def q_Model_plain : List (Nat × List Bool) := [(2, [true, true]), (37, [true, true])]
set_option maxRecDepth 20000 in
theorem b_Model_plain_0 {C : jC} {d mc ms : Nat} {RT : Int → jG → jH → Prop} {P : jK} {G : jG} {σ : jH} {cs ss : Nat} {x0 : Int} (h :
  P 2 [some (vR x0), some (vI 0)] [] G σ cs ss) :
  jwp C d mc ms RT k_Model_plain j0 q_Model_plain P 2 0 [some (vR x0), none] [] G σ cs ss := h
set_option maxRecDepth 20000 in
theorem b_Model_plain_2 {C : jC} {d mc ms : Nat} {RT : Int → jG → jH → Prop} {P : jK} {G : jG} {σ : jH} {cs ss : Nat} {x0 : Int} {x1 : Int} (h :
  (((2597 : Int) ≤ x1 →
    P 37 [some (vR x0), some (vI 0)] [] G σ cs ss) ∧
  (x1 < 2597 →
    ((x1 < 3 →
      (G.2.1 x0).1 = 1 ∧ (0 : Int) ≤ x1 ∧ x1 < (G.2.1 x0).2 ∧
      P 2 [some (vR x0), some (vI (w32 (x1 + 1)))] [] G (ju σ x0 x1 0) cs ss) ∧
    ((3 : Int) ≤ x1 →
      (((5 : Int) ≤ x1 →
        (G.2.1 x0).1 = 1 ∧ (0 : Int) ≤ x1 ∧ x1 < (G.2.1 x0).2 ∧
        P 2 [some (vR x0), some (vI (w32 (x1 + 1)))] [] G (ju σ x0 x1 0) cs ss) ∧
      (x1 < 5 →
        (G.2.1 x0).1 = 1 ∧ (0 : Int) ≤ x1 ∧ x1 < (G.2.1 x0).2 ∧
        (G.2.1 x0).1 = 1 ∧ (0 : Int) ≤ x1 ∧ x1 < (G.2.1 x0).2 ∧
        P 2 [some (vR x0), some (vI (w32 (x1 + 1)))] [] G (ju σ x0 x1 (σ x0 x1)) cs ss))))))) :
  jwp C d mc ms RT k_Model_plain j0 q_Model_plain P 18 2 [some (vR x0), some (vI x1)] [] G σ cs ss := h
set_option maxRecDepth 20000 in
theorem b_Model_plain_37 {C : jC} {d mc ms : Nat} {RT : Int → jG → jH → Prop} {P : jK} {G : jG} {σ : jH} {cs ss : Nat} {x0 : Int} {x1 : Int} (h :
  (((26 : Int) ≤ x1 →
    RT 0 G σ) ∧
  (x1 < 26 →
    (G.2.1 x0).1 = 1 ∧ (0 : Int) ≤ (w32 (5 + x1)) ∧ (w32 (5 + x1)) < (G.2.1 x0).2 ∧
    (G.2.1 x0).1 = 1 ∧ (0 : Int) ≤ (w32 (31 + x1)) ∧ (w32 (31 + x1)) < (G.2.1 x0).2 ∧
    P 37 [some (vR x0), some (vI (w32 (x1 + 1)))] [] G (ju (ju σ x0 (w32 (5 + x1)) (-1)) x0 (w32 (31 + x1)) x1) cs ss))) :
  jwp C d mc ms RT k_Model_plain j0 q_Model_plain P 17 37 [some (vR x0), some (vI x1)] [] G σ cs ss := h

def q_Model_makes : List (Nat × List Bool) := [(7, [true, true, false]), (19, [true, true, true]), (57, [true, true, false]), (64, [true, true, true]), (118, [true, true, false]), (128, [true, true, true])]
set_option maxRecDepth 20000 in
theorem b_Model_makes_0 {C : jC} {d mc ms : Nat} {RT : Int → jG → jH → Prop} {P : jK} {G : jG} {σ : jH} {cs ss : Nat} {x0 : Int} (h :
  (G.2.1 x0).1 = 20 ∧
  P 7 [some (vR x0), some (vI 0), none] [] G (ju σ x0 10 0) cs ss) :
  jwp C d mc ms RT k_Model_makes j0 q_Model_makes P 5 0 [some (vR x0), none, none] [] G σ cs ss := h
set_option maxRecDepth 20000 in
theorem b_Model_makes_7 {C : jC} {d mc ms : Nat} {RT : Int → jG → jH → Prop} {P : jK} {G : jG} {σ : jH} {cs ss : Nat} {x0 : Int} {x1 : Int} (h :
  (((2 : Int) ≤ x1 →
    P 57 [some (vR x0), some (vI 0), none] [] G σ cs ss) ∧
  (x1 < 2 →
    (G.2.1 x0).1 = 20 ∧
    cN C.1 d m_Model_makesWords [vR x0, vI x1] G σ (fun (r1 : Int) (σ1 : jH) =>
    P 19 [some (vR x0), some (vI x1), some (vI 0)] [] G σ1 cs ss)))) :
  jwp C d mc ms RT k_Model_makes j0 q_Model_makes P 8 7 [some (vR x0), some (vI x1), none] [] G σ cs ss := h
set_option maxRecDepth 20000 in
theorem b_Model_makes_19 {C : jC} {d mc ms : Nat} {RT : Int → jG → jH → Prop} {P : jK} {G : jG} {σ : jH} {cs ss : Nat} {x0 : Int} {x1 : Int} {x2 : Int} (h :
  (G.2.1 x0).1 = 20 ∧
  (G.2.1 (G.2.2 x0 4)).1 = 1 ∧ (0 : Int) ≤ x1 ∧ x1 < (G.2.1 (G.2.2 x0 4)).2 ∧
  (((σ (G.2.2 x0 4) x1) ≤ x2 →
    P 7 [some (vR x0), some (vI (w32 (x1 + 1))), none] [] G σ cs ss) ∧
  (x2 < (σ (G.2.2 x0 4) x1) →
    (G.2.1 x0).1 = 20 ∧
    cN C.1 d m_Model_comes [vR x0, vI (w32 (21 * (w32 ((w32 (340 * x1)) + x2))))] G σ (fun (r1 : Int) (σ1 : jH) =>
    P 19 [some (vR x0), some (vI x1), some (vI (w32 (x2 + 1)))] [] G σ1 cs ss)))) :
  jwp C d mc ms RT k_Model_makes j0 q_Model_makes P 17 19 [some (vR x0), some (vI x1), some (vI x2)] [] G σ cs ss := h
set_option maxRecDepth 20000 in
theorem b_Model_makes_57 {C : jC} {d mc ms : Nat} {RT : Int → jG → jH → Prop} {P : jK} {G : jG} {σ : jH} {cs ss : Nat} {x0 : Int} {x1 : Int} (h :
  (((2 : Int) ≤ x1 →
    P 118 [some (vR x0), some (vI 0), none] [] G σ cs ss) ∧
  (x1 < 2 →
    P 64 [some (vR x0), some (vI x1), some (vI 0)] [] G σ cs ss))) :
  jwp C d mc ms RT k_Model_makes j0 q_Model_makes P 5 57 [some (vR x0), some (vI x1), none] [] G σ cs ss := h
set_option maxRecDepth 20000 in
theorem b_Model_makes_64 {C : jC} {d mc ms : Nat} {RT : Int → jG → jH → Prop} {P : jK} {G : jG} {σ : jH} {cs ss : Nat} {x0 : Int} {x1 : Int} {x2 : Int} (h :
  (G.2.1 x0).1 = 20 ∧
  (G.2.1 (G.2.2 x0 4)).1 = 1 ∧ (0 : Int) ≤ x1 ∧ x1 < (G.2.1 (G.2.2 x0 4)).2 ∧
  (((σ (G.2.2 x0 4) x1) ≤ x2 →
    P 57 [some (vR x0), some (vI (w32 (x1 + 1))), none] [] G σ cs ss) ∧
  (x2 < (σ (G.2.2 x0 4) x1) →
    (G.2.1 x0).1 = 20 ∧
    (G.2.1 x0).1 = 20 ∧
    (G.2.1 x0).1 = 20 ∧
    cN C.1 d m_Model_find [vR x0, vR (G.2.2 x0 8), vI (w32 (21 * (w32 ((w32 (340 * x1)) + x2))))] G σ (fun (r1 : Int) (σ1 : jH) =>
    (G.2.1 (G.2.2 x0 5)).1 = 1 ∧ (0 : Int) ≤ (w32 ((w32 (340 * x1)) + x2)) ∧ (w32 ((w32 (340 * x1)) + x2)) < (G.2.1 (G.2.2 x0 5)).2 ∧
    P 64 [some (vR x0), some (vI x1), some (vI (w32 (x2 + 1)))] [] G (ju σ1 (G.2.2 x0 5) (w32 ((w32 (340 * x1)) + x2)) r1) cs ss)))) :
  jwp C d mc ms RT k_Model_makes j0 q_Model_makes P 27 64 [some (vR x0), some (vI x1), some (vI x2)] [] G σ cs ss := h
set_option maxRecDepth 20000 in
theorem b_Model_makes_118 {C : jC} {d mc ms : Nat} {RT : Int → jG → jH → Prop} {P : jK} {G : jG} {σ : jH} {cs ss : Nat} {x0 : Int} {x1 : Int} (h :
  (G.2.1 x0).1 = 20 ∧
  (((σ x0 10) ≤ x1 →
    RT 0 G σ) ∧
  (x1 < (σ x0 10) →
    P 128 [some (vR x0), some (vI x1), some (vI x1)] [] G σ cs ss))) :
  jwp C d mc ms RT k_Model_makes j0 q_Model_makes P 6 118 [some (vR x0), some (vI x1), none] [] G σ cs ss := h
set_option maxRecDepth 20000 in
theorem b_Model_makes_128 {C : jC} {d mc ms : Nat} {RT : Int → jG → jH → Prop} {P : jK} {G : jG} {σ : jH} {cs ss : Nat} {x0 : Int} {x1 : Int} {x2 : Int} (h :
  ((x2 ≤ 0 →
    (G.2.1 x0).1 = 20 ∧
    (G.2.1 (G.2.2 x0 11)).1 = 1 ∧ (0 : Int) ≤ x2 ∧ x2 < (G.2.1 (G.2.2 x0 11)).2 ∧
    P 118 [some (vR x0), some (vI (w32 (x1 + 1))), none] [] G (ju σ (G.2.2 x0 11) x2 x1) cs ss) ∧
  ((0 : Int) < x2 →
    (G.2.1 x0).1 = 20 ∧
    (G.2.1 x0).1 = 20 ∧
    (G.2.1 x0).1 = 20 ∧
    (G.2.1 (G.2.2 x0 11)).1 = 1 ∧ (0 : Int) ≤ (w32 (x2 - 1)) ∧ (w32 (x2 - 1)) < (G.2.1 (G.2.2 x0 11)).2 ∧
    (G.2.1 x0).1 = 20 ∧
    cN C.1 d m_Model_compare [vR (G.2.2 x0 9), vI (w32 (21 * x1)), vR (G.2.2 x0 9), vI (w32 (21 * (σ (G.2.2 x0 11) (w32 (x2 - 1))))), vR (G.2.2 x0 1), vI 31] G σ (fun (r1 : Int) (σ1 : jH) =>
    (((0 : Int) ≤ r1 →
      (G.2.1 x0).1 = 20 ∧
      (G.2.1 (G.2.2 x0 11)).1 = 1 ∧ (0 : Int) ≤ x2 ∧ x2 < (G.2.1 (G.2.2 x0 11)).2 ∧
      P 118 [some (vR x0), some (vI (w32 (x1 + 1))), none] [] G (ju σ1 (G.2.2 x0 11) x2 x1) cs ss) ∧
    (r1 < 0 →
      (G.2.1 x0).1 = 20 ∧
      (G.2.1 x0).1 = 20 ∧
      (G.2.1 (G.2.2 x0 11)).1 = 1 ∧ (0 : Int) ≤ (w32 (x2 - 1)) ∧ (w32 (x2 - 1)) < (G.2.1 (G.2.2 x0 11)).2 ∧
      (G.2.1 (G.2.2 x0 11)).1 = 1 ∧ (0 : Int) ≤ x2 ∧ x2 < (G.2.1 (G.2.2 x0 11)).2 ∧
      P 128 [some (vR x0), some (vI x1), some (vI (w32 (x2 + (-1))))] [] G (ju σ1 (G.2.2 x0 11) x2 (σ1 (G.2.2 x0 11) (w32 (x2 - 1)))) cs ss)))))) :
  jwp C d mc ms RT k_Model_makes j0 q_Model_makes P 34 128 [some (vR x0), some (vI x1), some (vI x2)] [] G σ cs ss := h

def q_Model_makesWords : List (Nat × List Bool) := [(11, [true, true, true, true, false, false, false, false]), (29, [true, true, true, true, true, false, false, false]), (66, [true, true, true, true, true, true, false, false]), (114, [true, true, false, true, false, true, true, true]), (174, [true, true, true, true, false, true, false, false])]
set_option maxRecDepth 20000 in
theorem b_Model_makesWords_0 {C : jC} {d mc ms : Nat} {RT : Int → jG → jH → Prop} {P : jK} {G : jG} {σ : jH} {cs ss : Nat} {x0 : Int} {x1 : Int} (h :
  (G.2.1 x0).1 = 20 ∧
  (G.2.1 (G.2.2 x0 4)).1 = 1 ∧ (0 : Int) ≤ x1 ∧ x1 < (G.2.1 (G.2.2 x0 4)).2 ∧
  P 11 [some (vR x0), some (vI x1), some (vI 0), some (vI 0), none, none, none, none] [] G (ju σ (G.2.2 x0 4) x1 0) cs ss) :
  jwp C d mc ms RT k_Model_makesWords j0 q_Model_makesWords P 9 0 [some (vR x0), some (vI x1), none, none, none, none, none, none] [] G σ cs ss := h
set_option maxRecDepth 20000 in
theorem b_Model_makesWords_11 {C : jC} {d mc ms : Nat} {RT : Int → jG → jH → Prop} {P : jK} {G : jG} {σ : jH} {cs ss : Nat} {x0 : Int} {x1 : Int} {x2 : Int} {x3 : Int} (h :
  (G.2.1 x0).1 = 20 ∧
  cN C.1 d m_Model_linesOf [vR x0, vI x1] G σ (fun (r1 : Int) (σ1 : jH) =>
  ((r1 ≤ x3 →
    RT 0 G σ1) ∧
  (x3 < r1 →
    (G.2.1 x0).1 = 20 ∧
    cN C.1 d m_Model_runFrom [vR x0, vI x1, vI x3, vI 0] G σ1 (fun (r2 : Int) (σ2 : jH) =>
    P 29 [some (vR x0), some (vI x1), some (vI x2), some (vI x3), some (vI r2), none, none, none] [] G σ2 cs ss))))) :
  jwp C d mc ms RT k_Model_makesWords j0 q_Model_makesWords P 11 11 [some (vR x0), some (vI x1), some (vI x2), some (vI x3), none, none, none, none] [] G σ cs ss := h
set_option maxRecDepth 20000 in
theorem b_Model_makesWords_29 {C : jC} {d mc ms : Nat} {RT : Int → jG → jH → Prop} {P : jK} {G : jG} {σ : jH} {cs ss : Nat} {x0 : Int} {x1 : Int} {x2 : Int} {x3 : Int} {x4 : Int} (h :
  ((x4 = (-1) →
    P 11 [some (vR x0), some (vI x1), some (vI x2), some (vI (w32 (x3 + 1))), none, none, none, none] [] G σ cs ss) ∧
  (x4 ≠ (-1) →
    (G.2.1 x0).1 = 20 ∧
    cN C.1 d m_Model_runEnd [vR x0, vI x1, vI x3, vI x4] G σ (fun (r1 : Int) (σ1 : jH) =>
    (G.2.1 x0).1 = 20 ∧
    (G.2.1 (G.2.2 x0 4)).1 = 1 ∧ (0 : Int) ≤ x1 ∧ x1 < (G.2.1 (G.2.2 x0 4)).2 ∧
    ((x2 = 0 →
      P 66 [some (vR x0), some (vI x1), some (vI x2), some (vI x3), some (vI x4), some (vI r1), none, none] [vI 0, vI (w32 ((w32 (340 * x1)) + (σ1 (G.2.2 x0 4) x1)))] G σ1 cs ss) ∧
    (x2 ≠ 0 →
      P 66 [some (vR x0), some (vI x1), some (vI x2), some (vI x3), some (vI x4), some (vI r1), none, none] [vI 1, vI (w32 ((w32 (340 * x1)) + (σ1 (G.2.2 x0 4) x1)))] G σ1 cs ss)))))) :
  jwp C d mc ms RT k_Model_makesWords j0 q_Model_makesWords P 21 29 [some (vR x0), some (vI x1), some (vI x2), some (vI x3), some (vI x4), none, none, none] [] G σ cs ss := h
set_option maxRecDepth 20000 in
theorem b_Model_makesWords_66 {C : jC} {d mc ms : Nat} {RT : Int → jG → jH → Prop} {P : jK} {G : jG} {σ : jH} {cs ss : Nat} {x0 : Int} {x1 : Int} {x2 : Int} {x3 : Int} {x4 : Int} {x5 : Int} {s0 : Int} {s1 : Int} (h :
  ((x2 ≠ 0 →
    P 114 [some (vR x0), some (vI x1), none, some (vI x3), none, some (vI x5), some (vI (w32 (s0 - s1))), some (vI x4)] [] G σ cs ss) ∧
  (x2 = 0 →
    (G.2.1 x0).1 = 20 ∧
    (G.2.1 (G.2.2 x0 4)).1 = 1 ∧ (0 : Int) ≤ x1 ∧ x1 < (G.2.1 (G.2.2 x0 4)).2 ∧
    (G.2.1 (G.2.2 x0 4)).1 = 1 ∧ (0 : Int) ≤ x1 ∧ x1 < (G.2.1 (G.2.2 x0 4)).2 ∧
    (G.2.1 x0).1 = 20 ∧
    (G.2.1 (G.2.2 x0 8)).1 = 1 ∧ (0 : Int) ≤ (w32 (21 * (w32 (s0 - s1)))) ∧ (w32 (21 * (w32 (s0 - s1)))) < (G.2.1 (G.2.2 x0 8)).2 ∧
    (G.2.1 x0).1 = 20 ∧
    (G.2.1 (G.2.2 x0 6)).1 = 1 ∧ (0 : Int) ≤ (w32 (s0 - s1)) ∧ (w32 (s0 - s1)) < (G.2.1 (G.2.2 x0 6)).2 ∧
    (G.2.1 x0).1 = 20 ∧
    (G.2.1 (G.2.2 x0 7)).1 = 1 ∧ (0 : Int) ≤ (w32 (s0 - s1)) ∧ (w32 (s0 - s1)) < (G.2.1 (G.2.2 x0 7)).2 ∧
    P 114 [some (vR x0), some (vI x1), none, some (vI x3), none, some (vI x5), some (vI (w32 (s0 - s1))), some (vI x4)] [] G (ju (ju (ju (ju σ (G.2.2 x0 4) x1 (w32 ((σ (G.2.2 x0 4) x1) + 1))) (G.2.2 x0 8) (w32 (21 * (w32 (s0 - s1)))) 0) (G.2.2 x0 6) (w32 (s0 - s1)) x3) (G.2.2 x0 7) (w32 (s0 - s1)) 0) cs ss))) :
  jwp C d mc ms RT k_Model_makesWords j0 q_Model_makesWords P 31 66 [some (vR x0), some (vI x1), some (vI x2), some (vI x3), some (vI x4), some (vI x5), none, none] [vI s1, vI s0] G σ cs ss := h
set_option maxRecDepth 20000 in
theorem b_Model_makesWords_114 {C : jC} {d mc ms : Nat} {RT : Int → jG → jH → Prop} {P : jK} {G : jG} {σ : jH} {cs ss : Nat} {x0 : Int} {x1 : Int} {x3 : Int} {x5 : Int} {x6 : Int} {x7 : Int} (h :
  ((x5 ≤ x7 →
    (G.2.1 x0).1 = 20 ∧
    cN C.1 d m_Model_isCut [vR x0, vI x1, vI x3, vI x5] G σ (fun (r1 : Int) (σ1 : jH) =>
    (G.2.1 x0).1 = 20 ∧
    ((r1 = 0 →
      (G.2.1 x0).1 = 20 ∧
      (G.2.1 (G.2.2 x0 7)).1 = 1 ∧ (0 : Int) ≤ x6 ∧ x6 < (G.2.1 (G.2.2 x0 7)).2 ∧
      P 174 [some (vR x0), some (vI x1), some (vI r1), some (vI x3), none, some (vI x5), none, none] [vI (σ1 (G.2.2 x0 7) x6), vI x6, vR (G.2.2 x0 7)] G σ1 cs ss) ∧
    (r1 ≠ 0 →
      P 174 [some (vR x0), some (vI x1), some (vI r1), some (vI x3), none, some (vI x5), none, none] [vI 1, vI x6, vR (G.2.2 x0 7)] G σ1 cs ss)))) ∧
  (x7 < x5 →
    (G.2.1 x0).1 = 20 ∧
    cN C.1 d m_Model_byteOf [vR x0, vI x1, vI x3, vI x7] G σ (fun (r2 : Int) (σ2 : jH) =>
    (G.2.1 x0).1 = 20 ∧
    cN C.1 d m_Model_adds [vR x0, vI (w32 (21 * x6)), vI r2] G σ2 (fun (r3 : Int) (σ3 : jH) =>
    P 114 [some (vR x0), some (vI x1), none, some (vI x3), none, some (vI x5), some (vI x6), some (vI (w32 (x7 + 1)))] [] G σ3 cs ss))))) :
  jwp C d mc ms RT k_Model_makesWords j0 q_Model_makesWords P 18 114 [some (vR x0), some (vI x1), none, some (vI x3), none, some (vI x5), some (vI x6), some (vI x7)] [] G σ cs ss := h
set_option maxRecDepth 20000 in
theorem b_Model_makesWords_174 {C : jC} {d mc ms : Nat} {RT : Int → jG → jH → Prop} {P : jK} {G : jG} {σ : jH} {cs ss : Nat} {x0 : Int} {x1 : Int} {x2 : Int} {x3 : Int} {x5 : Int} {s0 : Int} {s1 : Int} {s2 : Int} (h :
  (G.2.1 s0).1 = 1 ∧ (0 : Int) ≤ s1 ∧ s1 < (G.2.1 s0).2 ∧
  ((x2 = 0 →
    (G.2.1 x0).1 = 20 ∧
    cN C.1 d m_Model_runFrom [vR x0, vI x1, vI x3, vI x5] G (ju σ s0 s1 s2) (fun (r1 : Int) (σ1 : jH) =>
    P 29 [some (vR x0), some (vI x1), some (vI x2), some (vI x3), some (vI r1), none, none, none] [] G σ1 cs ss)) ∧
  (x2 ≠ 0 →
    P 29 [some (vR x0), some (vI x1), some (vI x2), some (vI x3), some (vI (-1)), none, none, none] [] G (ju σ s0 s1 s2) cs ss))) :
  jwp C d mc ms RT k_Model_makesWords j0 q_Model_makesWords P 10 174 [some (vR x0), some (vI x1), some (vI x2), some (vI x3), none, some (vI x5), none, none] [vI s2, vI s1, vR s0] G σ cs ss := h

def q_Model_linesOf : List (Nat × List Bool) := []
set_option maxRecDepth 20000 in
theorem b_Model_linesOf_0 {C : jC} {d mc ms : Nat} {RT : Int → jG → jH → Prop} {P : jK} {G : jG} {σ : jH} {cs ss : Nat} {x0 : Int} {x1 : Int} (h :
  (G.2.1 x0).1 = 20 ∧
  (G.2.1 (G.2.2 x0 1)).1 = 1 ∧ (0 : Int) ≤ (w32 (3 + x1)) ∧ (w32 (3 + x1)) < (G.2.1 (G.2.2 x0 1)).2 ∧
  RT (σ (G.2.2 x0 1) (w32 (3 + x1))) G σ) :
  jwp C d mc ms RT k_Model_linesOf j0 q_Model_linesOf P 7 0 [some (vR x0), some (vI x1)] [] G σ cs ss := h

def q_Model_runFrom : List (Nat × List Bool) := [(3, [true, true, true, false, true])]
set_option maxRecDepth 20000 in
theorem b_Model_runFrom_0 {C : jC} {d mc ms : Nat} {RT : Int → jG → jH → Prop} {P : jK} {G : jG} {σ : jH} {cs ss : Nat} {x0 : Int} {x1 : Int} {x2 : Int} {x3 : Int} (h :
  P 3 [some (vR x0), some (vI x1), some (vI x2), none, some (vI x3)] [] G σ cs ss) :
  jwp C d mc ms RT k_Model_runFrom j0 q_Model_runFrom P 2 0 [some (vR x0), some (vI x1), some (vI x2), some (vI x3), none] [] G σ cs ss := h
set_option maxRecDepth 20000 in
theorem b_Model_runFrom_3 {C : jC} {d mc ms : Nat} {RT : Int → jG → jH → Prop} {P : jK} {G : jG} {σ : jH} {cs ss : Nat} {x0 : Int} {x1 : Int} {x2 : Int} {x4 : Int} (h :
  (G.2.1 x0).1 = 20 ∧
  cN C.1 d m_Model_lineAt [vI x1, vI x2] G σ (fun (r1 : Int) (σ1 : jH) =>
  (G.2.1 (G.2.2 x0 1)).1 = 1 ∧ (0 : Int) ≤ r1 ∧ r1 < (G.2.1 (G.2.2 x0 1)).2 ∧
  (((σ1 (G.2.2 x0 1) r1) ≤ x4 →
    RT (-1) G σ1) ∧
  (x4 < (σ1 (G.2.2 x0 1) r1) →
    (G.2.1 x0).1 = 20 ∧
    cN C.1 d m_Model_byteOf [vR x0, vI x1, vI x2, vI x4] G σ1 (fun (r2 : Int) (σ2 : jH) =>
    cN C.1 d m_Model_isLetter [vI r2] G σ2 (fun (r3 : Int) (σ3 : jH) =>
    ((r3 = 0 →
      P 3 [some (vR x0), some (vI x1), some (vI x2), none, some (vI (w32 (x4 + 1)))] [] G σ3 cs ss) ∧
    (r3 ≠ 0 →
      RT x4 G σ3)))))))) :
  jwp C d mc ms RT k_Model_runFrom j0 q_Model_runFrom P 17 3 [some (vR x0), some (vI x1), some (vI x2), none, some (vI x4)] [] G σ cs ss := h

def q_Model_lineAt : List (Nat × List Bool) := []
set_option maxRecDepth 20000 in
theorem b_Model_lineAt_0 {C : jC} {d mc ms : Nat} {RT : Int → jG → jH → Prop} {P : jK} {G : jG} {σ : jH} {cs ss : Nat} {x0 : Int} {x1 : Int} (h :
  RT (w32 (2597 + (w32 (61 * (w32 ((w32 (40 * x0)) + x1)))))) G σ) :
  jwp C d mc ms RT k_Model_lineAt j0 q_Model_lineAt P 10 0 [some (vI x0), some (vI x1)] [] G σ cs ss := h

def q_Model_byteOf : List (Nat × List Bool) := []
set_option maxRecDepth 20000 in
theorem b_Model_byteOf_0 {C : jC} {d mc ms : Nat} {RT : Int → jG → jH → Prop} {P : jK} {G : jG} {σ : jH} {cs ss : Nat} {x0 : Int} {x1 : Int} {x2 : Int} {x3 : Int} (h :
  (G.2.1 x0).1 = 20 ∧
  cN C.1 d m_Model_lineAt [vI x1, vI x2] G σ (fun (r1 : Int) (σ1 : jH) =>
  (G.2.1 (G.2.2 x0 1)).1 = 1 ∧ (0 : Int) ≤ r1 ∧ r1 < (G.2.1 (G.2.2 x0 1)).2 ∧
  (((σ1 (G.2.2 x0 1) r1) ≤ x3 →
    RT (-1) G σ1) ∧
  (x3 < (σ1 (G.2.2 x0 1) r1) →
    (G.2.1 x0).1 = 20 ∧
    cN C.1 d m_Model_lineAt [vI x1, vI x2] G σ1 (fun (r2 : Int) (σ2 : jH) =>
    (G.2.1 (G.2.2 x0 1)).1 = 1 ∧ (0 : Int) ≤ (w32 ((w32 (r2 + 1)) + x3)) ∧ (w32 ((w32 (r2 + 1)) + x3)) < (G.2.1 (G.2.2 x0 1)).2 ∧
    RT (σ2 (G.2.2 x0 1) (w32 ((w32 (r2 + 1)) + x3))) G σ2))))) :
  jwp C d mc ms RT k_Model_byteOf j0 q_Model_byteOf P 20 0 [some (vR x0), some (vI x1), some (vI x2), some (vI x3)] [] G σ cs ss := h

def q_Model_isLetter : List (Nat × List Bool) := []
set_option maxRecDepth 20000 in
theorem b_Model_isLetter_0 {C : jC} {d mc ms : Nat} {RT : Int → jG → jH → Prop} {P : jK} {G : jG} {σ : jH} {cs ss : Nat} {x0 : Int} (h :
  ((x0 < 97 →
    ((0 : Int) = 0 ∨ (0 : Int) = 1) ∧ RT 0 G σ) ∧
  ((97 : Int) ≤ x0 →
    (((122 : Int) < x0 →
      ((0 : Int) = 0 ∨ (0 : Int) = 1) ∧ RT 0 G σ) ∧
    (x0 ≤ 122 →
      ((1 : Int) = 0 ∨ (1 : Int) = 1) ∧ RT 1 G σ))))) :
  jwp C d mc ms RT k_Model_isLetter j0 q_Model_isLetter P 9 0 [some (vI x0)] [] G σ cs ss := h

def q_Model_runEnd : List (Nat × List Bool) := [(3, [true, true, true, false, true])]
set_option maxRecDepth 20000 in
theorem b_Model_runEnd_0 {C : jC} {d mc ms : Nat} {RT : Int → jG → jH → Prop} {P : jK} {G : jG} {σ : jH} {cs ss : Nat} {x0 : Int} {x1 : Int} {x2 : Int} {x3 : Int} (h :
  P 3 [some (vR x0), some (vI x1), some (vI x2), none, some (vI x3)] [] G σ cs ss) :
  jwp C d mc ms RT k_Model_runEnd j0 q_Model_runEnd P 2 0 [some (vR x0), some (vI x1), some (vI x2), some (vI x3), none] [] G σ cs ss := h
set_option maxRecDepth 20000 in
theorem b_Model_runEnd_3 {C : jC} {d mc ms : Nat} {RT : Int → jG → jH → Prop} {P : jK} {G : jG} {σ : jH} {cs ss : Nat} {x0 : Int} {x1 : Int} {x2 : Int} {x4 : Int} (h :
  (G.2.1 x0).1 = 20 ∧
  cN C.1 d m_Model_byteOf [vR x0, vI x1, vI x2, vI x4] G σ (fun (r1 : Int) (σ1 : jH) =>
  cN C.1 d m_Model_isLetter [vI r1] G σ1 (fun (r2 : Int) (σ2 : jH) =>
  ((r2 = 0 →
    RT x4 G σ2) ∧
  (r2 ≠ 0 →
    P 3 [some (vR x0), some (vI x1), some (vI x2), none, some (vI (w32 (x4 + 1)))] [] G σ2 cs ss))))) :
  jwp C d mc ms RT k_Model_runEnd j0 q_Model_runEnd P 9 3 [some (vR x0), some (vI x1), some (vI x2), none, some (vI x4)] [] G σ cs ss := h

def q_Model_adds : List (Nat × List Bool) := []
set_option maxRecDepth 20000 in
theorem b_Model_adds_0 {C : jC} {d mc ms : Nat} {RT : Int → jG → jH → Prop} {P : jK} {G : jG} {σ : jH} {cs ss : Nat} {x0 : Int} {x1 : Int} {x2 : Int} (h :
  (G.2.1 x0).1 = 20 ∧
  (G.2.1 (G.2.2 x0 8)).1 = 1 ∧ (0 : Int) ≤ x1 ∧ x1 < (G.2.1 (G.2.2 x0 8)).2 ∧
  (((σ (G.2.2 x0 8) x1) ≠ 20 →
    (G.2.1 x0).1 = 20 ∧
    (G.2.1 (G.2.2 x0 8)).1 = 1 ∧ (0 : Int) ≤ x1 ∧ x1 < (G.2.1 (G.2.2 x0 8)).2 ∧
    (G.2.1 (G.2.2 x0 8)).1 = 1 ∧ (0 : Int) ≤ x1 ∧ x1 < (G.2.1 (G.2.2 x0 8)).2 ∧
    (G.2.1 x0).1 = 20 ∧
    (G.2.1 x0).1 = 20 ∧
    (G.2.1 (G.2.2 x0 8)).1 = 1 ∧ (0 : Int) ≤ x1 ∧ x1 < (G.2.1 (G.2.2 x0 8)).2 ∧
    (G.2.1 x0).1 = 20 ∧
    cN C.1 d m_Model_folded [vR x0, vI (w32 (x2 - 97))] G (ju σ (G.2.2 x0 8) x1 (w32 ((σ (G.2.2 x0 8) x1) + 1))) (fun (r1 : Int) (σ1 : jH) =>
    (G.2.1 (G.2.2 x0 8)).1 = 1 ∧ (0 : Int) ≤ (w32 (x1 + ((ju σ (G.2.2 x0 8) x1 (w32 ((σ (G.2.2 x0 8) x1) + 1))) (G.2.2 x0 8) x1))) ∧ (w32 (x1 + ((ju σ (G.2.2 x0 8) x1 (w32 ((σ (G.2.2 x0 8) x1) + 1))) (G.2.2 x0 8) x1))) < (G.2.1 (G.2.2 x0 8)).2 ∧
    RT 0 G (ju σ1 (G.2.2 x0 8) (w32 (x1 + ((ju σ (G.2.2 x0 8) x1 (w32 ((σ (G.2.2 x0 8) x1) + 1))) (G.2.2 x0 8) x1))) r1))) ∧
  ((σ (G.2.2 x0 8) x1) = 20 →
    RT 0 G σ))) :
  jwp C d mc ms RT k_Model_adds j0 q_Model_adds P 29 0 [some (vR x0), some (vI x1), some (vI x2)] [] G σ cs ss := h

def q_Model_folded : List (Nat × List Bool) := []
set_option maxRecDepth 20000 in
theorem b_Model_folded_0 {C : jC} {d mc ms : Nat} {RT : Int → jG → jH → Prop} {P : jK} {G : jG} {σ : jH} {cs ss : Nat} {x0 : Int} {x1 : Int} (h :
  (G.2.1 x0).1 = 20 ∧
  (G.2.1 (G.2.2 x0 1)).1 = 1 ∧ (0 : Int) ≤ (w32 (5 + x1)) ∧ (w32 (5 + x1)) < (G.2.1 (G.2.2 x0 1)).2 ∧
  (((σ (G.2.2 x0 1) (w32 (5 + x1))) ≠ (-1) →
    RT (σ (G.2.2 x0 1) (w32 (5 + x1))) G σ) ∧
  ((σ (G.2.2 x0 1) (w32 (5 + x1))) = (-1) →
    RT x1 G σ))) :
  jwp C d mc ms RT k_Model_folded j0 q_Model_folded P 13 0 [some (vR x0), some (vI x1), none] [] G σ cs ss := h

def q_Model_isCut : List (Nat × List Bool) := []
set_option maxRecDepth 20000 in
theorem b_Model_isCut_0 {C : jC} {d mc ms : Nat} {RT : Int → jG → jH → Prop} {P : jK} {G : jG} {σ : jH} {cs ss : Nat} {x0 : Int} {x1 : Int} {x2 : Int} {x3 : Int} (h :
  (G.2.1 x0).1 = 20 ∧
  cN C.1 d m_Model_byteOf [vR x0, vI x1, vI x2, vI x3] G σ (fun (r1 : Int) (σ1 : jH) =>
  ((r1 ≠ 45 →
    ((0 : Int) = 0 ∨ (0 : Int) = 1) ∧ RT 0 G σ1) ∧
  (r1 = 45 →
    (G.2.1 x0).1 = 20 ∧
    cN C.1 d m_Model_lineAt [vI x1, vI x2] G σ1 (fun (r2 : Int) (σ2 : jH) =>
    (G.2.1 (G.2.2 x0 1)).1 = 1 ∧ (0 : Int) ≤ r2 ∧ r2 < (G.2.1 (G.2.2 x0 1)).2 ∧
    ((x3 ≠ (w32 ((σ2 (G.2.2 x0 1) r2) - 1)) →
      ((0 : Int) = 0 ∨ (0 : Int) = 1) ∧ RT 0 G σ2) ∧
    (x3 = (w32 ((σ2 (G.2.2 x0 1) r2) - 1)) →
      (G.2.1 x0).1 = 20 ∧
      cN C.1 d m_Model_linesOf [vR x0, vI x1] G σ2 (fun (r3 : Int) (σ3 : jH) =>
      ((r3 ≤ (w32 (x2 + 1)) →
        ((0 : Int) = 0 ∨ (0 : Int) = 1) ∧ RT 0 G σ3) ∧
      ((w32 (x2 + 1)) < r3 →
        (G.2.1 x0).1 = 20 ∧
        cN C.1 d m_Model_runFrom [vR x0, vI x1, vI (w32 (x2 + 1)), vI 0] G σ3 (fun (r4 : Int) (σ4 : jH) =>
        ((r4 = (-1) →
          ((0 : Int) = 0 ∨ (0 : Int) = 1) ∧ RT 0 G σ4) ∧
        (r4 ≠ (-1) →
          ((1 : Int) = 0 ∨ (1 : Int) = 1) ∧ RT 1 G σ4))))))))))))) :
  jwp C d mc ms RT k_Model_isCut j0 q_Model_isCut P 36 0 [some (vR x0), some (vI x1), some (vI x2), some (vI x3)] [] G σ cs ss := h

def q_Model_comes : List (Nat × List Bool) := [(19, [true, true, true]), (76, [true, true, true])]
set_option maxRecDepth 20000 in
theorem b_Model_comes_0 {C : jC} {d mc ms : Nat} {RT : Int → jG → jH → Prop} {P : jK} {G : jG} {σ : jH} {cs ss : Nat} {x0 : Int} {x1 : Int} (h :
  (G.2.1 x0).1 = 20 ∧
  (G.2.1 x0).1 = 20 ∧
  cN C.1 d m_Model_find [vR x0, vR (G.2.2 x0 8), vI x1] G σ (fun (r1 : Int) (σ1 : jH) =>
  ((r1 = (-1) →
    (G.2.1 x0).1 = 20 ∧
    P 19 [some (vR x0), some (vI x1), some (vI (σ1 x0 10))] [] G σ1 cs ss) ∧
  (r1 ≠ (-1) →
    RT 0 G σ1)))) :
  jwp C d mc ms RT k_Model_comes j0 q_Model_comes P 10 0 [some (vR x0), some (vI x1), none] [] G σ cs ss := h
set_option maxRecDepth 20000 in
theorem b_Model_comes_19 {C : jC} {d mc ms : Nat} {RT : Int → jG → jH → Prop} {P : jK} {G : jG} {σ : jH} {cs ss : Nat} {x0 : Int} {x1 : Int} {x2 : Int} (h :
  ((x2 ≤ 0 →
    P 76 [some (vR x0), some (vI x1), some (vI x2)] [] G σ cs ss) ∧
  ((0 : Int) < x2 →
    (G.2.1 x0).1 = 20 ∧
    (G.2.1 x0).1 = 20 ∧
    (G.2.1 x0).1 = 20 ∧
    cN C.1 d m_Model_compare [vR (G.2.2 x0 8), vI x1, vR (G.2.2 x0 9), vI (w32 (21 * (w32 (x2 - 1)))), vR (G.2.2 x0 12), vI 0] G σ (fun (r1 : Int) (σ1 : jH) =>
    (((0 : Int) ≤ r1 →
      P 76 [some (vR x0), some (vI x1), some (vI x2)] [] G σ1 cs ss) ∧
    (r1 < 0 →
      (G.2.1 x0).1 = 20 ∧
      (G.2.1 x0).1 = 20 ∧
      cN C.1 d m_Model_copies [vR (G.2.2 x0 9), vI (w32 (21 * (w32 (x2 - 1)))), vR (G.2.2 x0 9), vI (w32 (21 * x2))] G σ1 (fun (r2 : Int) (σ2 : jH) =>
      P 19 [some (vR x0), some (vI x1), some (vI (w32 (x2 + (-1))))] [] G σ2 cs ss))))))) :
  jwp C d mc ms RT k_Model_comes j0 q_Model_comes P 32 19 [some (vR x0), some (vI x1), some (vI x2)] [] G σ cs ss := h
set_option maxRecDepth 20000 in
theorem b_Model_comes_76 {C : jC} {d mc ms : Nat} {RT : Int → jG → jH → Prop} {P : jK} {G : jG} {σ : jH} {cs ss : Nat} {x0 : Int} {x1 : Int} {x2 : Int} (h :
  (G.2.1 x0).1 = 20 ∧
  (G.2.1 x0).1 = 20 ∧
  cN C.1 d m_Model_copies [vR (G.2.2 x0 8), vI x1, vR (G.2.2 x0 9), vI (w32 (21 * x2))] G σ (fun (r1 : Int) (σ1 : jH) =>
  (G.2.1 x0).1 = 20 ∧
  (G.2.1 x0).1 = 20 ∧
  RT 0 G (ju σ1 x0 10 (w32 ((σ1 x0 10) + 1))))) :
  jwp C d mc ms RT k_Model_comes j0 q_Model_comes P 16 76 [some (vR x0), some (vI x1), some (vI x2)] [] G σ cs ss := h

def q_Model_find : List (Nat × List Bool) := [(10, [true, true, true, true, true, false, false])]
set_option maxRecDepth 20000 in
theorem b_Model_find_0 {C : jC} {d mc ms : Nat} {RT : Int → jG → jH → Prop} {P : jK} {G : jG} {σ : jH} {cs ss : Nat} {x0 : Int} {x1 : Int} {x2 : Int} (h :
  (G.2.1 x0).1 = 20 ∧
  P 10 [some (vR x0), some (vR x1), some (vI x2), some (vI 0), some (vI (w32 ((σ x0 10) - 1))), none, none] [] G σ cs ss) :
  jwp C d mc ms RT k_Model_find j0 q_Model_find P 7 0 [some (vR x0), some (vR x1), some (vI x2), none, none, none, none] [] G σ cs ss := h
set_option maxRecDepth 20000 in
theorem b_Model_find_10 {C : jC} {d mc ms : Nat} {RT : Int → jG → jH → Prop} {P : jK} {G : jG} {σ : jH} {cs ss : Nat} {x0 : Int} {x1 : Int} {x2 : Int} {x3 : Int} {x4 : Int} (h :
  ((x4 < x3 →
    RT (-1) G σ) ∧
  (x3 ≤ x4 →
    (2 : Int) ≠ 0 ∧
    (G.2.1 x0).1 = 20 ∧
    (G.2.1 x0).1 = 20 ∧
    cN C.1 d m_Model_compare [vR (G.2.2 x0 9), vI (w32 (21 * (w32 (Int.tdiv (w32 (x3 + x4)) 2)))), vR x1, vI x2, vR (G.2.2 x0 12), vI 0] G σ (fun (r1 : Int) (σ1 : jH) =>
    ((r1 ≠ 0 →
      (((0 : Int) ≤ r1 →
        P 10 [some (vR x0), some (vR x1), some (vI x2), some (vI x3), some (vI (w32 ((w32 (Int.tdiv (w32 (x3 + x4)) 2)) - 1))), none, none] [] G σ1 cs ss) ∧
      (r1 < 0 →
        P 10 [some (vR x0), some (vR x1), some (vI x2), some (vI (w32 ((w32 (Int.tdiv (w32 (x3 + x4)) 2)) + 1))), some (vI x4), none, none] [] G σ1 cs ss))) ∧
    (r1 = 0 →
      RT (w32 (Int.tdiv (w32 (x3 + x4)) 2)) G σ1)))))) :
  jwp C d mc ms RT k_Model_find j0 q_Model_find P 31 10 [some (vR x0), some (vR x1), some (vI x2), some (vI x3), some (vI x4), none, none] [] G σ cs ss := h

def q_Model_compare : List (Nat × List Bool) := [(3, [true, true, true, true, true, true, true, false])]
set_option maxRecDepth 20000 in
theorem b_Model_compare_0 {C : jC} {d mc ms : Nat} {RT : Int → jG → jH → Prop} {P : jK} {G : jG} {σ : jH} {cs ss : Nat} {x0 : Int} {x1 : Int} {x2 : Int} {x3 : Int} {x4 : Int} {x5 : Int} (h :
  P 3 [some (vR x0), some (vI x1), some (vR x2), some (vI x3), some (vR x4), some (vI x5), some (vI 1), none] [] G σ cs ss) :
  jwp C d mc ms RT k_Model_compare j0 q_Model_compare P 2 0 [some (vR x0), some (vI x1), some (vR x2), some (vI x3), some (vR x4), some (vI x5), none, none] [] G σ cs ss := h
set_option maxRecDepth 20000 in
theorem b_Model_compare_3 {C : jC} {d mc ms : Nat} {RT : Int → jG → jH → Prop} {P : jK} {G : jG} {σ : jH} {cs ss : Nat} {x0 : Int} {x1 : Int} {x2 : Int} {x3 : Int} {x4 : Int} {x5 : Int} {x6 : Int} (h :
  (G.2.1 x0).1 = 1 ∧ (0 : Int) ≤ x1 ∧ x1 < (G.2.1 x0).2 ∧
  (((σ x0 x1) < x6 →
    (G.2.1 x0).1 = 1 ∧ (0 : Int) ≤ x1 ∧ x1 < (G.2.1 x0).2 ∧
    (G.2.1 x2).1 = 1 ∧ (0 : Int) ≤ x3 ∧ x3 < (G.2.1 x2).2 ∧
    RT (w32 ((σ x0 x1) - (σ x2 x3))) G σ) ∧
  (x6 ≤ (σ x0 x1) →
    (G.2.1 x2).1 = 1 ∧ (0 : Int) ≤ x3 ∧ x3 < (G.2.1 x2).2 ∧
    (((σ x2 x3) < x6 →
      (G.2.1 x0).1 = 1 ∧ (0 : Int) ≤ x1 ∧ x1 < (G.2.1 x0).2 ∧
      (G.2.1 x2).1 = 1 ∧ (0 : Int) ≤ x3 ∧ x3 < (G.2.1 x2).2 ∧
      RT (w32 ((σ x0 x1) - (σ x2 x3))) G σ) ∧
    (x6 ≤ (σ x2 x3) →
      (G.2.1 x0).1 = 1 ∧ (0 : Int) ≤ (w32 (x1 + x6)) ∧ (w32 (x1 + x6)) < (G.2.1 x0).2 ∧
      (G.2.1 x4).1 = 1 ∧ (0 : Int) ≤ (w32 (x5 + (σ x0 (w32 (x1 + x6))))) ∧ (w32 (x5 + (σ x0 (w32 (x1 + x6))))) < (G.2.1 x4).2 ∧
      (G.2.1 x2).1 = 1 ∧ (0 : Int) ≤ (w32 (x3 + x6)) ∧ (w32 (x3 + x6)) < (G.2.1 x2).2 ∧
      (G.2.1 x4).1 = 1 ∧ (0 : Int) ≤ (w32 (x5 + (σ x2 (w32 (x3 + x6))))) ∧ (w32 (x5 + (σ x2 (w32 (x3 + x6))))) < (G.2.1 x4).2 ∧
      (((w32 ((σ x4 (w32 (x5 + (σ x0 (w32 (x1 + x6)))))) - (σ x4 (w32 (x5 + (σ x2 (w32 (x3 + x6)))))))) = 0 →
        P 3 [some (vR x0), some (vI x1), some (vR x2), some (vI x3), some (vR x4), some (vI x5), some (vI (w32 (x6 + 1))), none] [] G σ cs ss) ∧
      ((w32 ((σ x4 (w32 (x5 + (σ x0 (w32 (x1 + x6)))))) - (σ x4 (w32 (x5 + (σ x2 (w32 (x3 + x6)))))))) ≠ 0 →
        RT (w32 ((σ x4 (w32 (x5 + (σ x0 (w32 (x1 + x6)))))) - (σ x4 (w32 (x5 + (σ x2 (w32 (x3 + x6)))))))) G σ))))))) :
  jwp C d mc ms RT k_Model_compare j0 q_Model_compare P 34 3 [some (vR x0), some (vI x1), some (vR x2), some (vI x3), some (vR x4), some (vI x5), some (vI x6), none] [] G σ cs ss := h

def q_Model_copies : List (Nat × List Bool) := [(3, [true, true, true, true, true])]
set_option maxRecDepth 20000 in
theorem b_Model_copies_0 {C : jC} {d mc ms : Nat} {RT : Int → jG → jH → Prop} {P : jK} {G : jG} {σ : jH} {cs ss : Nat} {x0 : Int} {x1 : Int} {x2 : Int} {x3 : Int} (h :
  P 3 [some (vR x0), some (vI x1), some (vR x2), some (vI x3), some (vI 0)] [] G σ cs ss) :
  jwp C d mc ms RT k_Model_copies j0 q_Model_copies P 2 0 [some (vR x0), some (vI x1), some (vR x2), some (vI x3), none] [] G σ cs ss := h
set_option maxRecDepth 20000 in
theorem b_Model_copies_3 {C : jC} {d mc ms : Nat} {RT : Int → jG → jH → Prop} {P : jK} {G : jG} {σ : jH} {cs ss : Nat} {x0 : Int} {x1 : Int} {x2 : Int} {x3 : Int} {x4 : Int} (h :
  (((21 : Int) ≤ x4 →
    RT 0 G σ) ∧
  (x4 < 21 →
    (G.2.1 x0).1 = 1 ∧ (0 : Int) ≤ (w32 (x1 + x4)) ∧ (w32 (x1 + x4)) < (G.2.1 x0).2 ∧
    (G.2.1 x2).1 = 1 ∧ (0 : Int) ≤ (w32 (x3 + x4)) ∧ (w32 (x3 + x4)) < (G.2.1 x2).2 ∧
    P 3 [some (vR x0), some (vI x1), some (vR x2), some (vI x3), some (vI (w32 (x4 + 1)))] [] G (ju σ x2 (w32 (x3 + x4)) (σ x0 (w32 (x1 + x4)))) cs ss))) :
  jwp C d mc ms RT k_Model_copies j0 q_Model_copies P 15 3 [some (vR x0), some (vI x1), some (vR x2), some (vI x3), some (vI x4)] [] G σ cs ss := h

def q_Model_keep : List (Nat × List Bool) := [(17, [true, true, true])]
set_option maxRecDepth 20000 in
theorem b_Model_keep_0 {C : jC} {d mc ms : Nat} {RT : Int → jG → jH → Prop} {P : jK} {G : jG} {σ : jH} {cs ss : Nat} {x0 : Int} {x1 : Int} (h :
  cN C.1 d m_Model_in [vL x1, vL 0, vL 2] G σ (fun (r1 : Int) (σ1 : jH) =>
  ((r1 ≠ 0 →
    P 17 [some (vR x0), some (vI x1), some (vI 0)] [] G σ1 cs ss) ∧
  (r1 = 0 →
    RT (-2) G σ1)))) :
  jwp C d mc ms RT k_Model_keep j0 q_Model_keep P 8 0 [some (vR x0), some (vI x1), none] [] G σ cs ss := h
set_option maxRecDepth 20000 in
theorem b_Model_keep_17 {C : jC} {d mc ms : Nat} {RT : Int → jG → jH → Prop} {P : jK} {G : jG} {σ : jH} {cs ss : Nat} {x0 : Int} {x1 : Int} {x2 : Int} (h :
  (((32677 : Int) ≤ x2 →
    (G.2.1 x0).1 = 20 ∧
    (G.2.1 (G.2.2 x0 3)).1 = 3 ∧ (0 : Int) ≤ x1 ∧ x1 < (G.2.1 (G.2.2 x0 3)).2 ∧
    ((1 : Int) = 0 ∨ (1 : Int) = 1) ∧
    RT 0 G (ju σ (G.2.2 x0 3) x1 1)) ∧
  (x2 < 32677 →
    (G.2.1 x0).1 = 20 ∧
    (G.2.1 x0).1 = 20 ∧
    (G.2.1 (G.2.2 x0 1)).1 = 1 ∧ (0 : Int) ≤ x2 ∧ x2 < (G.2.1 (G.2.2 x0 1)).2 ∧
    (G.2.1 (G.2.2 x0 2)).1 = 1 ∧ (0 : Int) ≤ (w32 ((w32 (32677 * x1)) + x2)) ∧ (w32 ((w32 (32677 * x1)) + x2)) < (G.2.1 (G.2.2 x0 2)).2 ∧
    P 17 [some (vR x0), some (vI x1), some (vI (w32 (x2 + 1)))] [] G (ju σ (G.2.2 x0 2) (w32 ((w32 (32677 * x1)) + x2)) (σ (G.2.2 x0 1) x2)) cs ss))) :
  jwp C d mc ms RT k_Model_keep j0 q_Model_keep P 17 17 [some (vR x0), some (vI x1), some (vI x2)] [] G σ cs ss := h

def q_Model_in : List (Nat × List Bool) := []
set_option maxRecDepth 20000 in
theorem b_Model_in_0 {C : jC} {d mc ms : Nat} {RT : Int → jG → jH → Prop} {P : jK} {G : jG} {σ : jH} {cs ss : Nat} {x0 : Int} {x2 : Int} {x4 : Int} (h :
  (((jcmp x0 x2) < 0 →
    ((0 : Int) = 0 ∨ (0 : Int) = 1) ∧ RT 0 G σ) ∧
  ((0 : Int) ≤ (jcmp x0 x2) →
    (((0 : Int) < (jcmp x0 x4) →
      ((0 : Int) = 0 ∨ (0 : Int) = 1) ∧ RT 0 G σ) ∧
    ((jcmp x0 x4) ≤ 0 →
      ((1 : Int) = 0 ∨ (1 : Int) = 1) ∧ RT 1 G σ))))) :
  jwp C d mc ms RT k_Model_in j0 q_Model_in P 11 0 [some (vL x0), none, some (vL x2), none, some (vL x4), none] [] G σ cs ss := h

def q_Model_back : List (Nat × List Bool) := [(29, [true, true, true])]
set_option maxRecDepth 20000 in
theorem b_Model_back_0 {C : jC} {d mc ms : Nat} {RT : Int → jG → jH → Prop} {P : jK} {G : jG} {σ : jH} {cs ss : Nat} {x0 : Int} {x1 : Int} (h :
  cN C.1 d m_Model_in [vL x1, vL 0, vL 2] G σ (fun (r1 : Int) (σ1 : jH) =>
  ((r1 ≠ 0 →
    (G.2.1 x0).1 = 20 ∧
    (G.2.1 (G.2.2 x0 3)).1 = 3 ∧ (0 : Int) ≤ x1 ∧ x1 < (G.2.1 (G.2.2 x0 3)).2 ∧
    (((σ1 (G.2.2 x0 3) x1) ≠ 0 →
      P 29 [some (vR x0), some (vI x1), some (vI 0)] [] G σ1 cs ss) ∧
    ((σ1 (G.2.2 x0 3) x1) = 0 →
      RT (-6) G σ1))) ∧
  (r1 = 0 →
    RT (-2) G σ1)))) :
  jwp C d mc ms RT k_Model_back j0 q_Model_back P 13 0 [some (vR x0), some (vI x1), none] [] G σ cs ss := h
set_option maxRecDepth 20000 in
theorem b_Model_back_29 {C : jC} {d mc ms : Nat} {RT : Int → jG → jH → Prop} {P : jK} {G : jG} {σ : jH} {cs ss : Nat} {x0 : Int} {x1 : Int} {x2 : Int} (h :
  (((32677 : Int) ≤ x2 →
    (G.2.1 x0).1 = 20 ∧
    cN C.1 d m_Model_makes [vR x0] G σ (fun (r1 : Int) (σ1 : jH) =>
    RT 0 G σ1)) ∧
  (x2 < 32677 →
    (G.2.1 x0).1 = 20 ∧
    (G.2.1 x0).1 = 20 ∧
    (G.2.1 (G.2.2 x0 2)).1 = 1 ∧ (0 : Int) ≤ (w32 ((w32 (32677 * x1)) + x2)) ∧ (w32 ((w32 (32677 * x1)) + x2)) < (G.2.1 (G.2.2 x0 2)).2 ∧
    (G.2.1 (G.2.2 x0 1)).1 = 1 ∧ (0 : Int) ≤ x2 ∧ x2 < (G.2.1 (G.2.2 x0 1)).2 ∧
    P 29 [some (vR x0), some (vI x1), some (vI (w32 (x2 + 1)))] [] G (ju σ (G.2.2 x0 1) x2 (σ (G.2.2 x0 2) (w32 ((w32 (32677 * x1)) + x2)))) cs ss))) :
  jwp C d mc ms RT k_Model_back j0 q_Model_back P 17 29 [some (vR x0), some (vI x1), some (vI x2)] [] G σ cs ss := h

def q_Model_feed : List (Nat × List Bool) := [(55, [true, false, false, false, false, false, true])]
set_option maxRecDepth 20000 in
theorem b_Model_feed_0 {C : jC} {d mc ms : Nat} {RT : Int → jG → jH → Prop} {P : jK} {G : jG} {σ : jH} {cs ss : Nat} {x0 : Int} {x1 : Int} {x2 : Int} {x3 : Int} {x4 : Int} {x5 : Int} (h :
  (G.2.1 x0).1 = 20 ∧
  (((w32 ((σ x0 15) + 20)) ≤ 400 →
    (G.2.1 x0).1 = 20 ∧
    (G.2.1 (G.2.2 x0 16)).1 = 1 ∧ (0 : Int) ≤ 0 ∧ 0 < (G.2.1 (G.2.2 x0 16)).2 ∧
    (G.2.1 x0).1 = 20 ∧
    (G.2.1 (G.2.2 x0 16)).1 = 1 ∧ (0 : Int) ≤ 1 ∧ 1 < (G.2.1 (G.2.2 x0 16)).2 ∧
    (G.2.1 x0).1 = 20 ∧
    (G.2.1 (G.2.2 x0 16)).1 = 1 ∧ (0 : Int) ≤ 2 ∧ 2 < (G.2.1 (G.2.2 x0 16)).2 ∧
    (G.2.1 x0).1 = 20 ∧
    (G.2.1 (G.2.2 x0 16)).1 = 1 ∧ (0 : Int) ≤ 3 ∧ 3 < (G.2.1 (G.2.2 x0 16)).2 ∧
    (G.2.1 x0).1 = 20 ∧
    (G.2.1 (G.2.2 x0 16)).1 = 1 ∧ (0 : Int) ≤ 4 ∧ 4 < (G.2.1 (G.2.2 x0 16)).2 ∧
    P 55 [some (vR x0), none, none, none, none, none, some (vI 0)] [] G (ju (ju (ju (ju (ju σ (G.2.2 x0 16) 0 x1) (G.2.2 x0 16) 1 x2) (G.2.2 x0 16) 2 x3) (G.2.2 x0 16) 3 x4) (G.2.2 x0 16) 4 x5) cs ss) ∧
  ((400 : Int) < (w32 ((σ x0 15) + 20)) →
    RT (-1) G σ))) :
  jwp C d mc ms RT k_Model_feed j0 q_Model_feed P 33 0 [some (vR x0), some (vI x1), some (vI x2), some (vI x3), some (vI x4), some (vI x5), none] [] G σ cs ss := h
set_option maxRecDepth 20000 in
theorem b_Model_feed_55 {C : jC} {d mc ms : Nat} {RT : Int → jG → jH → Prop} {P : jK} {G : jG} {σ : jH} {cs ss : Nat} {x0 : Int} {x6 : Int} (h :
  (((20 : Int) ≤ x6 →
    (G.2.1 x0).1 = 20 ∧
    (G.2.1 x0).1 = 20 ∧
    (G.2.1 x0).1 = 20 ∧
    RT ((ju σ x0 15 (w32 ((σ x0 15) + 20))) x0 15) G (ju σ x0 15 (w32 ((σ x0 15) + 20)))) ∧
  (x6 < 20 →
    (G.2.1 x0).1 = 20 ∧
    (G.2.1 x0).1 = 20 ∧
    (G.2.1 x0).1 = 20 ∧
    (4 : Int) ≠ 0 ∧
    (G.2.1 (G.2.2 x0 16)).1 = 1 ∧ (0 : Int) ≤ (w32 (Int.tdiv x6 4)) ∧ (w32 (Int.tdiv x6 4)) < (G.2.1 (G.2.2 x0 16)).2 ∧
    (4 : Int) ≠ 0 ∧
    (G.2.1 (G.2.2 x0 14)).1 = 2 ∧ (0 : Int) ≤ (w32 ((σ x0 15) + x6)) ∧ (w32 ((σ x0 15) + x6)) < (G.2.1 (G.2.2 x0 14)).2 ∧
    P 55 [some (vR x0), none, none, none, none, none, some (vI (w32 (x6 + 1)))] [] G (ju σ (G.2.2 x0 14) (w32 ((σ x0 15) + x6)) (w8 (w8 (jshr32 (σ (G.2.2 x0 16) (w32 (Int.tdiv x6 4))) (w32 (24 - (w32 (8 * (Int.tmod x6 4))))))))) cs ss))) :
  jwp C d mc ms RT k_Model_feed j0 q_Model_feed P 27 55 [some (vR x0), none, none, none, none, none, some (vI x6)] [] G σ cs ss := h

def q_Model_end : List (Nat × List Bool) := []
set_option maxRecDepth 20000 in
theorem b_Model_end_0 {C : jC} {d mc ms : Nat} {RT : Int → jG → jH → Prop} {P : jK} {G : jG} {σ : jH} {cs ss : Nat} {x0 : Int} {x1 : Int} (h :
  (G.2.1 x0).1 = 20 ∧
  cN C.1 d m_Model_in [vL x1, vL 0, vL (σ x0 15)] G σ (fun (r1 : Int) (σ1 : jH) =>
  ((r1 ≠ 0 →
    (G.2.1 x0).1 = 20 ∧
    RT x1 G (ju σ1 x0 15 x1)) ∧
  (r1 = 0 →
    RT (-1) G σ1)))) :
  jwp C d mc ms RT k_Model_end j0 q_Model_end P 13 0 [some (vR x0), some (vI x1)] [] G σ cs ss := h

def q_Model_fault : List (Nat × List Bool) := []
set_option maxRecDepth 20000 in
theorem b_Model_fault_0 {C : jC} {d mc ms : Nat} {RT : Int → jG → jH → Prop} {P : jK} {G : jG} {σ : jH} {cs ss : Nat} {x0 : Int} {x1 : Int} (h :
  ((x1 ≠ 0 →
    ((x1 ≠ 1 →
      RT (-1) G σ) ∧
    (x1 = 1 →
      (G.2.1 x0).1 = 20 ∧
      RT (σ x0 23) G σ))) ∧
  (x1 = 0 →
    (G.2.1 x0).1 = 20 ∧
    RT (σ x0 22) G σ))) :
  jwp C d mc ms RT k_Model_fault j0 q_Model_fault P 9 0 [some (vR x0), some (vI x1)] [] G σ cs ss := h

def q_Model_rules : List (Nat × List Bool) := [(16, [true, false]), (37, [true, false]), (49, [true, true])]
set_option maxRecDepth 20000 in
theorem b_Model_rules_0 {C : jC} {d mc ms : Nat} {RT : Int → jG → jH → Prop} {P : jK} {G : jG} {σ : jH} {cs ss : Nat} {x0 : Int} (h :
  (G.2.1 x0).1 = 20 ∧
  cN C.1 d m_Model_begin [vR x0] G σ (fun (r1 : Int) (σ1 : jH) =>
  (G.2.1 x0).1 = 20 ∧
  cN C.1 d m_Model_plain [vR (G.2.2 x0 24)] G σ1 (fun (r2 : Int) (σ2 : jH) =>
  (G.2.1 x0).1 = 20 ∧
  ((0 : Int) = 0 ∨ (0 : Int) = 1) ∧
  P 16 [some (vR x0), none] [] G (ju σ2 x0 25 0) cs ss))) :
  jwp C d mc ms RT k_Model_rules j0 q_Model_rules P 8 0 [some (vR x0), none] [] G σ cs ss := h
set_option maxRecDepth 20000 in
theorem b_Model_rules_16 {C : jC} {d mc ms : Nat} {RT : Int → jG → jH → Prop} {P : jK} {G : jG} {σ : jH} {cs ss : Nat} {x0 : Int} (h :
  (G.2.1 x0).1 = 20 ∧
  cN C.1 d m_Model_good [vR x0] G σ (fun (r1 : Int) (σ1 : jH) =>
  ((r1 = 0 →
    P 37 [some (vR x0), none] [] G σ1 cs ss) ∧
  (r1 ≠ 0 →
    (G.2.1 x0).1 = 20 ∧
    (((σ1 x0 20) = 0 →
      P 37 [some (vR x0), none] [] G σ1 cs ss) ∧
    ((σ1 x0 20) ≠ 0 →
      (G.2.1 x0).1 = 20 ∧
      cN C.1 d m_Model_readRule [vR x0] G σ1 (fun (r2 : Int) (σ2 : jH) =>
      P 16 [some (vR x0), none] [] G σ2 cs ss))))))) :
  jwp C d mc ms RT k_Model_rules j0 q_Model_rules P 9 16 [some (vR x0), none] [] G σ cs ss := h
set_option maxRecDepth 20000 in
theorem b_Model_rules_37 {C : jC} {d mc ms : Nat} {RT : Int → jG → jH → Prop} {P : jK} {G : jG} {σ : jH} {cs ss : Nat} {x0 : Int} (h :
  (G.2.1 x0).1 = 20 ∧
  cN C.1 d m_Model_good [vR x0] G σ (fun (r1 : Int) (σ1 : jH) =>
  ((r1 ≠ 0 →
    P 49 [some (vR x0), some (vI 0)] [] G σ1 cs ss) ∧
  (r1 = 0 →
    RT (-4) G σ1)))) :
  jwp C d mc ms RT k_Model_rules j0 q_Model_rules P 5 37 [some (vR x0), none] [] G σ cs ss := h
set_option maxRecDepth 20000 in
theorem b_Model_rules_49 {C : jC} {d mc ms : Nat} {RT : Int → jG → jH → Prop} {P : jK} {G : jG} {σ : jH} {cs ss : Nat} {x0 : Int} {x1 : Int} (h :
  (((2597 : Int) ≤ x1 →
    (G.2.1 x0).1 = 20 ∧
    cN C.1 d m_Model_makes [vR x0] G σ (fun (r1 : Int) (σ1 : jH) =>
    (G.2.1 x0).1 = 20 ∧
    (G.2.1 (G.2.2 x0 1)).1 = 1 ∧ (0 : Int) ≤ 0 ∧ 0 < (G.2.1 (G.2.2 x0 1)).2 ∧
    RT (σ1 (G.2.2 x0 1) 0) G σ1)) ∧
  (x1 < 2597 →
    (G.2.1 x0).1 = 20 ∧
    ((x1 < 3 →
      (G.2.1 x0).1 = 20 ∧
      (G.2.1 (G.2.2 x0 24)).1 = 1 ∧ (0 : Int) ≤ x1 ∧ x1 < (G.2.1 (G.2.2 x0 24)).2 ∧
      (G.2.1 (G.2.2 x0 1)).1 = 1 ∧ (0 : Int) ≤ x1 ∧ x1 < (G.2.1 (G.2.2 x0 1)).2 ∧
      P 49 [some (vR x0), some (vI (w32 (x1 + 1)))] [] G (ju σ (G.2.2 x0 1) x1 (σ (G.2.2 x0 24) x1)) cs ss) ∧
    ((3 : Int) ≤ x1 →
      (((5 : Int) ≤ x1 →
        (G.2.1 x0).1 = 20 ∧
        (G.2.1 (G.2.2 x0 24)).1 = 1 ∧ (0 : Int) ≤ x1 ∧ x1 < (G.2.1 (G.2.2 x0 24)).2 ∧
        (G.2.1 (G.2.2 x0 1)).1 = 1 ∧ (0 : Int) ≤ x1 ∧ x1 < (G.2.1 (G.2.2 x0 1)).2 ∧
        P 49 [some (vR x0), some (vI (w32 (x1 + 1)))] [] G (ju σ (G.2.2 x0 1) x1 (σ (G.2.2 x0 24) x1)) cs ss) ∧
      (x1 < 5 →
        (G.2.1 x0).1 = 20 ∧
        (G.2.1 (G.2.2 x0 1)).1 = 1 ∧ (0 : Int) ≤ x1 ∧ x1 < (G.2.1 (G.2.2 x0 1)).2 ∧
        (G.2.1 (G.2.2 x0 1)).1 = 1 ∧ (0 : Int) ≤ x1 ∧ x1 < (G.2.1 (G.2.2 x0 1)).2 ∧
        P 49 [some (vR x0), some (vI (w32 (x1 + 1)))] [] G (ju σ (G.2.2 x0 1) x1 (σ (G.2.2 x0 1) x1)) cs ss))))))) :
  jwp C d mc ms RT k_Model_rules j0 q_Model_rules P 20 49 [some (vR x0), some (vI x1)] [] G σ cs ss := h

def q_Model_begin : List (Nat × List Bool) := []
set_option maxRecDepth 20000 in
theorem b_Model_begin_0 {C : jC} {d mc ms : Nat} {RT : Int → jG → jH → Prop} {P : jK} {G : jG} {σ : jH} {cs ss : Nat} {x0 : Int} (h :
  (G.2.1 x0).1 = 20 ∧
  (G.2.1 x0).1 = 20 ∧
  (G.2.1 x0).1 = 20 ∧
  (G.2.1 x0).1 = 20 ∧
  (G.2.1 x0).1 = 20 ∧
  (G.2.1 x0).1 = 20 ∧
  (G.2.1 x0).1 = 20 ∧
  cN C.1 d m_Model_step [vR x0] G (ju (ju (ju (ju (ju σ x0 17 (σ x0 15)) x0 15 0) x0 18 0) x0 22 0) x0 23 (-1)) (fun (r1 : Int) (σ1 : jH) =>
  RT 0 G σ1)) :
  jwp C d mc ms RT k_Model_begin j0 q_Model_begin P 19 0 [some (vR x0)] [] G σ cs ss := h

def q_Model_step : List (Nat × List Bool) := [(0, [true, false]), (76, [true, false]), (130, [true, false])]
set_option maxRecDepth 20000 in
theorem b_Model_step_0 {C : jC} {d mc ms : Nat} {RT : Int → jG → jH → Prop} {P : jK} {G : jG} {σ : jH} {cs ss : Nat} {x0 : Int} (h :
  (G.2.1 x0).1 = 20 ∧
  (G.2.1 x0).1 = 20 ∧
  cN C.1 d m_Model_see [vR x0, vI (σ x0 18)] G σ (fun (r1 : Int) (σ1 : jH) =>
  ((r1 = 32 →
    (G.2.1 x0).1 = 20 ∧
    (G.2.1 x0).1 = 20 ∧
    P 0 [some (vR x0), none] [] G (ju σ1 x0 18 (w32 ((σ1 x0 18) + 1))) cs ss) ∧
  (r1 ≠ 32 →
    (G.2.1 x0).1 = 20 ∧
    (G.2.1 x0).1 = 20 ∧
    cN C.1 d m_Model_see [vR x0, vI (σ1 x0 18)] G σ1 (fun (r2 : Int) (σ2 : jH) =>
    ((r2 ≠ 10 →
      (G.2.1 x0).1 = 20 ∧
      (G.2.1 x0).1 = 20 ∧
      (G.2.1 x0).1 = 20 ∧
      (G.2.1 x0).1 = 20 ∧
      cN C.1 d m_Model_see [vR x0, vI ((ju σ2 x0 19 (σ2 x0 18)) x0 18)] G (ju σ2 x0 19 (σ2 x0 18)) (fun (r3 : Int) (σ3 : jH) =>
      ((r3 ≠ (-1) →
        cN C.1 d m_Model_isLetter [vI r3] G σ3 (fun (r4 : Int) (σ4 : jH) =>
        ((r4 = 0 →
          cN C.1 d m_Model_in [vL r3, vL 48, vL 57] G σ4 (fun (r5 : Int) (σ5 : jH) =>
          ((r5 = 0 →
            (G.2.1 x0).1 = 20 ∧
            ((r3 = 59 →
              (G.2.1 x0).1 = 20 ∧
              (G.2.1 x0).1 = 20 ∧
              (G.2.1 x0).1 = 20 ∧
              RT 0 G (ju (ju (ju σ5 x0 21 r3) x0 20 3) x0 18 (w32 (((ju (ju σ5 x0 21 r3) x0 20 3) x0 18) + 1)))) ∧
            (r3 ≠ 59 →
              ((r3 = 40 →
                (G.2.1 x0).1 = 20 ∧
                (G.2.1 x0).1 = 20 ∧
                (G.2.1 x0).1 = 20 ∧
                RT 0 G (ju (ju (ju σ5 x0 21 r3) x0 20 3) x0 18 (w32 (((ju (ju σ5 x0 21 r3) x0 20 3) x0 18) + 1)))) ∧
              (r3 ≠ 40 →
                ((r3 = 41 →
                  (G.2.1 x0).1 = 20 ∧
                  (G.2.1 x0).1 = 20 ∧
                  (G.2.1 x0).1 = 20 ∧
                  RT 0 G (ju (ju (ju σ5 x0 21 r3) x0 20 3) x0 18 (w32 (((ju (ju σ5 x0 21 r3) x0 20 3) x0 18) + 1)))) ∧
                (r3 ≠ 41 →
                  ((r3 ≠ 34 →
                    (G.2.1 x0).1 = 20 ∧
                    (G.2.1 x0).1 = 20 ∧
                    (G.2.1 x0).1 = 20 ∧
                    RT 0 G (ju (ju (ju σ5 x0 21 r3) x0 20 4) x0 18 (w32 (((ju (ju σ5 x0 21 r3) x0 20 4) x0 18) + 1)))) ∧
                  (r3 = 34 →
                    (G.2.1 x0).1 = 20 ∧
                    (G.2.1 x0).1 = 20 ∧
                    (G.2.1 x0).1 = 20 ∧
                    RT 0 G (ju (ju (ju σ5 x0 21 r3) x0 20 3) x0 18 (w32 (((ju (ju σ5 x0 21 r3) x0 20 3) x0 18) + 1)))))))))))) ∧
          (r5 ≠ 0 →
            (G.2.1 x0).1 = 20 ∧
            P 130 [some (vR x0), none] [] G (ju σ5 x0 21 0) cs ss)))) ∧
        (r4 ≠ 0 →
          P 76 [some (vR x0), none] [] G σ4 cs ss)))) ∧
      (r3 = (-1) →
        (G.2.1 x0).1 = 20 ∧
        RT 0 G (ju σ3 x0 20 0))))) ∧
    (r2 = 10 →
      (G.2.1 x0).1 = 20 ∧
      (G.2.1 x0).1 = 20 ∧
      P 0 [some (vR x0), none] [] G (ju σ2 x0 18 (w32 ((σ2 x0 18) + 1))) cs ss))))))) :
  jwp C d mc ms RT k_Model_step j0 q_Model_step P 59 0 [some (vR x0), none] [] G σ cs ss := h
set_option maxRecDepth 20000 in
theorem b_Model_step_76 {C : jC} {d mc ms : Nat} {RT : Int → jG → jH → Prop} {P : jK} {G : jG} {σ : jH} {cs ss : Nat} {x0 : Int} (h :
  (G.2.1 x0).1 = 20 ∧
  (G.2.1 x0).1 = 20 ∧
  cN C.1 d m_Model_see [vR x0, vI (σ x0 18)] G σ (fun (r1 : Int) (σ1 : jH) =>
  cN C.1 d m_Model_isLetter [vI r1] G σ1 (fun (r2 : Int) (σ2 : jH) =>
  ((r2 = 0 →
    (G.2.1 x0).1 = 20 ∧
    RT 0 G (ju σ2 x0 20 1)) ∧
  (r2 ≠ 0 →
    (G.2.1 x0).1 = 20 ∧
    (G.2.1 x0).1 = 20 ∧
    P 76 [some (vR x0), none] [] G (ju σ2 x0 18 (w32 ((σ2 x0 18) + 1))) cs ss))))) :
  jwp C d mc ms RT k_Model_step j0 q_Model_step P 13 76 [some (vR x0), none] [] G σ cs ss := h
set_option maxRecDepth 20000 in
theorem b_Model_step_130 {C : jC} {d mc ms : Nat} {RT : Int → jG → jH → Prop} {P : jK} {G : jG} {σ : jH} {cs ss : Nat} {x0 : Int} (h :
  (G.2.1 x0).1 = 20 ∧
  (G.2.1 x0).1 = 20 ∧
  cN C.1 d m_Model_see [vR x0, vI (σ x0 18)] G σ (fun (r1 : Int) (σ1 : jH) =>
  cN C.1 d m_Model_in [vL r1, vL 48, vL 57] G σ1 (fun (r2 : Int) (σ2 : jH) =>
  ((r2 = 0 →
    (G.2.1 x0).1 = 20 ∧
    RT 0 G (ju σ2 x0 20 2)) ∧
  (r2 ≠ 0 →
    (G.2.1 x0).1 = 20 ∧
    (G.2.1 x0).1 = 20 ∧
    (G.2.1 x0).1 = 20 ∧
    cN C.1 d m_Model_see [vR x0, vI (σ2 x0 18)] G σ2 (fun (r3 : Int) (σ3 : jH) =>
    1 ≤ d ∧
    (G.2.1 x0).1 = 20 ∧
    (G.2.1 x0).1 = 20 ∧
    (G.2.1 x0).1 = 20 ∧
    P 130 [some (vR x0), none] [] G (ju (ju σ3 x0 21 (min 9999 (w32 ((w32 ((w32 (10 * (σ2 x0 21))) + r3)) - 48)))) x0 18 (w32 (((ju σ3 x0 21 (min 9999 (w32 ((w32 ((w32 (10 * (σ2 x0 21))) + r3)) - 48)))) x0 18) + 1))) cs ss)))))) :
  jwp C d mc ms RT k_Model_step j0 q_Model_step P 31 130 [some (vR x0), none] [] G σ cs ss := h

def q_Model_see : List (Nat × List Bool) := []
set_option maxRecDepth 20000 in
theorem b_Model_see_0 {C : jC} {d mc ms : Nat} {RT : Int → jG → jH → Prop} {P : jK} {G : jG} {σ : jH} {cs ss : Nat} {x0 : Int} {x1 : Int} (h :
  (G.2.1 x0).1 = 20 ∧
  (((σ x0 17) ≤ x1 →
    RT (-1) G σ) ∧
  (x1 < (σ x0 17) →
    (G.2.1 x0).1 = 20 ∧
    (G.2.1 (G.2.2 x0 14)).1 = 2 ∧ (0 : Int) ≤ x1 ∧ x1 < (G.2.1 (G.2.2 x0 14)).2 ∧
    RT (jand32 (σ (G.2.2 x0 14) x1) 255) G σ))) :
  jwp C d mc ms RT k_Model_see j0 q_Model_see P 12 0 [some (vR x0), some (vI x1)] [] G σ cs ss := h

def q_Model_good : List (Nat × List Bool) := []
set_option maxRecDepth 20000 in
theorem b_Model_good_0 {C : jC} {d mc ms : Nat} {RT : Int → jG → jH → Prop} {P : jK} {G : jG} {σ : jH} {cs ss : Nat} {x0 : Int} (h :
  (G.2.1 x0).1 = 20 ∧
  (((σ x0 22) ≠ 0 →
    ((0 : Int) = 0 ∨ (0 : Int) = 1) ∧ RT 0 G σ) ∧
  ((σ x0 22) = 0 →
    ((1 : Int) = 0 ∨ (1 : Int) = 1) ∧ RT 1 G σ))) :
  jwp C d mc ms RT k_Model_good j0 q_Model_good P 6 0 [some (vR x0)] [] G σ cs ss := h

def q_Model_readRule : List (Nat × List Bool) := [(45, [true, false]), (83, [true, false]), (99, [true, false])]
set_option maxRecDepth 20000 in
theorem b_Model_readRule_0 {C : jC} {d mc ms : Nat} {RT : Int → jG → jH → Prop} {P : jK} {G : jG} {σ : jH} {cs ss : Nat} {x0 : Int} (h :
  (G.2.1 x0).1 = 20 ∧
  cN C.1 d m_Model_is [vR x0, vT 0] G σ (fun (r1 : Int) (σ1 : jH) =>
  ((r1 ≠ 0 →
    P 45 [some (vR x0), none] [vI 1] G σ1 cs ss) ∧
  (r1 = 0 →
    (G.2.1 x0).1 = 20 ∧
    cN C.1 d m_Model_is [vR x0, vT 2] G σ1 (fun (r2 : Int) (σ2 : jH) =>
    ((r2 ≠ 0 →
      P 45 [some (vR x0), none] [vI 1] G σ2 cs ss) ∧
    (r2 = 0 →
      (G.2.1 x0).1 = 20 ∧
      cN C.1 d m_Model_is [vR x0, vT 3] G σ2 (fun (r3 : Int) (σ3 : jH) =>
      ((r3 ≠ 0 →
        P 45 [some (vR x0), none] [vI 1] G σ3 cs ss) ∧
      (r3 = 0 →
        (G.2.1 x0).1 = 20 ∧
        cN C.1 d m_Model_is [vR x0, vT 5] G σ3 (fun (r4 : Int) (σ4 : jH) =>
        ((r4 = 0 →
          P 45 [some (vR x0), none] [vI 0] G σ4 cs ss) ∧
        (r4 ≠ 0 →
          P 45 [some (vR x0), none] [vI 1] G σ4 cs ss))))))))))))) :
  jwp C d mc ms RT k_Model_readRule j0 q_Model_readRule P 18 0 [some (vR x0), none] [] G σ cs ss := h
set_option maxRecDepth 20000 in
theorem b_Model_readRule_45 {C : jC} {d mc ms : Nat} {RT : Int → jG → jH → Prop} {P : jK} {G : jG} {σ : jH} {cs ss : Nat} {x0 : Int} {s0 : Int} (h :
  ((s0 ≠ 0 →
    (G.2.1 x0).1 = 20 ∧
    cN C.1 d m_Model_is [vR x0, vT 5] G σ (fun (r1 : Int) (σ1 : jH) =>
    ((r1 = 0 →
      P 83 [some (vR x0), none] [] G σ1 cs ss) ∧
    (r1 ≠ 0 →
      (G.2.1 x0).1 = 20 ∧
      (((σ1 x0 25) = 0 →
        P 83 [some (vR x0), none] [] G σ1 cs ss) ∧
      ((σ1 x0 25) ≠ 0 →
        (G.2.1 x0).1 = 20 ∧
        cN C.1 d m_Model_wrong [vR x0, vI 2] G σ1 (fun (r2 : Int) (σ2 : jH) =>
        P 99 [some (vR x0), none] [] G σ2 cs ss))))))) ∧
  (s0 = 0 →
    (G.2.1 x0).1 = 20 ∧
    cN C.1 d m_Model_wrong [vR x0, vI 1] G σ (fun (r3 : Int) (σ3 : jH) =>
    P 99 [some (vR x0), none] [] G σ3 cs ss)))) :
  jwp C d mc ms RT k_Model_readRule j0 q_Model_readRule P 14 45 [some (vR x0), none] [vI s0] G σ cs ss := h
set_option maxRecDepth 20000 in
theorem b_Model_readRule_83 {C : jC} {d mc ms : Nat} {RT : Int → jG → jH → Prop} {P : jK} {G : jG} {σ : jH} {cs ss : Nat} {x0 : Int} (h :
  (G.2.1 x0).1 = 20 ∧
  (G.2.1 (G.2.2 x0 24)).1 = 1 ∧ (0 : Int) ≤ 0 ∧ 0 < (G.2.1 (G.2.2 x0 24)).2 ∧
  (((σ (G.2.2 x0 24) 0) ≠ 20 →
    P 99 [some (vR x0), none] [] G σ cs ss) ∧
  ((σ (G.2.2 x0 24) 0) = 20 →
    (G.2.1 x0).1 = 20 ∧
    cN C.1 d m_Model_wrong [vR x0, vI 3] G σ (fun (r1 : Int) (σ1 : jH) =>
    P 99 [some (vR x0), none] [] G σ1 cs ss)))) :
  jwp C d mc ms RT k_Model_readRule j0 q_Model_readRule P 9 83 [some (vR x0), none] [] G σ cs ss := h
set_option maxRecDepth 20000 in
theorem b_Model_readRule_99 {C : jC} {d mc ms : Nat} {RT : Int → jG → jH → Prop} {P : jK} {G : jG} {σ : jH} {cs ss : Nat} {x0 : Int} (h :
  (G.2.1 x0).1 = 20 ∧
  cN C.1 d m_Model_good [vR x0] G σ (fun (r1 : Int) (σ1 : jH) =>
  ((r1 ≠ 0 →
    (G.2.1 x0).1 = 20 ∧
    (G.2.1 (G.2.2 x0 24)).1 = 1 ∧ (0 : Int) ≤ 0 ∧ 0 < (G.2.1 (G.2.2 x0 24)).2 ∧
    (G.2.1 (G.2.2 x0 24)).1 = 1 ∧ (0 : Int) ≤ 0 ∧ 0 < (G.2.1 (G.2.2 x0 24)).2 ∧
    (G.2.1 x0).1 = 20 ∧
    cN C.1 d m_Model_takes [vR x0, vT 0] G (ju σ1 (G.2.2 x0 24) 0 (w32 ((σ1 (G.2.2 x0 24) 0) + 1))) (fun (r2 : Int) (σ2 : jH) =>
    ((r2 = 0 →
      (G.2.1 x0).1 = 20 ∧
      cN C.1 d m_Model_takes [vR x0, vT 3] G σ2 (fun (r3 : Int) (σ3 : jH) =>
      ((r3 = 0 →
        (G.2.1 x0).1 = 20 ∧
        cN C.1 d m_Model_takes [vR x0, vT 5] G σ3 (fun (r4 : Int) (σ4 : jH) =>
        ((r4 = 0 →
          (G.2.1 x0).1 = 20 ∧
          cN C.1 d m_Model_step [vR x0] G σ4 (fun (r5 : Int) (σ5 : jH) =>
          (G.2.1 x0).1 = 20 ∧
          (G.2.1 x0).1 = 20 ∧
          (G.2.1 (G.2.2 x0 24)).1 = 1 ∧ (0 : Int) ≤ 1 ∧ 1 < (G.2.1 (G.2.2 x0 24)).2 ∧
          (G.2.1 x0).1 = 20 ∧
          cN C.1 d m_Model_wordTo [vR x0, vR (G.2.2 x0 24), vI (w32 (57 + (w32 (21 * (σ5 (G.2.2 x0 24) 1)))))] G σ5 (fun (r6 : Int) (σ6 : jH) =>
          (G.2.1 x0).1 = 20 ∧
          cN C.1 d m_Model_good [vR x0] G σ6 (fun (r7 : Int) (σ7 : jH) =>
          ((r7 = 0 →
            (G.2.1 x0).1 = 20 ∧
            cN C.1 d m_Model_needsSign [vR x0, vI 59] G σ7 (fun (r8 : Int) (σ8 : jH) =>
            RT 0 G σ8)) ∧
          (r7 ≠ 0 →
            (G.2.1 x0).1 = 20 ∧
            (G.2.1 (G.2.2 x0 24)).1 = 1 ∧ (0 : Int) ≤ 1 ∧ 1 < (G.2.1 (G.2.2 x0 24)).2 ∧
            (G.2.1 (G.2.2 x0 24)).1 = 1 ∧ (0 : Int) ≤ 1 ∧ 1 < (G.2.1 (G.2.2 x0 24)).2 ∧
            (G.2.1 x0).1 = 20 ∧
            cN C.1 d m_Model_needsSign [vR x0, vI 59] G (ju σ7 (G.2.2 x0 24) 1 (w32 ((σ7 (G.2.2 x0 24) 1) + 1))) (fun (r9 : Int) (σ9 : jH) =>
            RT 0 G σ9))))))) ∧
        (r4 ≠ 0 →
          (G.2.1 x0).1 = 20 ∧
          cN C.1 d m_Model_readOrder [vR x0] G σ4 (fun (r10 : Int) (σ10 : jH) =>
          (G.2.1 x0).1 = 20 ∧
          cN C.1 d m_Model_needsSign [vR x0, vI 59] G σ10 (fun (r11 : Int) (σ11 : jH) =>
          RT 0 G σ11)))))) ∧
      (r3 ≠ 0 →
        (G.2.1 x0).1 = 20 ∧
        cN C.1 d m_Model_readRoot [vR x0] G σ3 (fun (r12 : Int) (σ12 : jH) =>
        (G.2.1 x0).1 = 20 ∧
        cN C.1 d m_Model_needsSign [vR x0, vI 59] G σ12 (fun (r13 : Int) (σ13 : jH) =>
        RT 0 G σ13)))))) ∧
    (r2 ≠ 0 →
      (G.2.1 x0).1 = 20 ∧
      cN C.1 d m_Model_readFold [vR x0] G σ2 (fun (r14 : Int) (σ14 : jH) =>
      (G.2.1 x0).1 = 20 ∧
      cN C.1 d m_Model_needsSign [vR x0, vI 59] G σ14 (fun (r15 : Int) (σ15 : jH) =>
      RT 0 G σ15)))))) ∧
  (r1 = 0 →
    RT 0 G σ1)))) :
  jwp C d mc ms RT k_Model_readRule j0 q_Model_readRule P 52 99 [some (vR x0), none] [] G σ cs ss := h

def q_Model_is : List (Nat × List Bool) := [(39, [true, true, true, true])]
set_option maxRecDepth 20000 in
theorem b_Model_is_0 {C : jC} {d mc ms : Nat} {RT : Int → jG → jH → Prop} {P : jK} {G : jG} {σ : jH} {cs ss : Nat} {x0 : Int} {x1 : Nat} (h :
  (G.2.1 x0).1 = 20 ∧
  cN C.1 d m_Model_good [vR x0] G σ (fun (r1 : Int) (σ1 : jH) =>
  ((r1 = 0 →
    P 39 [some (vR x0), some (vT x1), some (vI 0), some (vI 0)] [] G σ1 cs ss) ∧
  (r1 ≠ 0 →
    (G.2.1 x0).1 = 20 ∧
    (((σ1 x0 20) ≠ 1 →
      P 39 [some (vR x0), some (vT x1), some (vI 0), some (vI 0)] [] G σ1 cs ss) ∧
    ((σ1 x0 20) = 1 →
      (G.2.1 x0).1 = 20 ∧
      (G.2.1 x0).1 = 20 ∧
      x1 < jtxs.length ∧ 9 ≤ d ∧
      (((w32 ((σ1 x0 18) - (σ1 x0 19))) ≠ (((jtb x1).length : Nat) : Int) →
        P 39 [some (vR x0), some (vT x1), some (vI 0), some (vI 0)] [] G σ1 cs ss) ∧
      ((w32 ((σ1 x0 18) - (σ1 x0 19))) = (((jtb x1).length : Nat) : Int) →
        P 39 [some (vR x0), some (vT x1), some (vI 1), some (vI 0)] [] G σ1 cs ss)))))))) :
  jwp C d mc ms RT k_Model_is j0 q_Model_is P 20 0 [some (vR x0), some (vT x1), none, none] [] G σ cs ss := h
set_option maxRecDepth 20000 in
theorem b_Model_is_39 {C : jC} {d mc ms : Nat} {RT : Int → jG → jH → Prop} {P : jK} {G : jG} {σ : jH} {cs ss : Nat} {x0 : Int} {x1 : Nat} {x2 : Int} {x3 : Int} (h :
  x1 < jtxs.length ∧ 9 ≤ d ∧
  (((((jtb x1).length : Nat) : Int) ≤ x3 →
    (x2 = 0 ∨ x2 = 1) ∧ RT x2 G σ) ∧
  (x3 < (((jtb x1).length : Nat) : Int) →
    ((x2 = 0 →
      (x2 = 0 ∨ x2 = 1) ∧ RT x2 G σ) ∧
    (x2 ≠ 0 →
      (G.2.1 x0).1 = 20 ∧
      (G.2.1 x0).1 = 20 ∧
      (G.2.1 (G.2.2 x0 14)).1 = 2 ∧ (0 : Int) ≤ (w32 ((σ x0 19) + x3)) ∧ (w32 ((σ x0 19) + x3)) < (G.2.1 (G.2.2 x0 14)).2 ∧
      9 ≤ d ∧ 0 ≤ x3 ∧ x3 < (((jtb x1).length : Nat) : Int) ∧
      (((σ (G.2.2 x0 14) (w32 ((σ x0 19) + x3))) ≠ ((((jtb x1).getD (Int.toNat x3) 0) : Nat) : Int) →
        P 39 [some (vR x0), some (vT x1), some (vI 0), some (vI (w32 (x3 + 1)))] [] G σ cs ss) ∧
      ((σ (G.2.2 x0 14) (w32 ((σ x0 19) + x3))) = ((((jtb x1).getD (Int.toNat x3) 0) : Nat) : Int) →
        P 39 [some (vR x0), some (vT x1), some (vI 1), some (vI (w32 (x3 + 1)))] [] G σ cs ss))))))) :
  jwp C d mc ms RT k_Model_is j0 q_Model_is P 22 39 [some (vR x0), some (vT x1), some (vI x2), some (vI x3)] [] G σ cs ss := h

def q_Model_wrong : List (Nat × List Bool) := []
set_option maxRecDepth 20000 in
theorem b_Model_wrong_0 {C : jC} {d mc ms : Nat} {RT : Int → jG → jH → Prop} {P : jK} {G : jG} {σ : jH} {cs ss : Nat} {x0 : Int} {x1 : Int} (h :
  (G.2.1 x0).1 = 20 ∧
  cN C.1 d m_Model_good [vR x0] G σ (fun (r1 : Int) (σ1 : jH) =>
  ((r1 ≠ 0 →
    (G.2.1 x0).1 = 20 ∧
    (G.2.1 x0).1 = 20 ∧
    (G.2.1 x0).1 = 20 ∧
    RT 0 G (ju (ju σ1 x0 22 x1) x0 23 ((ju σ1 x0 22 x1) x0 19))) ∧
  (r1 = 0 →
    RT 0 G σ1)))) :
  jwp C d mc ms RT k_Model_wrong j0 q_Model_wrong P 11 0 [some (vR x0), some (vI x1)] [] G σ cs ss := h

def q_Model_takes : List (Nat × List Bool) := []
set_option maxRecDepth 20000 in
theorem b_Model_takes_0 {C : jC} {d mc ms : Nat} {RT : Int → jG → jH → Prop} {P : jK} {G : jG} {σ : jH} {cs ss : Nat} {x0 : Int} {x1 : Nat} (h :
  (G.2.1 x0).1 = 20 ∧
  cN C.1 d m_Model_is [vR x0, vT x1] G σ (fun (r1 : Int) (σ1 : jH) =>
  ((r1 = 0 →
    (r1 = 0 ∨ r1 = 1) ∧ RT r1 G σ1) ∧
  (r1 ≠ 0 →
    (G.2.1 x0).1 = 20 ∧
    cN C.1 d m_Model_step [vR x0] G σ1 (fun (r2 : Int) (σ2 : jH) =>
    (r1 = 0 ∨ r1 = 1) ∧ RT r1 G σ2))))) :
  jwp C d mc ms RT k_Model_takes j0 q_Model_takes P 10 0 [some (vR x0), some (vT x1), none] [] G σ cs ss := h

def q_Model_readFold : List (Nat × List Bool) := [(35, [true, true, false]), (69, [true, true, true])]
set_option maxRecDepth 20000 in
theorem b_Model_readFold_0 {C : jC} {d mc ms : Nat} {RT : Int → jG → jH → Prop} {P : jK} {G : jG} {σ : jH} {cs ss : Nat} {x0 : Int} (h :
  (G.2.1 x0).1 = 20 ∧
  cN C.1 d m_Model_letterHere [vR x0] G σ (fun (r1 : Int) (σ1 : jH) =>
  ((r1 ≠ (-1) →
    (G.2.1 x0).1 = 20 ∧
    (G.2.1 (G.2.2 x0 24)).1 = 1 ∧ (0 : Int) ≤ (w32 (5 + r1)) ∧ (w32 (5 + r1)) < (G.2.1 (G.2.2 x0 24)).2 ∧
    (((σ1 (G.2.2 x0 24) (w32 (5 + r1))) = (-1) →
      P 35 [some (vR x0), some (vI r1), none] [] G σ1 cs ss) ∧
    ((σ1 (G.2.2 x0 24) (w32 (5 + r1))) ≠ (-1) →
      (G.2.1 x0).1 = 20 ∧
      cN C.1 d m_Model_wrong [vR x0, vI 2] G σ1 (fun (r2 : Int) (σ2 : jH) =>
      P 35 [some (vR x0), some (vI r1), none] [] G σ2 cs ss)))) ∧
  (r1 = (-1) →
    (G.2.1 x0).1 = 20 ∧
    cN C.1 d m_Model_wrong [vR x0, vI 1] G σ1 (fun (r3 : Int) (σ3 : jH) =>
    P 35 [some (vR x0), some (vI r1), none] [] G σ3 cs ss))))) :
  jwp C d mc ms RT k_Model_readFold j0 q_Model_readFold P 17 0 [some (vR x0), none, none] [] G σ cs ss := h
set_option maxRecDepth 20000 in
theorem b_Model_readFold_35 {C : jC} {d mc ms : Nat} {RT : Int → jG → jH → Prop} {P : jK} {G : jG} {σ : jH} {cs ss : Nat} {x0 : Int} {x1 : Int} (h :
  (G.2.1 x0).1 = 20 ∧
  cN C.1 d m_Model_good [vR x0] G σ (fun (r1 : Int) (σ1 : jH) =>
  ((r1 ≠ 0 →
    (G.2.1 x0).1 = 20 ∧
    cN C.1 d m_Model_step [vR x0] G σ1 (fun (r2 : Int) (σ2 : jH) =>
    (G.2.1 x0).1 = 20 ∧
    cN C.1 d m_Model_needs [vR x0, vT 1] G σ2 (fun (r3 : Int) (σ3 : jH) =>
    (G.2.1 x0).1 = 20 ∧
    cN C.1 d m_Model_letterHere [vR x0] G σ3 (fun (r4 : Int) (σ4 : jH) =>
    ((r4 ≠ (-1) →
      P 69 [some (vR x0), some (vI x1), some (vI r4)] [] G σ4 cs ss) ∧
    (r4 = (-1) →
      (G.2.1 x0).1 = 20 ∧
      cN C.1 d m_Model_wrong [vR x0, vI 1] G σ4 (fun (r5 : Int) (σ5 : jH) =>
      P 69 [some (vR x0), some (vI x1), some (vI r4)] [] G σ5 cs ss))))))) ∧
  (r1 = 0 →
    RT 0 G σ1)))) :
  jwp C d mc ms RT k_Model_readFold j0 q_Model_readFold P 17 35 [some (vR x0), some (vI x1), none] [] G σ cs ss := h
set_option maxRecDepth 20000 in
theorem b_Model_readFold_69 {C : jC} {d mc ms : Nat} {RT : Int → jG → jH → Prop} {P : jK} {G : jG} {σ : jH} {cs ss : Nat} {x0 : Int} {x1 : Int} {x2 : Int} (h :
  (G.2.1 x0).1 = 20 ∧
  cN C.1 d m_Model_good [vR x0] G σ (fun (r1 : Int) (σ1 : jH) =>
  ((r1 ≠ 0 →
    (G.2.1 x0).1 = 20 ∧
    (G.2.1 (G.2.2 x0 24)).1 = 1 ∧ (0 : Int) ≤ (w32 (5 + x1)) ∧ (w32 (5 + x1)) < (G.2.1 (G.2.2 x0 24)).2 ∧
    (G.2.1 x0).1 = 20 ∧
    cN C.1 d m_Model_step [vR x0] G (ju σ1 (G.2.2 x0 24) (w32 (5 + x1)) x2) (fun (r2 : Int) (σ2 : jH) =>
    RT 0 G σ2)) ∧
  (r1 = 0 →
    RT 0 G σ1)))) :
  jwp C d mc ms RT k_Model_readFold j0 q_Model_readFold P 13 69 [some (vR x0), some (vI x1), some (vI x2)] [] G σ cs ss := h

def q_Model_letterHere : List (Nat × List Bool) := []
set_option maxRecDepth 20000 in
theorem b_Model_letterHere_0 {C : jC} {d mc ms : Nat} {RT : Int → jG → jH → Prop} {P : jK} {G : jG} {σ : jH} {cs ss : Nat} {x0 : Int} (h :
  (G.2.1 x0).1 = 20 ∧
  cN C.1 d m_Model_good [vR x0] G σ (fun (r1 : Int) (σ1 : jH) =>
  ((r1 = 0 →
    RT (-1) G σ1) ∧
  (r1 ≠ 0 →
    (G.2.1 x0).1 = 20 ∧
    (((σ1 x0 20) ≠ 1 →
      RT (-1) G σ1) ∧
    ((σ1 x0 20) = 1 →
      (G.2.1 x0).1 = 20 ∧
      (G.2.1 x0).1 = 20 ∧
      (((w32 ((σ1 x0 18) - (σ1 x0 19))) ≠ 1 →
        RT (-1) G σ1) ∧
      ((w32 ((σ1 x0 18) - (σ1 x0 19))) = 1 →
        (G.2.1 x0).1 = 20 ∧
        (G.2.1 x0).1 = 20 ∧
        (G.2.1 (G.2.2 x0 14)).1 = 2 ∧ (0 : Int) ≤ (σ1 x0 19) ∧ (σ1 x0 19) < (G.2.1 (G.2.2 x0 14)).2 ∧
        RT (w32 ((σ1 (G.2.2 x0 14) (σ1 x0 19)) - 97)) G σ1)))))))) :
  jwp C d mc ms RT k_Model_letterHere j0 q_Model_letterHere P 23 0 [some (vR x0)] [] G σ cs ss := h

def q_Model_needs : List (Nat × List Bool) := []
set_option maxRecDepth 20000 in
theorem b_Model_needs_0 {C : jC} {d mc ms : Nat} {RT : Int → jG → jH → Prop} {P : jK} {G : jG} {σ : jH} {cs ss : Nat} {x0 : Int} {x1 : Nat} (h :
  (G.2.1 x0).1 = 20 ∧
  cN C.1 d m_Model_takes [vR x0, vT x1] G σ (fun (r1 : Int) (σ1 : jH) =>
  ((r1 ≠ 0 →
    RT 0 G σ1) ∧
  (r1 = 0 →
    (G.2.1 x0).1 = 20 ∧
    cN C.1 d m_Model_wrong [vR x0, vI 1] G σ1 (fun (r2 : Int) (σ2 : jH) =>
    RT 0 G σ2))))) :
  jwp C d mc ms RT k_Model_needs j0 q_Model_needs P 8 0 [some (vR x0), some (vT x1)] [] G σ cs ss := h

def q_Model_readRoot : List (Nat × List Bool) := [(34, [true, true, true]), (59, [true, true, true]), (82, [true, true, true]), (100, [true, true, true])]
set_option maxRecDepth 20000 in
theorem b_Model_readRoot_0 {C : jC} {d mc ms : Nat} {RT : Int → jG → jH → Prop} {P : jK} {G : jG} {σ : jH} {cs ss : Nat} {x0 : Int} (h :
  (G.2.1 x0).1 = 20 ∧
  (G.2.1 (G.2.2 x0 24)).1 = 1 ∧ (0 : Int) ≤ 2 ∧ 2 < (G.2.1 (G.2.2 x0 24)).2 ∧
  (G.2.1 x0).1 = 20 ∧
  (G.2.1 x0).1 = 20 ∧
  cN C.1 d m_Model_wordTo [vR x0, vR (G.2.2 x0 24), vI (w32 ((w32 (477 + (w32 (106 * (σ (G.2.2 x0 24) 2))))) + 1))] G σ (fun (r1 : Int) (σ1 : jH) =>
  (G.2.1 x0).1 = 20 ∧
  cN C.1 d m_Model_needs [vR x0, vT 4] G σ1 (fun (r2 : Int) (σ2 : jH) =>
  P 34 [some (vR x0), some (vI (w32 (477 + (w32 (106 * (σ (G.2.2 x0 24) 2)))))), some (vI 1)] [] G σ2 cs ss))) :
  jwp C d mc ms RT k_Model_readRoot j0 q_Model_readRoot P 21 0 [some (vR x0), none, none] [] G σ cs ss := h
set_option maxRecDepth 20000 in
theorem b_Model_readRoot_34 {C : jC} {d mc ms : Nat} {RT : Int → jG → jH → Prop} {P : jK} {G : jG} {σ : jH} {cs ss : Nat} {x0 : Int} {x1 : Int} {x2 : Int} (h :
  (G.2.1 x0).1 = 20 ∧
  cN C.1 d m_Model_good [vR x0] G σ (fun (r1 : Int) (σ1 : jH) =>
  ((r1 = 0 →
    P 59 [some (vR x0), some (vI x1), some (vI x2)] [] G σ1 cs ss) ∧
  (r1 ≠ 0 →
    (G.2.1 x0).1 = 20 ∧
    (((σ1 x0 20) ≠ 1 →
      P 59 [some (vR x0), some (vI x1), some (vI x2)] [] G σ1 cs ss) ∧
    ((σ1 x0 20) = 1 →
      ((x2 ≠ 5 →
        P 59 [some (vR x0), some (vI x1), some (vI x2)] [] G σ1 cs ss) ∧
      (x2 = 5 →
        (G.2.1 x0).1 = 20 ∧
        cN C.1 d m_Model_wrong [vR x0, vI 3] G σ1 (fun (r2 : Int) (σ2 : jH) =>
        P 59 [some (vR x0), some (vI x1), some (vI x2)] [] G σ2 cs ss))))))))) :
  jwp C d mc ms RT k_Model_readRoot j0 q_Model_readRoot P 13 34 [some (vR x0), some (vI x1), some (vI x2)] [] G σ cs ss := h
set_option maxRecDepth 20000 in
theorem b_Model_readRoot_59 {C : jC} {d mc ms : Nat} {RT : Int → jG → jH → Prop} {P : jK} {G : jG} {σ : jH} {cs ss : Nat} {x0 : Int} {x1 : Int} {x2 : Int} (h :
  (G.2.1 x0).1 = 20 ∧
  cN C.1 d m_Model_good [vR x0] G σ (fun (r1 : Int) (σ1 : jH) =>
  ((r1 = 0 →
    P 82 [some (vR x0), some (vI x1), some (vI x2)] [] G σ1 cs ss) ∧
  (r1 ≠ 0 →
    (G.2.1 x0).1 = 20 ∧
    (G.2.1 x0).1 = 20 ∧
    cN C.1 d m_Model_wordTo [vR x0, vR (G.2.2 x0 24), vI (w32 ((w32 (x1 + 1)) + (w32 (21 * x2))))] G σ1 (fun (r2 : Int) (σ2 : jH) =>
    P 82 [some (vR x0), some (vI x1), some (vI x2)] [] G σ2 cs ss))))) :
  jwp C d mc ms RT k_Model_readRoot j0 q_Model_readRoot P 14 59 [some (vR x0), some (vI x1), some (vI x2)] [] G σ cs ss := h
set_option maxRecDepth 20000 in
theorem b_Model_readRoot_82 {C : jC} {d mc ms : Nat} {RT : Int → jG → jH → Prop} {P : jK} {G : jG} {σ : jH} {cs ss : Nat} {x0 : Int} {x1 : Int} {x2 : Int} (h :
  (G.2.1 x0).1 = 20 ∧
  cN C.1 d m_Model_good [vR x0] G σ (fun (r1 : Int) (σ1 : jH) =>
  ((r1 = 0 →
    P 100 [some (vR x0), some (vI x1), some (vI (w32 (x2 + 1)))] [] G σ1 cs ss) ∧
  (r1 ≠ 0 →
    (G.2.1 x0).1 = 20 ∧
    (((σ1 x0 20) = 1 →
      P 34 [some (vR x0), some (vI x1), some (vI (w32 (x2 + 1)))] [] G σ1 cs ss) ∧
    ((σ1 x0 20) ≠ 1 →
      P 100 [some (vR x0), some (vI x1), some (vI (w32 (x2 + 1)))] [] G σ1 cs ss)))))) :
  jwp C d mc ms RT k_Model_readRoot j0 q_Model_readRoot P 8 82 [some (vR x0), some (vI x1), some (vI x2)] [] G σ cs ss := h
set_option maxRecDepth 20000 in
theorem b_Model_readRoot_100 {C : jC} {d mc ms : Nat} {RT : Int → jG → jH → Prop} {P : jK} {G : jG} {σ : jH} {cs ss : Nat} {x0 : Int} {x1 : Int} {x2 : Int} (h :
  (G.2.1 x0).1 = 20 ∧
  (G.2.1 (G.2.2 x0 24)).1 = 1 ∧ (0 : Int) ≤ x1 ∧ x1 < (G.2.1 (G.2.2 x0 24)).2 ∧
  (G.2.1 x0).1 = 20 ∧
  cN C.1 d m_Model_good [vR x0] G (ju σ (G.2.2 x0 24) x1 x2) (fun (r1 : Int) (σ1 : jH) =>
  ((r1 = 0 →
    RT 0 G σ1) ∧
  (r1 ≠ 0 →
    (G.2.1 x0).1 = 20 ∧
    (G.2.1 (G.2.2 x0 24)).1 = 1 ∧ (0 : Int) ≤ 2 ∧ 2 < (G.2.1 (G.2.2 x0 24)).2 ∧
    (G.2.1 (G.2.2 x0 24)).1 = 1 ∧ (0 : Int) ≤ 2 ∧ 2 < (G.2.1 (G.2.2 x0 24)).2 ∧
    RT 0 G (ju σ1 (G.2.2 x0 24) 2 (w32 ((σ1 (G.2.2 x0 24) 2) + 1))))))) :
  jwp C d mc ms RT k_Model_readRoot j0 q_Model_readRoot P 17 100 [some (vR x0), some (vI x1), some (vI x2)] [] G σ cs ss := h

def q_Model_wordTo : List (Nat × List Bool) := [(13, [true, true, true, false]), (40, [true, true, true, true])]
set_option maxRecDepth 20000 in
theorem b_Model_wordTo_0 {C : jC} {d mc ms : Nat} {RT : Int → jG → jH → Prop} {P : jK} {G : jG} {σ : jH} {cs ss : Nat} {x0 : Int} {x1 : Int} {x2 : Int} (h :
  (G.2.1 x0).1 = 20 ∧
  (((σ x0 20) = 1 →
    P 13 [some (vR x0), some (vR x1), some (vI x2), none] [] G σ cs ss) ∧
  ((σ x0 20) ≠ 1 →
    (G.2.1 x0).1 = 20 ∧
    cN C.1 d m_Model_wrong [vR x0, vI 1] G σ (fun (r1 : Int) (σ1 : jH) =>
    P 13 [some (vR x0), some (vR x1), some (vI x2), none] [] G σ1 cs ss)))) :
  jwp C d mc ms RT k_Model_wordTo j0 q_Model_wordTo P 7 0 [some (vR x0), some (vR x1), some (vI x2), none] [] G σ cs ss := h
set_option maxRecDepth 20000 in
theorem b_Model_wordTo_13 {C : jC} {d mc ms : Nat} {RT : Int → jG → jH → Prop} {P : jK} {G : jG} {σ : jH} {cs ss : Nat} {x0 : Int} {x1 : Int} {x2 : Int} (h :
  (G.2.1 x0).1 = 20 ∧
  cN C.1 d m_Model_good [vR x0] G σ (fun (r1 : Int) (σ1 : jH) =>
  ((r1 ≠ 0 →
    (G.2.1 x0).1 = 20 ∧
    (G.2.1 x0).1 = 20 ∧
    1 ≤ d ∧
    (G.2.1 x1).1 = 1 ∧ (0 : Int) ≤ x2 ∧ x2 < (G.2.1 x1).2 ∧
    P 40 [some (vR x0), some (vR x1), some (vI x2), some (vI 1)] [] G (ju σ1 x1 x2 (min 20 (w32 ((σ1 x0 18) - (σ1 x0 19))))) cs ss) ∧
  (r1 = 0 →
    RT 0 G σ1)))) :
  jwp C d mc ms RT k_Model_wordTo j0 q_Model_wordTo P 15 13 [some (vR x0), some (vR x1), some (vI x2), none] [] G σ cs ss := h
set_option maxRecDepth 20000 in
theorem b_Model_wordTo_40 {C : jC} {d mc ms : Nat} {RT : Int → jG → jH → Prop} {P : jK} {G : jG} {σ : jH} {cs ss : Nat} {x0 : Int} {x1 : Int} {x2 : Int} {x3 : Int} (h :
  (G.2.1 x1).1 = 1 ∧ (0 : Int) ≤ x2 ∧ x2 < (G.2.1 x1).2 ∧
  (((σ x1 x2) < x3 →
    (G.2.1 x0).1 = 20 ∧
    cN C.1 d m_Model_step [vR x0] G σ (fun (r1 : Int) (σ1 : jH) =>
    RT 0 G σ1)) ∧
  (x3 ≤ (σ x1 x2) →
    (G.2.1 x0).1 = 20 ∧
    (G.2.1 x0).1 = 20 ∧
    (G.2.1 (G.2.2 x0 14)).1 = 2 ∧ (0 : Int) ≤ (w32 ((w32 ((σ x0 19) + x3)) - 1)) ∧ (w32 ((w32 ((σ x0 19) + x3)) - 1)) < (G.2.1 (G.2.2 x0 14)).2 ∧
    (G.2.1 x1).1 = 1 ∧ (0 : Int) ≤ (w32 (x2 + x3)) ∧ (w32 (x2 + x3)) < (G.2.1 x1).2 ∧
    P 40 [some (vR x0), some (vR x1), some (vI x2), some (vI (w32 (x3 + 1)))] [] G (ju σ x1 (w32 (x2 + x3)) (w32 ((σ (G.2.2 x0 14) (w32 ((w32 ((σ x0 19) + x3)) - 1))) - 97))) cs ss))) :
  jwp C d mc ms RT k_Model_wordTo j0 q_Model_wordTo P 23 40 [some (vR x0), some (vR x1), some (vI x2), some (vI x3)] [] G σ cs ss := h

def q_Model_readOrder : List (Nat × List Bool) := [(15, [true, true, false, false]), (44, [true, true, true, false]), (119, [true, true, true, false])]
set_option maxRecDepth 20000 in
theorem b_Model_readOrder_0 {C : jC} {d mc ms : Nat} {RT : Int → jG → jH → Prop} {P : jK} {G : jG} {σ : jH} {cs ss : Nat} {x0 : Int} (h :
  (G.2.1 x0).1 = 20 ∧
  (((σ x0 20) = 1 →
    P 15 [some (vR x0), some (vI 0), none, none] [] G σ cs ss) ∧
  ((σ x0 20) ≠ 1 →
    (G.2.1 x0).1 = 20 ∧
    cN C.1 d m_Model_wrong [vR x0, vI 1] G σ (fun (r1 : Int) (σ1 : jH) =>
    P 15 [some (vR x0), some (vI 0), none, none] [] G σ1 cs ss)))) :
  jwp C d mc ms RT k_Model_readOrder j0 q_Model_readOrder P 9 0 [some (vR x0), none, none, none] [] G σ cs ss := h
set_option maxRecDepth 20000 in
theorem b_Model_readOrder_15 {C : jC} {d mc ms : Nat} {RT : Int → jG → jH → Prop} {P : jK} {G : jG} {σ : jH} {cs ss : Nat} {x0 : Int} {x1 : Int} (h :
  (((26 : Int) ≤ x1 →
    (G.2.1 x0).1 = 20 ∧
    P 44 [some (vR x0), some (vI 0), some (vI (σ x0 19)), none] [] G σ cs ss) ∧
  (x1 < 26 →
    (G.2.1 x0).1 = 20 ∧
    (G.2.1 (G.2.2 x0 24)).1 = 1 ∧ (0 : Int) ≤ (w32 (31 + x1)) ∧ (w32 (31 + x1)) < (G.2.1 (G.2.2 x0 24)).2 ∧
    P 15 [some (vR x0), some (vI (w32 (x1 + 1))), none, none] [] G (ju σ (G.2.2 x0 24) (w32 (31 + x1)) (-1)) cs ss))) :
  jwp C d mc ms RT k_Model_readOrder j0 q_Model_readOrder P 12 15 [some (vR x0), some (vI x1), none, none] [] G σ cs ss := h
set_option maxRecDepth 20000 in
theorem b_Model_readOrder_44 {C : jC} {d mc ms : Nat} {RT : Int → jG → jH → Prop} {P : jK} {G : jG} {σ : jH} {cs ss : Nat} {x0 : Int} {x1 : Int} {x2 : Int} (h :
  (G.2.1 x0).1 = 20 ∧
  cN C.1 d m_Model_good [vR x0] G σ (fun (r1 : Int) (σ1 : jH) =>
  ((r1 = 0 →
    (G.2.1 x0).1 = 20 ∧
    cN C.1 d m_Model_good [vR x0] G σ1 (fun (r2 : Int) (σ2 : jH) =>
    ((r2 ≠ 0 →
      P 119 [some (vR x0), some (vI x1), some (vI 0), none] [] G σ2 cs ss) ∧
    (r2 = 0 →
      RT 0 G σ2)))) ∧
  (r1 ≠ 0 →
    (G.2.1 x0).1 = 20 ∧
    (((σ1 x0 18) ≤ x2 →
      (G.2.1 x0).1 = 20 ∧
      cN C.1 d m_Model_good [vR x0] G σ1 (fun (r3 : Int) (σ3 : jH) =>
      ((r3 ≠ 0 →
        P 119 [some (vR x0), some (vI x1), some (vI 0), none] [] G σ3 cs ss) ∧
      (r3 = 0 →
        RT 0 G σ3)))) ∧
    (x2 < (σ1 x0 18) →
      (G.2.1 x0).1 = 20 ∧
      (G.2.1 (G.2.2 x0 14)).1 = 2 ∧ (0 : Int) ≤ x2 ∧ x2 < (G.2.1 (G.2.2 x0 14)).2 ∧
      (G.2.1 x0).1 = 20 ∧
      (G.2.1 (G.2.2 x0 24)).1 = 1 ∧ (0 : Int) ≤ (w32 (31 + (w32 ((σ1 (G.2.2 x0 14) x2) - 97)))) ∧ (w32 (31 + (w32 ((σ1 (G.2.2 x0 14) x2) - 97)))) < (G.2.1 (G.2.2 x0 24)).2 ∧
      (((σ1 (G.2.2 x0 24) (w32 (31 + (w32 ((σ1 (G.2.2 x0 14) x2) - 97))))) = (-1) →
        (G.2.1 x0).1 = 20 ∧
        (G.2.1 (G.2.2 x0 24)).1 = 1 ∧ (0 : Int) ≤ (w32 (31 + (w32 ((σ1 (G.2.2 x0 14) x2) - 97)))) ∧ (w32 (31 + (w32 ((σ1 (G.2.2 x0 14) x2) - 97)))) < (G.2.1 (G.2.2 x0 24)).2 ∧
        P 44 [some (vR x0), some (vI (w32 (x1 + 1))), some (vI (w32 (x2 + 1))), none] [] G (ju σ1 (G.2.2 x0 24) (w32 (31 + (w32 ((σ1 (G.2.2 x0 14) x2) - 97)))) x1) cs ss) ∧
      ((σ1 (G.2.2 x0 24) (w32 (31 + (w32 ((σ1 (G.2.2 x0 14) x2) - 97))))) ≠ (-1) →
        (G.2.1 x0).1 = 20 ∧
        cN C.1 d m_Model_wrong [vR x0, vI 2] G σ1 (fun (r4 : Int) (σ4 : jH) =>
        P 44 [some (vR x0), some (vI x1), some (vI (w32 (x2 + 1))), none] [] G σ4 cs ss))))))))) :
  jwp C d mc ms RT k_Model_readOrder j0 q_Model_readOrder P 32 44 [some (vR x0), some (vI x1), some (vI x2), none] [] G σ cs ss := h
set_option maxRecDepth 20000 in
theorem b_Model_readOrder_119 {C : jC} {d mc ms : Nat} {RT : Int → jG → jH → Prop} {P : jK} {G : jG} {σ : jH} {cs ss : Nat} {x0 : Int} {x1 : Int} {x2 : Int} (h :
  (((26 : Int) ≤ x2 →
    (G.2.1 x0).1 = 20 ∧
    ((1 : Int) = 0 ∨ (1 : Int) = 1) ∧
    (G.2.1 x0).1 = 20 ∧
    cN C.1 d m_Model_step [vR x0] G (ju σ x0 25 1) (fun (r1 : Int) (σ1 : jH) =>
    RT 0 G σ1)) ∧
  (x2 < 26 →
    (G.2.1 x0).1 = 20 ∧
    (G.2.1 (G.2.2 x0 24)).1 = 1 ∧ (0 : Int) ≤ (w32 (31 + x2)) ∧ (w32 (31 + x2)) < (G.2.1 (G.2.2 x0 24)).2 ∧
    (((σ (G.2.2 x0 24) (w32 (31 + x2))) = (-1) →
      (G.2.1 x0).1 = 20 ∧
      (G.2.1 (G.2.2 x0 24)).1 = 1 ∧ (0 : Int) ≤ (w32 (31 + x2)) ∧ (w32 (31 + x2)) < (G.2.1 (G.2.2 x0 24)).2 ∧
      P 119 [some (vR x0), some (vI (w32 (x1 + 1))), some (vI (w32 (x2 + 1))), none] [] G (ju σ (G.2.2 x0 24) (w32 (31 + x2)) x1) cs ss) ∧
    ((σ (G.2.2 x0 24) (w32 (31 + x2))) ≠ (-1) →
      P 119 [some (vR x0), some (vI x1), some (vI (w32 (x2 + 1))), none] [] G σ cs ss))))) :
  jwp C d mc ms RT k_Model_readOrder j0 q_Model_readOrder P 21 119 [some (vR x0), some (vI x1), some (vI x2), none] [] G σ cs ss := h

def q_Model_needsSign : List (Nat × List Bool) := []
set_option maxRecDepth 20000 in
theorem b_Model_needsSign_0 {C : jC} {d mc ms : Nat} {RT : Int → jG → jH → Prop} {P : jK} {G : jG} {σ : jH} {cs ss : Nat} {x0 : Int} {x1 : Int} (h :
  (G.2.1 x0).1 = 20 ∧
  cN C.1 d m_Model_isSign [vR x0, vI x1] G σ (fun (r1 : Int) (σ1 : jH) =>
  ((r1 ≠ 0 →
    (G.2.1 x0).1 = 20 ∧
    cN C.1 d m_Model_step [vR x0] G σ1 (fun (r2 : Int) (σ2 : jH) =>
    RT 0 G σ2)) ∧
  (r1 = 0 →
    (G.2.1 x0).1 = 20 ∧
    cN C.1 d m_Model_wrong [vR x0, vI 1] G σ1 (fun (r3 : Int) (σ3 : jH) =>
    RT 0 G σ3))))) :
  jwp C d mc ms RT k_Model_needsSign j0 q_Model_needsSign P 9 0 [some (vR x0), some (vI x1)] [] G σ cs ss := h

def q_Model_isSign : List (Nat × List Bool) := []
set_option maxRecDepth 20000 in
theorem b_Model_isSign_0 {C : jC} {d mc ms : Nat} {RT : Int → jG → jH → Prop} {P : jK} {G : jG} {σ : jH} {cs ss : Nat} {x0 : Int} {x1 : Int} (h :
  (G.2.1 x0).1 = 20 ∧
  cN C.1 d m_Model_good [vR x0] G σ (fun (r1 : Int) (σ1 : jH) =>
  ((r1 = 0 →
    ((0 : Int) = 0 ∨ (0 : Int) = 1) ∧ RT 0 G σ1) ∧
  (r1 ≠ 0 →
    (G.2.1 x0).1 = 20 ∧
    (((σ1 x0 20) ≠ 3 →
      ((0 : Int) = 0 ∨ (0 : Int) = 1) ∧ RT 0 G σ1) ∧
    ((σ1 x0 20) = 3 →
      (G.2.1 x0).1 = 20 ∧
      (((σ1 x0 21) ≠ x1 →
        ((0 : Int) = 0 ∨ (0 : Int) = 1) ∧ RT 0 G σ1) ∧
      ((σ1 x0 21) = x1 →
        ((1 : Int) = 0 ∨ (1 : Int) = 1) ∧ RT 1 G σ1)))))))) :
  jwp C d mc ms RT k_Model_isSign j0 q_Model_isSign P 14 0 [some (vR x0), some (vI x1)] [] G σ cs ss := h

def q_Model_line : List (Nat × List Bool) := []
set_option maxRecDepth 20000 in
theorem b_Model_line_0 {C : jC} {d mc ms : Nat} {RT : Int → jG → jH → Prop} {P : jK} {G : jG} {σ : jH} {cs ss : Nat} {x0 : Int} {x1 : Int} (h :
  cN C.1 d m_Model_isEdition [vI x1] G σ (fun (r1 : Int) (σ1 : jH) =>
  ((r1 ≠ 0 →
    (G.2.1 x0).1 = 20 ∧
    cN C.1 d m_Model_tapeLine [vR x0] G σ1 (fun (r2 : Int) (σ2 : jH) =>
    ((r2 ≠ (-1) →
      (G.2.1 x0).1 = 20 ∧
      cN C.1 d m_Model_further [vR x0, vI x1, vI r2] G σ2 (fun (r3 : Int) (σ3 : jH) =>
      RT r3 G σ3)) ∧
    (r2 = (-1) →
      RT (-4) G σ2)))) ∧
  (r1 = 0 →
    RT (-2) G σ1)))) :
  jwp C d mc ms RT k_Model_line j0 q_Model_line P 14 0 [some (vR x0), some (vI x1), none] [] G σ cs ss := h

def q_Model_isEdition : List (Nat × List Bool) := []
set_option maxRecDepth 20000 in
theorem b_Model_isEdition_0 {C : jC} {d mc ms : Nat} {RT : Int → jG → jH → Prop} {P : jK} {G : jG} {σ : jH} {cs ss : Nat} {x0 : Int} (h :
  cN C.1 d m_Model_in [vL x0, vL 0, vL 1] G σ (fun (r1 : Int) (σ1 : jH) =>
  (r1 = 0 ∨ r1 = 1) ∧ RT r1 G σ1)) :
  jwp C d mc ms RT k_Model_isEdition j0 q_Model_isEdition P 6 0 [some (vI x0)] [] G σ cs ss := h

def q_Model_tapeLine : List (Nat × List Bool) := [(20, [true, true, true])]
set_option maxRecDepth 20000 in
theorem b_Model_tapeLine_0 {C : jC} {d mc ms : Nat} {RT : Int → jG → jH → Prop} {P : jK} {G : jG} {σ : jH} {cs ss : Nat} {x0 : Int} (h :
  (G.2.1 x0).1 = 20 ∧
  (G.2.1 x0).1 = 20 ∧
  (((σ x0 15) ≤ 60 →
    P 20 [some (vR x0), some (vI (σ x0 15)), some (vI 0)] [] G (ju σ x0 15 0) cs ss) ∧
  ((60 : Int) < (σ x0 15) →
    RT (-1) G (ju σ x0 15 0)))) :
  jwp C d mc ms RT k_Model_tapeLine j0 q_Model_tapeLine P 11 0 [some (vR x0), none, none] [] G σ cs ss := h
set_option maxRecDepth 20000 in
theorem b_Model_tapeLine_20 {C : jC} {d mc ms : Nat} {RT : Int → jG → jH → Prop} {P : jK} {G : jG} {σ : jH} {cs ss : Nat} {x0 : Int} {x1 : Int} {x2 : Int} (h :
  ((x1 ≤ x2 →
    RT x1 G σ) ∧
  (x2 < x1 →
    (G.2.1 x0).1 = 20 ∧
    (G.2.1 x0).1 = 20 ∧
    (G.2.1 (G.2.2 x0 14)).1 = 2 ∧ (0 : Int) ≤ x2 ∧ x2 < (G.2.1 (G.2.2 x0 14)).2 ∧
    (G.2.1 (G.2.2 x0 27)).1 = 1 ∧ (0 : Int) ≤ x2 ∧ x2 < (G.2.1 (G.2.2 x0 27)).2 ∧
    (G.2.1 x0).1 = 20 ∧
    (G.2.1 (G.2.2 x0 27)).1 = 1 ∧ (0 : Int) ≤ x2 ∧ x2 < (G.2.1 (G.2.2 x0 27)).2 ∧
    cN C.1 d m_Model_isByte [vI ((ju σ (G.2.2 x0 27) x2 (σ (G.2.2 x0 14) x2)) (G.2.2 x0 27) x2)] G (ju σ (G.2.2 x0 27) x2 (σ (G.2.2 x0 14) x2)) (fun (r1 : Int) (σ1 : jH) =>
    ((r1 ≠ 0 →
      P 20 [some (vR x0), some (vI x1), some (vI (w32 (x2 + 1)))] [] G σ1 cs ss) ∧
    (r1 = 0 →
      RT (-1) G σ1)))))) :
  jwp C d mc ms RT k_Model_tapeLine j0 q_Model_tapeLine P 19 20 [some (vR x0), some (vI x1), some (vI x2)] [] G σ cs ss := h

def q_Model_isByte : List (Nat × List Bool) := []
set_option maxRecDepth 20000 in
theorem b_Model_isByte_0 {C : jC} {d mc ms : Nat} {RT : Int → jG → jH → Prop} {P : jK} {G : jG} {σ : jH} {cs ss : Nat} {x0 : Int} (h :
  cN C.1 d m_Model_isLetter [vI x0] G σ (fun (r1 : Int) (σ1 : jH) =>
  ((r1 ≠ 0 →
    ((1 : Int) = 0 ∨ (1 : Int) = 1) ∧ RT 1 G σ1) ∧
  (r1 = 0 →
    ((x0 = 32 →
      ((1 : Int) = 0 ∨ (1 : Int) = 1) ∧ RT 1 G σ1) ∧
    (x0 ≠ 32 →
      ((x0 ≠ 45 →
        ((0 : Int) = 0 ∨ (0 : Int) = 1) ∧ RT 0 G σ1) ∧
      (x0 = 45 →
        ((1 : Int) = 0 ∨ (1 : Int) = 1) ∧ RT 1 G σ1)))))))) :
  jwp C d mc ms RT k_Model_isByte j0 q_Model_isByte P 12 0 [some (vI x0)] [] G σ cs ss := h

def q_Model_further : List (Nat × List Bool) := []
set_option maxRecDepth 20000 in
theorem b_Model_further_0 {C : jC} {d mc ms : Nat} {RT : Int → jG → jH → Prop} {P : jK} {G : jG} {σ : jH} {cs ss : Nat} {x0 : Int} {x1 : Int} {x2 : Int} (h :
  (G.2.1 x0).1 = 20 ∧
  cN C.1 d m_Model_linesOf [vR x0, vI x1] G σ (fun (r1 : Int) (σ1 : jH) =>
  ((r1 = 40 →
    RT (-3) G σ1) ∧
  (r1 ≠ 40 →
    (G.2.1 x0).1 = 20 ∧
    cN C.1 d m_Model_linesOf [vR x0, vI x1] G σ1 (fun (r2 : Int) (σ2 : jH) =>
    (G.2.1 x0).1 = 20 ∧
    cN C.1 d m_Model_lays [vR x0, vI x1, vI r2, vI x2] G σ2 (fun (r3 : Int) (σ3 : jH) =>
    ((r3 ≠ 0 →
      (G.2.1 x0).1 = 20 ∧
      cN C.1 d m_Model_linesOf [vR x0, vI x1] G σ3 (fun (r4 : Int) (σ4 : jH) =>
      RT (w32 (r4 - 1)) G σ4)) ∧
    (r3 = 0 →
      RT (-3) G σ3)))))))) :
  jwp C d mc ms RT k_Model_further j0 q_Model_further P 19 0 [some (vR x0), some (vI x1), some (vI x2)] [] G σ cs ss := h

def q_Model_lays : List (Nat × List Bool) := [(26, [true, true, false, true, true, true, true, false]), (67, [true, true, false, true, true, true, true, false]), (117, [true, true, false, false, true, true, false, false]), (141, [true, true, false, false, true, true, false, false]), (151, [true, true, false, false, true, true, true, true])]
set_option maxRecDepth 20000 in
theorem b_Model_lays_0 {C : jC} {d mc ms : Nat} {RT : Int → jG → jH → Prop} {P : jK} {G : jG} {σ : jH} {cs ss : Nat} {x0 : Int} {x1 : Int} {x2 : Int} {x3 : Int} (h :
  cN C.1 d m_Model_lineAt [vI x1, vI x2] G σ (fun (r1 : Int) (σ1 : jH) =>
  (G.2.1 x0).1 = 20 ∧
  cN C.1 d m_Model_linesOf [vR x0, vI x1] G σ1 (fun (r2 : Int) (σ2 : jH) =>
  ((x2 ≠ r2 →
    P 26 [some (vR x0), some (vI x1), none, some (vI x3), some (vI r1), some (vI 0), some (vI 0), none] [] G σ2 cs ss) ∧
  (x2 = r2 →
    P 26 [some (vR x0), some (vI x1), none, some (vI x3), some (vI r1), some (vI 1), some (vI 0), none] [] G σ2 cs ss))))) :
  jwp C d mc ms RT k_Model_lays j0 q_Model_lays P 14 0 [some (vR x0), some (vI x1), some (vI x2), some (vI x3), none, none, none, none] [] G σ cs ss := h
set_option maxRecDepth 20000 in
theorem b_Model_lays_26 {C : jC} {d mc ms : Nat} {RT : Int → jG → jH → Prop} {P : jK} {G : jG} {σ : jH} {cs ss : Nat} {x0 : Int} {x1 : Int} {x3 : Int} {x4 : Int} {x5 : Int} {x6 : Int} (h :
  (((61 : Int) ≤ x6 →
    (G.2.1 x0).1 = 20 ∧
    (G.2.1 (G.2.2 x0 1)).1 = 1 ∧ (0 : Int) ≤ x4 ∧ x4 < (G.2.1 (G.2.2 x0 1)).2 ∧
    P 67 [some (vR x0), some (vI x1), none, some (vI x3), some (vI x4), some (vI x5), some (vI 0), none] [] G (ju σ (G.2.2 x0 1) x4 x3) cs ss) ∧
  (x6 < 61 →
    (G.2.1 x0).1 = 20 ∧
    (G.2.1 x0).1 = 20 ∧
    (G.2.1 (G.2.2 x0 1)).1 = 1 ∧ (0 : Int) ≤ (w32 (x4 + x6)) ∧ (w32 (x4 + x6)) < (G.2.1 (G.2.2 x0 1)).2 ∧
    (G.2.1 (G.2.2 x0 26)).1 = 1 ∧ (0 : Int) ≤ x6 ∧ x6 < (G.2.1 (G.2.2 x0 26)).2 ∧
    P 26 [some (vR x0), some (vI x1), none, some (vI x3), some (vI x4), some (vI x5), some (vI (w32 (x6 + 1))), none] [] G (ju σ (G.2.2 x0 26) x6 (σ (G.2.2 x0 1) (w32 (x4 + x6)))) cs ss))) :
  jwp C d mc ms RT k_Model_lays j0 q_Model_lays P 15 26 [some (vR x0), some (vI x1), none, some (vI x3), some (vI x4), some (vI x5), some (vI x6), none] [] G σ cs ss := h
set_option maxRecDepth 20000 in
theorem b_Model_lays_67 {C : jC} {d mc ms : Nat} {RT : Int → jG → jH → Prop} {P : jK} {G : jG} {σ : jH} {cs ss : Nat} {x0 : Int} {x1 : Int} {x3 : Int} {x4 : Int} {x5 : Int} {x6 : Int} (h :
  ((x3 ≤ x6 →
    (G.2.1 x0).1 = 20 ∧
    (G.2.1 (G.2.2 x0 1)).1 = 1 ∧ (0 : Int) ≤ (w32 (3 + x1)) ∧ (w32 (3 + x1)) < (G.2.1 (G.2.2 x0 1)).2 ∧
    ((x5 = 0 →
      P 117 [some (vR x0), some (vI x1), none, none, some (vI x4), some (vI x5), none, none] [vI 0, vI (σ (G.2.2 x0 1) (w32 (3 + x1))), vI (w32 (3 + x1)), vR (G.2.2 x0 1)] G σ cs ss) ∧
    (x5 ≠ 0 →
      P 117 [some (vR x0), some (vI x1), none, none, some (vI x4), some (vI x5), none, none] [vI 1, vI (σ (G.2.2 x0 1) (w32 (3 + x1))), vI (w32 (3 + x1)), vR (G.2.2 x0 1)] G σ cs ss))) ∧
  (x6 < x3 →
    (G.2.1 x0).1 = 20 ∧
    (G.2.1 x0).1 = 20 ∧
    (G.2.1 (G.2.2 x0 27)).1 = 1 ∧ (0 : Int) ≤ x6 ∧ x6 < (G.2.1 (G.2.2 x0 27)).2 ∧
    (G.2.1 (G.2.2 x0 1)).1 = 1 ∧ (0 : Int) ≤ (w32 ((w32 (x4 + 1)) + x6)) ∧ (w32 ((w32 (x4 + 1)) + x6)) < (G.2.1 (G.2.2 x0 1)).2 ∧
    P 67 [some (vR x0), some (vI x1), none, some (vI x3), some (vI x4), some (vI x5), some (vI (w32 (x6 + 1))), none] [] G (ju σ (G.2.2 x0 1) (w32 ((w32 (x4 + 1)) + x6)) (σ (G.2.2 x0 27) x6)) cs ss))) :
  jwp C d mc ms RT k_Model_lays j0 q_Model_lays P 17 67 [some (vR x0), some (vI x1), none, some (vI x3), some (vI x4), some (vI x5), some (vI x6), none] [] G σ cs ss := h
set_option maxRecDepth 20000 in
theorem b_Model_lays_117 {C : jC} {d mc ms : Nat} {RT : Int → jG → jH → Prop} {P : jK} {G : jG} {σ : jH} {cs ss : Nat} {x0 : Int} {x1 : Int} {x4 : Int} {x5 : Int} {s0 : Int} {s1 : Int} {s2 : Int} {s3 : Int} (h :
  (G.2.1 s0).1 = 1 ∧ (0 : Int) ≤ s1 ∧ s1 < (G.2.1 s0).2 ∧
  (G.2.1 x0).1 = 20 ∧
  cN C.1 d m_Model_makesWords [vR x0, vI x1] G (ju σ s0 s1 (w32 (s2 + s3))) (fun (r1 : Int) (σ1 : jH) =>
  (G.2.1 x0).1 = 20 ∧
  (G.2.1 (G.2.2 x0 4)).1 = 1 ∧ (0 : Int) ≤ x1 ∧ x1 < (G.2.1 (G.2.2 x0 4)).2 ∧
  (((300 : Int) < (σ1 (G.2.2 x0 4) x1) →
    P 141 [some (vR x0), some (vI x1), none, none, some (vI x4), some (vI x5), none, none] [vI 0] G σ1 cs ss) ∧
  ((σ1 (G.2.2 x0 4) x1) ≤ 300 →
    P 141 [some (vR x0), some (vI x1), none, none, some (vI x4), some (vI x5), none, none] [vI 1] G σ1 cs ss)))) :
  jwp C d mc ms RT k_Model_lays j0 q_Model_lays P 13 117 [some (vR x0), some (vI x1), none, none, some (vI x4), some (vI x5), none, none] [vI s3, vI s2, vI s1, vR s0] G σ cs ss := h
set_option maxRecDepth 20000 in
theorem b_Model_lays_141 {C : jC} {d mc ms : Nat} {RT : Int → jG → jH → Prop} {P : jK} {G : jG} {σ : jH} {cs ss : Nat} {x0 : Int} {x1 : Int} {x4 : Int} {x5 : Int} {s0 : Int} (h :
  ((s0 ≠ 0 →
    (G.2.1 x0).1 = 20 ∧
    cN C.1 d m_Model_makes [vR x0] G σ (fun (r1 : Int) (σ1 : jH) =>
    (s0 = 0 ∨ s0 = 1) ∧ RT s0 G σ1)) ∧
  (s0 = 0 →
    P 151 [some (vR x0), some (vI x1), none, none, some (vI x4), some (vI x5), some (vI s0), some (vI 0)] [] G σ cs ss))) :
  jwp C d mc ms RT k_Model_lays j0 q_Model_lays P 7 141 [some (vR x0), some (vI x1), none, none, some (vI x4), some (vI x5), none, none] [vI s0] G σ cs ss := h
set_option maxRecDepth 20000 in
theorem b_Model_lays_151 {C : jC} {d mc ms : Nat} {RT : Int → jG → jH → Prop} {P : jK} {G : jG} {σ : jH} {cs ss : Nat} {x0 : Int} {x1 : Int} {x4 : Int} {x5 : Int} {x6 : Int} {x7 : Int} (h :
  (((61 : Int) ≤ x7 →
    (G.2.1 x0).1 = 20 ∧
    (G.2.1 (G.2.2 x0 1)).1 = 1 ∧ (0 : Int) ≤ (w32 (3 + x1)) ∧ (w32 (3 + x1)) < (G.2.1 (G.2.2 x0 1)).2 ∧
    ((x5 = 0 →
      (G.2.1 (G.2.2 x0 1)).1 = 1 ∧ (0 : Int) ≤ (w32 (3 + x1)) ∧ (w32 (3 + x1)) < (G.2.1 (G.2.2 x0 1)).2 ∧
      (G.2.1 x0).1 = 20 ∧
      cN C.1 d m_Model_makes [vR x0] G (ju σ (G.2.2 x0 1) (w32 (3 + x1)) (w32 ((σ (G.2.2 x0 1) (w32 (3 + x1))) - 0))) (fun (r1 : Int) (σ1 : jH) =>
      (x6 = 0 ∨ x6 = 1) ∧ RT x6 G σ1)) ∧
    (x5 ≠ 0 →
      (G.2.1 (G.2.2 x0 1)).1 = 1 ∧ (0 : Int) ≤ (w32 (3 + x1)) ∧ (w32 (3 + x1)) < (G.2.1 (G.2.2 x0 1)).2 ∧
      (G.2.1 x0).1 = 20 ∧
      cN C.1 d m_Model_makes [vR x0] G (ju σ (G.2.2 x0 1) (w32 (3 + x1)) (w32 ((σ (G.2.2 x0 1) (w32 (3 + x1))) - 1))) (fun (r2 : Int) (σ2 : jH) =>
      (x6 = 0 ∨ x6 = 1) ∧ RT x6 G σ2)))) ∧
  (x7 < 61 →
    (G.2.1 x0).1 = 20 ∧
    (G.2.1 x0).1 = 20 ∧
    (G.2.1 (G.2.2 x0 26)).1 = 1 ∧ (0 : Int) ≤ x7 ∧ x7 < (G.2.1 (G.2.2 x0 26)).2 ∧
    (G.2.1 (G.2.2 x0 1)).1 = 1 ∧ (0 : Int) ≤ (w32 (x4 + x7)) ∧ (w32 (x4 + x7)) < (G.2.1 (G.2.2 x0 1)).2 ∧
    P 151 [some (vR x0), some (vI x1), none, none, some (vI x4), some (vI x5), some (vI x6), some (vI (w32 (x7 + 1)))] [] G (ju σ (G.2.2 x0 1) (w32 (x4 + x7)) (σ (G.2.2 x0 26) x7)) cs ss))) :
  jwp C d mc ms RT k_Model_lays j0 q_Model_lays P 20 151 [some (vR x0), some (vI x1), none, none, some (vI x4), some (vI x5), some (vI x6), some (vI x7)] [] G σ cs ss := h

def q_Model_right : List (Nat × List Bool) := []
set_option maxRecDepth 20000 in
theorem b_Model_right_0 {C : jC} {d mc ms : Nat} {RT : Int → jG → jH → Prop} {P : jK} {G : jG} {σ : jH} {cs ss : Nat} {x0 : Int} {x1 : Int} {x2 : Int} (h :
  cN C.1 d m_Model_isEdition [vI x1] G σ (fun (r1 : Int) (σ1 : jH) =>
  ((r1 = 0 →
    RT (-2) G σ1) ∧
  (r1 ≠ 0 →
    (G.2.1 x0).1 = 20 ∧
    cN C.1 d m_Model_linesOf [vR x0, vI x1] G σ1 (fun (r2 : Int) (σ2 : jH) =>
    cN C.1 d m_Model_in [vL x2, vL 0, vL (w32 (r2 - 1))] G σ2 (fun (r3 : Int) (σ3 : jH) =>
    ((r3 ≠ 0 →
      (G.2.1 x0).1 = 20 ∧
      cN C.1 d m_Model_tapeLine [vR x0] G σ3 (fun (r4 : Int) (σ4 : jH) =>
      ((r4 ≠ (-1) →
        (G.2.1 x0).1 = 20 ∧
        cN C.1 d m_Model_lays [vR x0, vI x1, vI x2, vI r4] G σ4 (fun (r5 : Int) (σ5 : jH) =>
        ((r5 = 0 →
          RT (-3) G σ5) ∧
        (r5 ≠ 0 →
          (G.2.1 x0).1 = 20 ∧
          (G.2.1 (G.2.2 x0 4)).1 = 1 ∧ (0 : Int) ≤ x1 ∧ x1 < (G.2.1 (G.2.2 x0 4)).2 ∧
          RT (σ5 (G.2.2 x0 4) x1) G σ5)))) ∧
      (r4 = (-1) →
        RT (-4) G σ4)))) ∧
    (r3 = 0 →
      RT (-2) G σ3)))))))) :
  jwp C d mc ms RT k_Model_right j0 q_Model_right P 32 0 [some (vR x0), some (vI x1), some (vI x2), none] [] G σ cs ss := h

def q_Model_lineOf : List (Nat × List Bool) := [(44, [true, true, true, true])]
set_option maxRecDepth 20000 in
theorem b_Model_lineOf_0 {C : jC} {d mc ms : Nat} {RT : Int → jG → jH → Prop} {P : jK} {G : jG} {σ : jH} {cs ss : Nat} {x0 : Int} {x1 : Int} {x2 : Int} (h :
  cN C.1 d m_Model_isEdition [vI x1] G σ (fun (r1 : Int) (σ1 : jH) =>
  ((r1 = 0 →
    RT (-2) G σ1) ∧
  (r1 ≠ 0 →
    cN C.1 d m_Model_isSlot [vI x2] G σ1 (fun (r2 : Int) (σ2 : jH) =>
    ((r2 ≠ 0 →
      (G.2.1 x0).1 = 20 ∧
      (G.2.1 (G.2.2 x0 47)).1 = 1 ∧ (0 : Int) ≤ x2 ∧ x2 < (G.2.1 (G.2.2 x0 47)).2 ∧
      (((σ2 (G.2.2 x0 47) x2) ≠ (-1) →
        (G.2.1 x0).1 = 20 ∧
        (G.2.1 (G.2.2 x0 48)).1 = 1 ∧ (0 : Int) ≤ x2 ∧ x2 < (G.2.1 (G.2.2 x0 48)).2 ∧
        (((σ2 (G.2.2 x0 48) x2) = 0 →
          P 44 [some (vR x0), some (vI x1), some (vI x2), some (vI 0)] [] G σ2 cs ss) ∧
        ((σ2 (G.2.2 x0 48) x2) ≠ 0 →
          RT (-8) G σ2))) ∧
      ((σ2 (G.2.2 x0 47) x2) = (-1) →
        RT (-6) G σ2))) ∧
    (r2 = 0 →
      RT (-2) G σ2))))))) :
  jwp C d mc ms RT k_Model_lineOf j0 q_Model_lineOf P 19 0 [some (vR x0), some (vI x1), some (vI x2), none] [] G σ cs ss := h
set_option maxRecDepth 20000 in
theorem b_Model_lineOf_44 {C : jC} {d mc ms : Nat} {RT : Int → jG → jH → Prop} {P : jK} {G : jG} {σ : jH} {cs ss : Nat} {x0 : Int} {x1 : Int} {x2 : Int} {x3 : Int} (h :
  (G.2.1 x0).1 = 20 ∧
  (G.2.1 (G.2.2 x0 47)).1 = 1 ∧ (0 : Int) ≤ x2 ∧ x2 < (G.2.1 (G.2.2 x0 47)).2 ∧
  (((σ (G.2.2 x0 47) x2) ≤ x3 →
    (G.2.1 x0).1 = 20 ∧
    (G.2.1 (G.2.2 x0 47)).1 = 1 ∧ (0 : Int) ≤ x2 ∧ x2 < (G.2.1 (G.2.2 x0 47)).2 ∧
    (G.2.1 x0).1 = 20 ∧
    cN C.1 d m_Model_further [vR x0, vI x1, vI (σ (G.2.2 x0 47) x2)] G σ (fun (r1 : Int) (σ1 : jH) =>
    RT r1 G σ1)) ∧
  (x3 < (σ (G.2.2 x0 47) x2) →
    (G.2.1 x0).1 = 20 ∧
    (G.2.1 x0).1 = 20 ∧
    (G.2.1 (G.2.2 x0 49)).1 = 4 ∧ (0 : Int) ≤ (w32 ((w32 (60 * x2)) + x3)) ∧ (w32 ((w32 (60 * x2)) + x3)) < (G.2.1 (G.2.2 x0 49)).2 ∧
    (G.2.1 (G.2.2 x0 27)).1 = 1 ∧ (0 : Int) ≤ x3 ∧ x3 < (G.2.1 (G.2.2 x0 27)).2 ∧
    (G.2.1 x0).1 = 20 ∧
    (G.2.1 (G.2.2 x0 27)).1 = 1 ∧ (0 : Int) ≤ x3 ∧ x3 < (G.2.1 (G.2.2 x0 27)).2 ∧
    cN C.1 d m_Model_isByte [vI ((ju σ (G.2.2 x0 27) x3 (w32 (σ (G.2.2 x0 49) (w32 ((w32 (60 * x2)) + x3))))) (G.2.2 x0 27) x3)] G (ju σ (G.2.2 x0 27) x3 (w32 (σ (G.2.2 x0 49) (w32 ((w32 (60 * x2)) + x3))))) (fun (r2 : Int) (σ2 : jH) =>
    ((r2 ≠ 0 →
      P 44 [some (vR x0), some (vI x1), some (vI x2), some (vI (w32 (x3 + 1)))] [] G σ2 cs ss) ∧
    (r2 = 0 →
      RT (-4) G σ2)))))) :
  jwp C d mc ms RT k_Model_lineOf j0 q_Model_lineOf P 27 44 [some (vR x0), some (vI x1), some (vI x2), some (vI x3)] [] G σ cs ss := h

def q_Model_isSlot : List (Nat × List Bool) := []
set_option maxRecDepth 20000 in
theorem b_Model_isSlot_0 {C : jC} {d mc ms : Nat} {RT : Int → jG → jH → Prop} {P : jK} {G : jG} {σ : jH} {cs ss : Nat} {x0 : Int} (h :
  cN C.1 d m_Model_in [vL x0, vL 0, vL 3] G σ (fun (r1 : Int) (σ1 : jH) =>
  (r1 = 0 ∨ r1 = 1) ∧ RT r1 G σ1)) :
  jwp C d mc ms RT k_Model_isSlot j0 q_Model_isSlot P 6 0 [some (vI x0)] [] G σ cs ss := h

def q_Model_edition : List (Nat × List Bool) := [(52, [true, true, false, true, true])]
set_option maxRecDepth 20000 in
theorem b_Model_edition_0 {C : jC} {d mc ms : Nat} {RT : Int → jG → jH → Prop} {P : jK} {G : jG} {σ : jH} {cs ss : Nat} {x0 : Int} {x1 : Int} {x2 : Int} (h :
  cN C.1 d m_Model_isEdition [vI x1] G σ (fun (r1 : Int) (σ1 : jH) =>
  ((r1 = 0 →
    RT (-2000000000) G σ1) ∧
  (r1 ≠ 0 →
    cN C.1 d m_Model_in [vL x2, vL 0, vL 2] G σ1 (fun (r2 : Int) (σ2 : jH) =>
    ((r2 ≠ 0 →
      (((2 : Int) ≤ x2 →
        P 52 [some (vR x0), some (vI x1), none, some (vI 0), some (vI 0)] [] G σ2 cs ss) ∧
      (x2 < 2 →
        ((x2 ≠ 0 →
          (G.2.1 x0).1 = 20 ∧
          (G.2.1 (G.2.2 x0 4)).1 = 1 ∧ (0 : Int) ≤ x1 ∧ x1 < (G.2.1 (G.2.2 x0 4)).2 ∧
          RT (σ2 (G.2.2 x0 4) x1) G σ2) ∧
        (x2 = 0 →
          (G.2.1 x0).1 = 20 ∧
          cN C.1 d m_Model_linesOf [vR x0, vI x1] G σ2 (fun (r3 : Int) (σ3 : jH) =>
          RT r3 G σ3)))))) ∧
    (r2 = 0 →
      RT (-2000000000) G σ2))))))) :
  jwp C d mc ms RT k_Model_edition j0 q_Model_edition P 19 0 [some (vR x0), some (vI x1), some (vI x2), none, none] [] G σ cs ss := h
set_option maxRecDepth 20000 in
theorem b_Model_edition_52 {C : jC} {d mc ms : Nat} {RT : Int → jG → jH → Prop} {P : jK} {G : jG} {σ : jH} {cs ss : Nat} {x0 : Int} {x1 : Int} {x3 : Int} {x4 : Int} (h :
  (G.2.1 x0).1 = 20 ∧
  (((σ x0 10) ≤ x4 →
    RT x3 G σ) ∧
  (x4 < (σ x0 10) →
    (G.2.1 x0).1 = 20 ∧
    cN C.1 d m_Model_manyOf [vR x0, vI x1, vI x4] G σ (fun (r1 : Int) (σ1 : jH) =>
    ((r1 ≤ 0 →
      P 52 [some (vR x0), some (vI x1), none, some (vI (w32 (x3 + 0))), some (vI (w32 (x4 + 1)))] [] G σ1 cs ss) ∧
    ((0 : Int) < r1 →
      P 52 [some (vR x0), some (vI x1), none, some (vI (w32 (x3 + 1))), some (vI (w32 (x4 + 1)))] [] G σ1 cs ss)))))) :
  jwp C d mc ms RT k_Model_edition j0 q_Model_edition P 16 52 [some (vR x0), some (vI x1), none, some (vI x3), some (vI x4)] [] G σ cs ss := h

def q_Model_manyOf : List (Nat × List Bool) := [(5, [true, true, true, true, true])]
set_option maxRecDepth 20000 in
theorem b_Model_manyOf_0 {C : jC} {d mc ms : Nat} {RT : Int → jG → jH → Prop} {P : jK} {G : jG} {σ : jH} {cs ss : Nat} {x0 : Int} {x1 : Int} {x2 : Int} (h :
  P 5 [some (vR x0), some (vI x1), some (vI x2), some (vI 0), some (vI 0)] [] G σ cs ss) :
  jwp C d mc ms RT k_Model_manyOf j0 q_Model_manyOf P 4 0 [some (vR x0), some (vI x1), some (vI x2), none, none] [] G σ cs ss := h
set_option maxRecDepth 20000 in
theorem b_Model_manyOf_5 {C : jC} {d mc ms : Nat} {RT : Int → jG → jH → Prop} {P : jK} {G : jG} {σ : jH} {cs ss : Nat} {x0 : Int} {x1 : Int} {x2 : Int} {x3 : Int} {x4 : Int} (h :
  (G.2.1 x0).1 = 20 ∧
  (G.2.1 (G.2.2 x0 4)).1 = 1 ∧ (0 : Int) ≤ x1 ∧ x1 < (G.2.1 (G.2.2 x0 4)).2 ∧
  (((σ (G.2.2 x0 4) x1) ≤ x4 →
    RT x3 G σ) ∧
  (x4 < (σ (G.2.2 x0 4) x1) →
    (G.2.1 x0).1 = 20 ∧
    (G.2.1 (G.2.2 x0 5)).1 = 1 ∧ (0 : Int) ≤ (w32 ((w32 (340 * x1)) + x4)) ∧ (w32 ((w32 (340 * x1)) + x4)) < (G.2.1 (G.2.2 x0 5)).2 ∧
    (((σ (G.2.2 x0 5) (w32 ((w32 (340 * x1)) + x4))) ≠ x2 →
      P 5 [some (vR x0), some (vI x1), some (vI x2), some (vI (w32 (x3 + 0))), some (vI (w32 (x4 + 1)))] [] G σ cs ss) ∧
    ((σ (G.2.2 x0 5) (w32 ((w32 (340 * x1)) + x4))) = x2 →
      P 5 [some (vR x0), some (vI x1), some (vI x2), some (vI (w32 (x3 + 1))), some (vI (w32 (x4 + 1)))] [] G σ cs ss))))) :
  jwp C d mc ms RT k_Model_manyOf j0 q_Model_manyOf P 23 5 [some (vR x0), some (vI x1), some (vI x2), some (vI x3), some (vI x4)] [] G σ cs ss := h

def q_Model_word : List (Nat × List Bool) := []
set_option maxRecDepth 20000 in
theorem b_Model_word_0 {C : jC} {d mc ms : Nat} {RT : Int → jG → jH → Prop} {P : jK} {G : jG} {σ : jH} {cs ss : Nat} {x0 : Int} {x1 : Int} {x2 : Int} {x3 : Int} (h :
  (G.2.1 x0).1 = 20 ∧
  cN C.1 d m_Model_isWord [vR x0, vI x1, vI x2] G σ (fun (r1 : Int) (σ1 : jH) =>
  ((r1 = 0 →
    RT (-2000000000) G σ1) ∧
  (r1 ≠ 0 →
    cN C.1 d m_Model_in [vL x3, vL 0, vL 3] G σ1 (fun (r2 : Int) (σ2 : jH) =>
    ((r2 ≠ 0 →
      ((x3 ≠ 0 →
        ((x3 ≠ 1 →
          ((x3 ≠ 2 →
            (G.2.1 x0).1 = 20 ∧
            (G.2.1 (G.2.2 x0 7)).1 = 1 ∧ (0 : Int) ≤ (w32 ((w32 (340 * x1)) + x2)) ∧ (w32 ((w32 (340 * x1)) + x2)) < (G.2.1 (G.2.2 x0 7)).2 ∧
            RT (σ2 (G.2.2 x0 7) (w32 ((w32 (340 * x1)) + x2))) G σ2) ∧
          (x3 = 2 →
            (G.2.1 x0).1 = 20 ∧
            cN C.1 d m_Model_placeInLine [vR x0, vI x1, vI x2] G σ2 (fun (r3 : Int) (σ3 : jH) =>
            RT r3 G σ3)))) ∧
        (x3 = 1 →
          (G.2.1 x0).1 = 20 ∧
          (G.2.1 (G.2.2 x0 6)).1 = 1 ∧ (0 : Int) ≤ (w32 ((w32 (340 * x1)) + x2)) ∧ (w32 ((w32 (340 * x1)) + x2)) < (G.2.1 (G.2.2 x0 6)).2 ∧
          RT (σ2 (G.2.2 x0 6) (w32 ((w32 (340 * x1)) + x2))) G σ2))) ∧
      (x3 = 0 →
        (G.2.1 x0).1 = 20 ∧
        (G.2.1 (G.2.2 x0 5)).1 = 1 ∧ (0 : Int) ≤ (w32 ((w32 (340 * x1)) + x2)) ∧ (w32 ((w32 (340 * x1)) + x2)) < (G.2.1 (G.2.2 x0 5)).2 ∧
        RT (σ2 (G.2.2 x0 5) (w32 ((w32 (340 * x1)) + x2))) G σ2))) ∧
    (r2 = 0 →
      RT (-2000000000) G σ2))))))) :
  jwp C d mc ms RT k_Model_word j0 q_Model_word P 31 0 [some (vR x0), some (vI x1), some (vI x2), some (vI x3), none] [] G σ cs ss := h

def q_Model_isWord : List (Nat × List Bool) := []
set_option maxRecDepth 20000 in
theorem b_Model_isWord_0 {C : jC} {d mc ms : Nat} {RT : Int → jG → jH → Prop} {P : jK} {G : jG} {σ : jH} {cs ss : Nat} {x0 : Int} {x1 : Int} {x2 : Int} (h :
  cN C.1 d m_Model_isEdition [vI x1] G σ (fun (r1 : Int) (σ1 : jH) =>
  ((r1 = 0 →
    ((0 : Int) = 0 ∨ (0 : Int) = 1) ∧ RT 0 G σ1) ∧
  (r1 ≠ 0 →
    (G.2.1 x0).1 = 20 ∧
    (G.2.1 (G.2.2 x0 4)).1 = 1 ∧ (0 : Int) ≤ x1 ∧ x1 < (G.2.1 (G.2.2 x0 4)).2 ∧
    cN C.1 d m_Model_in [vL x2, vL 0, vL (w32 ((σ1 (G.2.2 x0 4) x1) - 1))] G σ1 (fun (r2 : Int) (σ2 : jH) =>
    ((r2 = 0 →
      ((0 : Int) = 0 ∨ (0 : Int) = 1) ∧ RT 0 G σ2) ∧
    (r2 ≠ 0 →
      ((1 : Int) = 0 ∨ (1 : Int) = 1) ∧ RT 1 G σ2))))))) :
  jwp C d mc ms RT k_Model_isWord j0 q_Model_isWord P 18 0 [some (vR x0), some (vI x1), some (vI x2)] [] G σ cs ss := h

def q_Model_placeInLine : List (Nat × List Bool) := [(5, [true, true, true, true, true])]
set_option maxRecDepth 20000 in
theorem b_Model_placeInLine_0 {C : jC} {d mc ms : Nat} {RT : Int → jG → jH → Prop} {P : jK} {G : jG} {σ : jH} {cs ss : Nat} {x0 : Int} {x1 : Int} {x2 : Int} (h :
  P 5 [some (vR x0), some (vI x1), some (vI x2), some (vI 0), some (vI 0)] [] G σ cs ss) :
  jwp C d mc ms RT k_Model_placeInLine j0 q_Model_placeInLine P 4 0 [some (vR x0), some (vI x1), some (vI x2), none, none] [] G σ cs ss := h
set_option maxRecDepth 20000 in
theorem b_Model_placeInLine_5 {C : jC} {d mc ms : Nat} {RT : Int → jG → jH → Prop} {P : jK} {G : jG} {σ : jH} {cs ss : Nat} {x0 : Int} {x1 : Int} {x2 : Int} {x3 : Int} {x4 : Int} (h :
  ((x2 ≤ x4 →
    RT x3 G σ) ∧
  (x4 < x2 →
    (G.2.1 x0).1 = 20 ∧
    (G.2.1 (G.2.2 x0 6)).1 = 1 ∧ (0 : Int) ≤ (w32 ((w32 (340 * x1)) + x4)) ∧ (w32 ((w32 (340 * x1)) + x4)) < (G.2.1 (G.2.2 x0 6)).2 ∧
    (G.2.1 x0).1 = 20 ∧
    (G.2.1 (G.2.2 x0 6)).1 = 1 ∧ (0 : Int) ≤ (w32 ((w32 (340 * x1)) + x2)) ∧ (w32 ((w32 (340 * x1)) + x2)) < (G.2.1 (G.2.2 x0 6)).2 ∧
    (((σ (G.2.2 x0 6) (w32 ((w32 (340 * x1)) + x4))) ≠ (σ (G.2.2 x0 6) (w32 ((w32 (340 * x1)) + x2))) →
      P 5 [some (vR x0), some (vI x1), some (vI x2), some (vI (w32 (x3 + 0))), some (vI (w32 (x4 + 1)))] [] G σ cs ss) ∧
    ((σ (G.2.2 x0 6) (w32 ((w32 (340 * x1)) + x4))) = (σ (G.2.2 x0 6) (w32 ((w32 (340 * x1)) + x2))) →
      P 5 [some (vR x0), some (vI x1), some (vI x2), some (vI (w32 (x3 + 1))), some (vI (w32 (x4 + 1)))] [] G σ cs ss))))) :
  jwp C d mc ms RT k_Model_placeInLine j0 q_Model_placeInLine P 27 5 [some (vR x0), some (vI x1), some (vI x2), some (vI x3), some (vI x4)] [] G σ cs ss := h
