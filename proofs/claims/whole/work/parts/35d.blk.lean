/-! Blocks: what must hold ahead of each piece of a method -/
def q_Tokens_init : List (Nat × List Bool) := [(9, [true, true]), (14, [true, true]), (19, [true, true]), (24, [true, true]), (29, [true, true]), (34, [true, true]), (39, [true, true]), (44, [false, false])]
set_option maxRecDepth 20000 in
theorem b_Tokens_init_0 {C : jC} {d mc ms : Nat} {RT : Int → jG → jH → Prop} {P : jK} {G : jG} {σ : jH} {cs ss : Nat} {x0 : Int} {x1 : Int} (h :
  1 ≤ d ∧ 0 < x0 ∧
  (G.2.1 x0).1 = 17 ∧
  P 9 [some (vR x0), some (vR x1)] [] G (ju σ x0 1 0) cs ss) :
  jwp C d mc ms RT k_Tokens_init j0 q_Tokens_init P 5 0 [some (vR x0), some (vR x1)] [] G σ cs ss := h
set_option maxRecDepth 20000 in
theorem b_Tokens_init_9 {C : jC} {d mc ms : Nat} {RT : Int → jG → jH → Prop} {P : jK} {G : jG} {σ : jH} {cs ss : Nat} {x0 : Int} {x1 : Int} (h :
  (G.2.1 x0).1 = 17 ∧
  P 14 [some (vR x0), some (vR x1)] [] G (ju σ x0 2 0) cs ss) :
  jwp C d mc ms RT k_Tokens_init j0 q_Tokens_init P 3 9 [some (vR x0), some (vR x1)] [] G σ cs ss := h
set_option maxRecDepth 20000 in
theorem b_Tokens_init_14 {C : jC} {d mc ms : Nat} {RT : Int → jG → jH → Prop} {P : jK} {G : jG} {σ : jH} {cs ss : Nat} {x0 : Int} {x1 : Int} (h :
  (G.2.1 x0).1 = 17 ∧
  P 19 [some (vR x0), some (vR x1)] [] G (ju σ x0 3 0) cs ss) :
  jwp C d mc ms RT k_Tokens_init j0 q_Tokens_init P 3 14 [some (vR x0), some (vR x1)] [] G σ cs ss := h
set_option maxRecDepth 20000 in
theorem b_Tokens_init_19 {C : jC} {d mc ms : Nat} {RT : Int → jG → jH → Prop} {P : jK} {G : jG} {σ : jH} {cs ss : Nat} {x0 : Int} {x1 : Int} (h :
  (G.2.1 x0).1 = 17 ∧
  P 24 [some (vR x0), some (vR x1)] [] G (ju σ x0 4 0) cs ss) :
  jwp C d mc ms RT k_Tokens_init j0 q_Tokens_init P 3 19 [some (vR x0), some (vR x1)] [] G σ cs ss := h
set_option maxRecDepth 20000 in
theorem b_Tokens_init_24 {C : jC} {d mc ms : Nat} {RT : Int → jG → jH → Prop} {P : jK} {G : jG} {σ : jH} {cs ss : Nat} {x0 : Int} {x1 : Int} (h :
  (G.2.1 x0).1 = 17 ∧
  P 29 [some (vR x0), some (vR x1)] [] G (ju σ x0 5 0) cs ss) :
  jwp C d mc ms RT k_Tokens_init j0 q_Tokens_init P 3 24 [some (vR x0), some (vR x1)] [] G σ cs ss := h
set_option maxRecDepth 20000 in
theorem b_Tokens_init_29 {C : jC} {d mc ms : Nat} {RT : Int → jG → jH → Prop} {P : jK} {G : jG} {σ : jH} {cs ss : Nat} {x0 : Int} {x1 : Int} (h :
  (G.2.1 x0).1 = 17 ∧
  P 34 [some (vR x0), some (vR x1)] [] G (ju σ x0 6 0) cs ss) :
  jwp C d mc ms RT k_Tokens_init j0 q_Tokens_init P 3 29 [some (vR x0), some (vR x1)] [] G σ cs ss := h
set_option maxRecDepth 20000 in
theorem b_Tokens_init_34 {C : jC} {d mc ms : Nat} {RT : Int → jG → jH → Prop} {P : jK} {G : jG} {σ : jH} {cs ss : Nat} {x0 : Int} {x1 : Int} (h :
  (G.2.1 x0).1 = 17 ∧
  P 39 [some (vR x0), some (vR x1)] [] G (ju σ x0 7 (-1)) cs ss) :
  jwp C d mc ms RT k_Tokens_init j0 q_Tokens_init P 3 34 [some (vR x0), some (vR x1)] [] G σ cs ss := h
set_option maxRecDepth 20000 in
theorem b_Tokens_init_39 {C : jC} {d mc ms : Nat} {RT : Int → jG → jH → Prop} {P : jK} {G : jG} {σ : jH} {cs ss : Nat} {x0 : Int} {x1 : Int} (h :
  (G.2.1 x0).1 = 17 ∧
  P 44 [none, none] [] ((G.1, G.2.1, ju G.2.2 x0 0 x1) : jG) σ cs ss) :
  jwp C d mc ms RT k_Tokens_init j0 q_Tokens_init P 3 39 [some (vR x0), some (vR x1)] [] G σ cs ss := h
set_option maxRecDepth 20000 in
theorem b_Tokens_init_44 {C : jC} {d mc ms : Nat} {RT : Int → jG → jH → Prop} {P : jK} {G : jG} {σ : jH} {cs ss : Nat} (h :
  RT 0 G σ) :
  jwp C d mc ms RT k_Tokens_init j0 q_Tokens_init P 1 44 [none, none] [] G σ cs ss := h

def q_RuleReader_init : List (Nat × List Bool) := [(15, [true, true]), (26, [true, true]), (31, [false, false])]
set_option maxRecDepth 20000 in
theorem b_RuleReader_init_0 {C : jC} {d mc ms : Nat} {RT : Int → jG → jH → Prop} {P : jK} {G : jG} {σ : jH} {cs ss : Nat} {x0 : Int} {x1 : Int} (h :
  1 ≤ d ∧ 0 < x0 ∧
  cs + 1 ≤ mc ∧ ss + 12 ≤ ms ∧
  0 < ((G.1 + 1 : Nat) : Int) ∧ ∃ (d1 : Nat) (P1 : jG → jH → Prop), d1 < d ∧ CallG C.1 d1 13 344 m_Rules_init [vR ((G.1 + 1 : Nat) : Int)] (jnewG G 15 12) (jnewH G σ) (fun _ => P1) ∧ (cs + 1) + 13 ≤ mc ∧ (ss + 12) + 344 ≤ ms ∧ ∀ (G1 : jG) (σ1 : jH), P1 G1 σ1 →
  (G1.2.1 x0).1 = 14 ∧
  P 15 [some (vR x0), some (vR x1)] [] ((G1.1, G1.2.1, ju G1.2.2 x0 0 ((G.1 + 1 : Nat) : Int)) : jG) σ1 ((cs + 1) + 13) ((ss + 12) + 344)) :
  jwp C d mc ms RT k_RuleReader_init j0 q_RuleReader_init P 7 0 [some (vR x0), some (vR x1)] [] G σ cs ss := h
set_option maxRecDepth 20000 in
theorem b_RuleReader_init_15 {C : jC} {d mc ms : Nat} {RT : Int → jG → jH → Prop} {P : jK} {G : jG} {σ : jH} {cs ss : Nat} {x0 : Int} {x1 : Int} (h :
  cs + 1 ≤ mc ∧ ss + 3 ≤ ms ∧
  0 < ((G.1 + 1 : Nat) : Int) ∧ ∃ (d1 : Nat) (P1 : jG → jH → Prop), d1 < d ∧ CallG C.1 d1 0 0 m_Key_init [vR ((G.1 + 1 : Nat) : Int)] (jnewG G 11 3) (jnewH G σ) (fun _ => P1) ∧ (cs + 1) + 0 ≤ mc ∧ (ss + 3) + 0 ≤ ms ∧ ∀ (G1 : jG) (σ1 : jH), P1 G1 σ1 →
  (G1.2.1 x0).1 = 14 ∧
  P 26 [some (vR x0), some (vR x1)] [] ((G1.1, G1.2.1, ju G1.2.2 x0 2 ((G.1 + 1 : Nat) : Int)) : jG) σ1 ((cs + 1) + 0) ((ss + 3) + 0)) :
  jwp C d mc ms RT k_RuleReader_init j0 q_RuleReader_init P 5 15 [some (vR x0), some (vR x1)] [] G σ cs ss := h
set_option maxRecDepth 20000 in
theorem b_RuleReader_init_26 {C : jC} {d mc ms : Nat} {RT : Int → jG → jH → Prop} {P : jK} {G : jG} {σ : jH} {cs ss : Nat} {x0 : Int} {x1 : Int} (h :
  (G.2.1 x0).1 = 14 ∧
  P 31 [none, none] [] ((G.1, G.2.1, ju G.2.2 x0 1 x1) : jG) σ cs ss) :
  jwp C d mc ms RT k_RuleReader_init j0 q_RuleReader_init P 3 26 [some (vR x0), some (vR x1)] [] G σ cs ss := h
set_option maxRecDepth 20000 in
theorem b_RuleReader_init_31 {C : jC} {d mc ms : Nat} {RT : Int → jG → jH → Prop} {P : jK} {G : jG} {σ : jH} {cs ss : Nat} (h :
  RT 0 G σ) :
  jwp C d mc ms RT k_RuleReader_init j0 q_RuleReader_init P 1 31 [none, none] [] G σ cs ss := h

def q_Asker_init : List (Nat × List Bool) := [(15, [true, true, true, true]), (20, [true, true, true, true]), (33, [true, true, true, true]), (42, [true, true, true, true]), (50, [true, true, true, true]), (55, [true, true, true, true]), (64, [true, true, true, true]), (73, [true, true, true, true]), (82, [true, true, true, true]), (87, [true, false, true, true]), (92, [true, false, false, true]), (97, [true, false, false, true]), (106, [false, false, false, false])]
set_option maxRecDepth 20000 in
theorem b_Asker_init_0 {C : jC} {d mc ms : Nat} {RT : Int → jG → jH → Prop} {P : jK} {G : jG} {σ : jH} {cs ss : Nat} {x0 : Int} {x1 : Int} {x2 : Int} {x3 : Int} (h :
  1 ≤ d ∧ 0 < x0 ∧
  cs + 1 ≤ mc ∧ ss + 3 ≤ ms ∧
  0 < ((G.1 + 1 : Nat) : Int) ∧ ∃ (d1 : Nat) (P1 : jG → jH → Prop), d1 < d ∧ CallG C.1 d1 0 0 m_Key_init [vR ((G.1 + 1 : Nat) : Int)] (jnewG G 11 3) (jnewH G σ) (fun _ => P1) ∧ (cs + 1) + 0 ≤ mc ∧ (ss + 3) + 0 ≤ ms ∧ ∀ (G1 : jG) (σ1 : jH), P1 G1 σ1 →
  (G1.2.1 x0).1 = 8 ∧
  P 15 [some (vR x0), some (vR x1), some (vR x2), some (vR x3)] [] ((G1.1, G1.2.1, ju G1.2.2 x0 3 ((G.1 + 1 : Nat) : Int)) : jG) σ1 ((cs + 1) + 0) ((ss + 3) + 0)) :
  jwp C d mc ms RT k_Asker_init j0 q_Asker_init P 7 0 [some (vR x0), some (vR x1), some (vR x2), some (vR x3)] [] G σ cs ss := h
set_option maxRecDepth 20000 in
theorem b_Asker_init_15 {C : jC} {d mc ms : Nat} {RT : Int → jG → jH → Prop} {P : jK} {G : jG} {σ : jH} {cs ss : Nat} {x0 : Int} {x1 : Int} {x2 : Int} {x3 : Int} (h :
  (G.2.1 x0).1 = 8 ∧
  P 20 [some (vR x0), some (vR x1), some (vR x2), some (vR x3)] [] G (ju σ x0 5 0) cs ss) :
  jwp C d mc ms RT k_Asker_init j0 q_Asker_init P 3 15 [some (vR x0), some (vR x1), some (vR x2), some (vR x3)] [] G σ cs ss := h
set_option maxRecDepth 20000 in
theorem b_Asker_init_20 {C : jC} {d mc ms : Nat} {RT : Int → jG → jH → Prop} {P : jK} {G : jG} {σ : jH} {cs ss : Nat} {x0 : Int} {x1 : Int} {x2 : Int} {x3 : Int} (h :
  (0 : Int) ≤ 14 ∧ (14 : Int) < 60000000 ∧ (0 : Int) ≤ 300 ∧ (300 : Int) < 60000000 ∧ cs + 1 + Int.toNat 14 ≤ mc ∧ ss + Int.toNat 14 + Int.toNat 14 * Int.toNat 300 ≤ ms ∧
  ((jgridG G 6 2 14 300).2.1 x0).1 = 8 ∧
  P 33 [some (vR x0), some (vR x1), some (vR x2), some (vR x3)] [] (((jgridG G 6 2 14 300).1, (jgridG G 6 2 14 300).2.1, ju (jgridG G 6 2 14 300).2.2 x0 6 ((G.1 + 1 : Nat) : Int)) : jG) (jgridH G σ 14) (cs + 1 + Int.toNat 14) (ss + Int.toNat 14 + Int.toNat 14 * Int.toNat 300)) :
  jwp C d mc ms RT k_Asker_init j0 q_Asker_init P 5 20 [some (vR x0), some (vR x1), some (vR x2), some (vR x3)] [] G σ cs ss := h
set_option maxRecDepth 20000 in
theorem b_Asker_init_33 {C : jC} {d mc ms : Nat} {RT : Int → jG → jH → Prop} {P : jK} {G : jG} {σ : jH} {cs ss : Nat} {x0 : Int} {x1 : Int} {x2 : Int} {x3 : Int} (h :
  (0 : Int) ≤ 300 ∧ (300 : Int) < 60000000 ∧ cs + 1 ≤ mc ∧ ss + Int.toNat 300 ≤ ms ∧
  ((jnewG G 2 300).2.1 x0).1 = 8 ∧
  P 42 [some (vR x0), some (vR x1), some (vR x2), some (vR x3)] [] (((jnewG G 2 300).1, (jnewG G 2 300).2.1, ju (jnewG G 2 300).2.2 x0 7 ((G.1 + 1 : Nat) : Int)) : jG) (jnewH G σ) (cs + 1) (ss + Int.toNat 300)) :
  jwp C d mc ms RT k_Asker_init j0 q_Asker_init P 4 33 [some (vR x0), some (vR x1), some (vR x2), some (vR x3)] [] G σ cs ss := h
set_option maxRecDepth 20000 in
theorem b_Asker_init_42 {C : jC} {d mc ms : Nat} {RT : Int → jG → jH → Prop} {P : jK} {G : jG} {σ : jH} {cs ss : Nat} {x0 : Int} {x1 : Int} {x2 : Int} {x3 : Int} (h :
  (0 : Int) ≤ 40 ∧ (40 : Int) < 60000000 ∧ cs + 1 ≤ mc ∧ ss + Int.toNat 40 ≤ ms ∧
  ((jnewG G 2 40).2.1 x0).1 = 8 ∧
  P 50 [some (vR x0), some (vR x1), some (vR x2), some (vR x3)] [] (((jnewG G 2 40).1, (jnewG G 2 40).2.1, ju (jnewG G 2 40).2.2 x0 8 ((G.1 + 1 : Nat) : Int)) : jG) (jnewH G σ) (cs + 1) (ss + Int.toNat 40)) :
  jwp C d mc ms RT k_Asker_init j0 q_Asker_init P 4 42 [some (vR x0), some (vR x1), some (vR x2), some (vR x3)] [] G σ cs ss := h
set_option maxRecDepth 20000 in
theorem b_Asker_init_50 {C : jC} {d mc ms : Nat} {RT : Int → jG → jH → Prop} {P : jK} {G : jG} {σ : jH} {cs ss : Nat} {x0 : Int} {x1 : Int} {x2 : Int} {x3 : Int} (h :
  (G.2.1 x0).1 = 8 ∧
  P 55 [some (vR x0), some (vR x1), some (vR x2), some (vR x3)] [] G (ju σ x0 9 0) cs ss) :
  jwp C d mc ms RT k_Asker_init j0 q_Asker_init P 3 50 [some (vR x0), some (vR x1), some (vR x2), some (vR x3)] [] G σ cs ss := h
set_option maxRecDepth 20000 in
theorem b_Asker_init_55 {C : jC} {d mc ms : Nat} {RT : Int → jG → jH → Prop} {P : jK} {G : jG} {σ : jH} {cs ss : Nat} {x0 : Int} {x1 : Int} {x2 : Int} {x3 : Int} (h :
  (0 : Int) ≤ 300 ∧ (300 : Int) < 60000000 ∧ cs + 1 ≤ mc ∧ ss + Int.toNat 300 ≤ ms ∧
  ((jnewG G 1 300).2.1 x0).1 = 8 ∧
  P 64 [some (vR x0), some (vR x1), some (vR x2), some (vR x3)] [] (((jnewG G 1 300).1, (jnewG G 1 300).2.1, ju (jnewG G 1 300).2.2 x0 10 ((G.1 + 1 : Nat) : Int)) : jG) (jnewH G σ) (cs + 1) (ss + Int.toNat 300)) :
  jwp C d mc ms RT k_Asker_init j0 q_Asker_init P 4 55 [some (vR x0), some (vR x1), some (vR x2), some (vR x3)] [] G σ cs ss := h
set_option maxRecDepth 20000 in
theorem b_Asker_init_64 {C : jC} {d mc ms : Nat} {RT : Int → jG → jH → Prop} {P : jK} {G : jG} {σ : jH} {cs ss : Nat} {x0 : Int} {x1 : Int} {x2 : Int} {x3 : Int} (h :
  (0 : Int) ≤ 300 ∧ (300 : Int) < 60000000 ∧ cs + 1 ≤ mc ∧ ss + Int.toNat 300 ≤ ms ∧
  ((jnewG G 1 300).2.1 x0).1 = 8 ∧
  P 73 [some (vR x0), some (vR x1), some (vR x2), some (vR x3)] [] (((jnewG G 1 300).1, (jnewG G 1 300).2.1, ju (jnewG G 1 300).2.2 x0 11 ((G.1 + 1 : Nat) : Int)) : jG) (jnewH G σ) (cs + 1) (ss + Int.toNat 300)) :
  jwp C d mc ms RT k_Asker_init j0 q_Asker_init P 4 64 [some (vR x0), some (vR x1), some (vR x2), some (vR x3)] [] G σ cs ss := h
set_option maxRecDepth 20000 in
theorem b_Asker_init_73 {C : jC} {d mc ms : Nat} {RT : Int → jG → jH → Prop} {P : jK} {G : jG} {σ : jH} {cs ss : Nat} {x0 : Int} {x1 : Int} {x2 : Int} {x3 : Int} (h :
  (0 : Int) ≤ 300 ∧ (300 : Int) < 60000000 ∧ cs + 1 ≤ mc ∧ ss + Int.toNat 300 ≤ ms ∧
  ((jnewG G 1 300).2.1 x0).1 = 8 ∧
  P 82 [some (vR x0), some (vR x1), some (vR x2), some (vR x3)] [] (((jnewG G 1 300).1, (jnewG G 1 300).2.1, ju (jnewG G 1 300).2.2 x0 12 ((G.1 + 1 : Nat) : Int)) : jG) (jnewH G σ) (cs + 1) (ss + Int.toNat 300)) :
  jwp C d mc ms RT k_Asker_init j0 q_Asker_init P 4 73 [some (vR x0), some (vR x1), some (vR x2), some (vR x3)] [] G σ cs ss := h
set_option maxRecDepth 20000 in
theorem b_Asker_init_82 {C : jC} {d mc ms : Nat} {RT : Int → jG → jH → Prop} {P : jK} {G : jG} {σ : jH} {cs ss : Nat} {x0 : Int} {x1 : Int} {x2 : Int} {x3 : Int} (h :
  (G.2.1 x0).1 = 8 ∧
  P 87 [some (vR x0), none, some (vR x2), some (vR x3)] [] ((G.1, G.2.1, ju G.2.2 x0 0 x1) : jG) σ cs ss) :
  jwp C d mc ms RT k_Asker_init j0 q_Asker_init P 3 82 [some (vR x0), some (vR x1), some (vR x2), some (vR x3)] [] G σ cs ss := h
set_option maxRecDepth 20000 in
theorem b_Asker_init_87 {C : jC} {d mc ms : Nat} {RT : Int → jG → jH → Prop} {P : jK} {G : jG} {σ : jH} {cs ss : Nat} {x0 : Int} {x2 : Int} {x3 : Int} (h :
  (G.2.1 x0).1 = 8 ∧
  P 92 [some (vR x0), none, none, some (vR x3)] [] ((G.1, G.2.1, ju G.2.2 x0 1 x2) : jG) σ cs ss) :
  jwp C d mc ms RT k_Asker_init j0 q_Asker_init P 3 87 [some (vR x0), none, some (vR x2), some (vR x3)] [] G σ cs ss := h
set_option maxRecDepth 20000 in
theorem b_Asker_init_92 {C : jC} {d mc ms : Nat} {RT : Int → jG → jH → Prop} {P : jK} {G : jG} {σ : jH} {cs ss : Nat} {x0 : Int} {x3 : Int} (h :
  (G.2.1 x0).1 = 8 ∧
  P 97 [some (vR x0), none, none, some (vR x3)] [] ((G.1, G.2.1, ju G.2.2 x0 2 x3) : jG) σ cs ss) :
  jwp C d mc ms RT k_Asker_init j0 q_Asker_init P 3 92 [some (vR x0), none, none, some (vR x3)] [] G σ cs ss := h
set_option maxRecDepth 20000 in
theorem b_Asker_init_97 {C : jC} {d mc ms : Nat} {RT : Int → jG → jH → Prop} {P : jK} {G : jG} {σ : jH} {cs ss : Nat} {x0 : Int} {x3 : Int} (h :
  (G.2.1 x3).1 = 9 ∧
  cN C.1 d m_Book_wordsOf [vR x3, vI 0] G σ (fun (r1 : Int) (σ1 : jH) =>
  (G.2.1 x0).1 = 8 ∧
  P 106 [none, none, none, none] [] G (ju σ1 x0 4 r1) cs ss)) :
  jwp C d mc ms RT k_Asker_init j0 q_Asker_init P 5 97 [some (vR x0), none, none, some (vR x3)] [] G σ cs ss := h
set_option maxRecDepth 20000 in
theorem b_Asker_init_106 {C : jC} {d mc ms : Nat} {RT : Int → jG → jH → Prop} {P : jK} {G : jG} {σ : jH} {cs ss : Nat} (h :
  RT 0 G σ) :
  jwp C d mc ms RT k_Asker_init j0 q_Asker_init P 1 106 [none, none, none, none] [] G σ cs ss := h

def q_RuleReader_read : List (Nat × List Bool) := [(17, [true, false, true]), (48, [true, false, false])]
set_option maxRecDepth 20000 in
theorem b_RuleReader_read_0 {C : jC} {d mc ms : Nat} {RT : Int → jG → jH → Prop} {P : jK} {G : jG} {σ : jH} {cs ss : Nat} {x0 : Int} {x1 : Int} (h :
  (G.2.1 x0).1 = 14 ∧
  (G.2.1 (G.2.2 x0 1)).1 = 17 ∧
  cN C.1 d m_Tokens_open [vR (G.2.2 x0 1), vI x1] G σ (fun (r1 : Int) (σ1 : jH) =>
  (G.2.1 x0).1 = 14 ∧
  (G.2.1 (G.2.2 x0 0)).1 = 15 ∧
  cN C.1 d m_Rules_clear [vR (G.2.2 x0 0)] G σ1 (fun (r2 : Int) (σ2 : jH) =>
  P 17 [some (vR x0), none, some (vI 0)] [] G σ2 cs ss))) :
  jwp C d mc ms RT k_RuleReader_read j0 q_RuleReader_read P 9 0 [some (vR x0), some (vI x1), none] [] G σ cs ss := h
set_option maxRecDepth 20000 in
theorem b_RuleReader_read_17 {C : jC} {d mc ms : Nat} {RT : Int → jG → jH → Prop} {P : jK} {G : jG} {σ : jH} {cs ss : Nat} {x0 : Int} {x2 : Int} (h :
  (((20 : Int) ≤ x2 →
    P 48 [some (vR x0), none, none] [] G σ cs ss) ∧
  (x2 < 20 →
    (G.2.1 x0).1 = 14 ∧
    (G.2.1 (G.2.2 x0 1)).1 = 17 ∧
    (((σ (G.2.2 x0 1) 4) = 0 →
      P 48 [some (vR x0), none, none] [] G σ cs ss) ∧
    ((σ (G.2.2 x0 1) 4) ≠ 0 →
      (G.2.1 x0).1 = 14 ∧
      cN C.1 d m_RuleReader_readRule [vR x0] G σ (fun (r1 : Int) (σ1 : jH) =>
      ((r1 ≠ 0 →
        P 17 [some (vR x0), none, some (vI (w32 (x2 + 1)))] [] G σ1 cs ss) ∧
      (r1 = 0 →
        ((0 : Int) = 0 ∨ (0 : Int) = 1) ∧ RT 0 G σ1)))))))) :
  jwp C d mc ms RT k_RuleReader_read j0 q_RuleReader_read P 12 17 [some (vR x0), none, some (vI x2)] [] G σ cs ss := h
set_option maxRecDepth 20000 in
theorem b_RuleReader_read_48 {C : jC} {d mc ms : Nat} {RT : Int → jG → jH → Prop} {P : jK} {G : jG} {σ : jH} {cs ss : Nat} {x0 : Int} (h :
  (G.2.1 x0).1 = 14 ∧
  (G.2.1 (G.2.2 x0 1)).1 = 17 ∧
  (((σ (G.2.2 x0 1) 4) = 0 →
    (G.2.1 x0).1 = 14 ∧
    (G.2.1 (G.2.2 x0 0)).1 = 15 ∧
    cN C.1 d m_Rules_foldAll [vR (G.2.2 x0 0)] G σ (fun (r1 : Int) (σ1 : jH) =>
    ((1 : Int) = 0 ∨ (1 : Int) = 1) ∧ RT 1 G σ1)) ∧
  ((σ (G.2.2 x0 1) 4) ≠ 0 →
    (G.2.1 x0).1 = 14 ∧
    cN C.1 d m_RuleReader_refuseFurther [vR x0] G σ (fun (r2 : Int) (σ2 : jH) =>
    (r2 = 0 ∨ r2 = 1) ∧ RT r2 G σ2)))) :
  jwp C d mc ms RT k_RuleReader_read j0 q_RuleReader_read P 9 48 [some (vR x0), none, none] [] G σ cs ss := h

def q_Tokens_open : List (Nat × List Bool) := []
set_option maxRecDepth 20000 in
theorem b_Tokens_open_0 {C : jC} {d mc ms : Nat} {RT : Int → jG → jH → Prop} {P : jK} {G : jG} {σ : jH} {cs ss : Nat} {x0 : Int} {x1 : Int} (h :
  (G.2.1 x0).1 = 17 ∧
  (1 ≤ (G.2.1 (G.2.2 x0 0)).1 ∧ (G.2.1 (G.2.2 x0 0)).1 ≤ 7) ∧
  1 ≤ d ∧
  1 ≤ d ∧
  (G.2.1 x0).1 = 17 ∧
  (G.2.1 x0).1 = 17 ∧
  (G.2.1 x0).1 = 17 ∧
  (G.2.1 x0).1 = 17 ∧
  (G.2.1 x0).1 = 17 ∧
  cN C.1 d m_Tokens_advance [vR x0] G (ju (ju (ju (ju σ x0 1 (max 0 (min x1 (G.2.1 (G.2.2 x0 0)).2))) x0 3 0) x0 6 0) x0 7 (-1)) (fun (r1 : Int) (σ1 : jH) =>
  RT 0 G σ1)) :
  jwp C d mc ms RT k_Tokens_open j0 q_Tokens_open P 21 0 [some (vR x0), some (vI x1)] [] G σ cs ss := h

def q_Tokens_advance : List (Nat × List Bool) := [(0, [true, false]), (42, [true, false]), (86, [true, false])]
set_option maxRecDepth 20000 in
theorem b_Tokens_advance_0 {C : jC} {d mc ms : Nat} {RT : Int → jG → jH → Prop} {P : jK} {G : jG} {σ : jH} {cs ss : Nat} {x0 : Int} (h :
  (G.2.1 x0).1 = 17 ∧
  (G.2.1 x0).1 = 17 ∧
  (((σ x0 1) ≤ (σ x0 3) →
    P 42 [some (vR x0), none] [] G σ cs ss) ∧
  ((σ x0 3) < (σ x0 1) →
    (G.2.1 x0).1 = 17 ∧
    cN C.1 d m_Tokens_byteAhead [vR x0] G σ (fun (r1 : Int) (σ1 : jH) =>
    ((r1 = 32 →
      (G.2.1 x0).1 = 17 ∧
      (G.2.1 x0).1 = 17 ∧
      P 0 [some (vR x0), none] [] G (ju σ1 x0 3 (w32 ((σ1 x0 3) + 1))) cs ss) ∧
    (r1 ≠ 32 →
      (G.2.1 x0).1 = 17 ∧
      cN C.1 d m_Tokens_byteAhead [vR x0] G σ1 (fun (r2 : Int) (σ2 : jH) =>
      ((r2 ≠ 10 →
        P 42 [some (vR x0), none] [] G σ2 cs ss) ∧
      (r2 = 10 →
        (G.2.1 x0).1 = 17 ∧
        (G.2.1 x0).1 = 17 ∧
        P 0 [some (vR x0), none] [] G (ju σ2 x0 3 (w32 ((σ2 x0 3) + 1))) cs ss))))))))) :
  jwp C d mc ms RT k_Tokens_advance j0 q_Tokens_advance P 20 0 [some (vR x0), none] [] G σ cs ss := h
set_option maxRecDepth 20000 in
theorem b_Tokens_advance_42 {C : jC} {d mc ms : Nat} {RT : Int → jG → jH → Prop} {P : jK} {G : jG} {σ : jH} {cs ss : Nat} {x0 : Int} (h :
  (G.2.1 x0).1 = 17 ∧
  (G.2.1 x0).1 = 17 ∧
  (G.2.1 x0).1 = 17 ∧
  cN C.1 d m_Tokens_byteAhead [vR x0] G (ju σ x0 2 (σ x0 3)) (fun (r1 : Int) (σ1 : jH) =>
  (G.2.1 x0).1 = 17 ∧
  (G.2.1 x0).1 = 17 ∧
  (((σ1 x0 3) < (σ1 x0 1) →
    cN C.1 d m_WordPlaces_isLetter [vI r1] G σ1 (fun (r2 : Int) (σ2 : jH) =>
    ((r2 = 0 →
      cN C.1 d m_Tokens_isDigit [vI r1] G σ2 (fun (r3 : Int) (σ3 : jH) =>
      ((r3 = 0 →
        ((r1 = 59 →
          (G.2.1 x0).1 = 17 ∧
          (G.2.1 x0).1 = 17 ∧
          (G.2.1 x0).1 = 17 ∧
          RT 0 G (ju (ju σ3 x0 4 r1) x0 3 (w32 (((ju σ3 x0 4 r1) x0 3) + 1)))) ∧
        (r1 ≠ 59 →
          ((r1 = 40 →
            (G.2.1 x0).1 = 17 ∧
            (G.2.1 x0).1 = 17 ∧
            (G.2.1 x0).1 = 17 ∧
            RT 0 G (ju (ju σ3 x0 4 r1) x0 3 (w32 (((ju σ3 x0 4 r1) x0 3) + 1)))) ∧
          (r1 ≠ 40 →
            ((r1 = 41 →
              (G.2.1 x0).1 = 17 ∧
              (G.2.1 x0).1 = 17 ∧
              (G.2.1 x0).1 = 17 ∧
              RT 0 G (ju (ju σ3 x0 4 r1) x0 3 (w32 (((ju σ3 x0 4 r1) x0 3) + 1)))) ∧
            (r1 ≠ 41 →
              ((r1 ≠ 34 →
                (G.2.1 x0).1 = 17 ∧
                (G.2.1 x0).1 = 17 ∧
                (G.2.1 x0).1 = 17 ∧
                RT 0 G (ju (ju σ3 x0 4 3) x0 3 (w32 (((ju σ3 x0 4 3) x0 3) + 1)))) ∧
              (r1 = 34 →
                (G.2.1 x0).1 = 17 ∧
                (G.2.1 x0).1 = 17 ∧
                (G.2.1 x0).1 = 17 ∧
                RT 0 G (ju (ju σ3 x0 4 r1) x0 3 (w32 (((ju σ3 x0 4 r1) x0 3) + 1)))))))))))) ∧
      (r3 ≠ 0 →
        (G.2.1 x0).1 = 17 ∧
        cN C.1 d m_Tokens_readNumber [vR x0] G σ3 (fun (r4 : Int) (σ4 : jH) =>
        RT 0 G σ4))))) ∧
    (r2 ≠ 0 →
      (G.2.1 x0).1 = 17 ∧
      P 86 [some (vR x0), none] [] G (ju σ2 x0 4 1) cs ss)))) ∧
  ((σ1 x0 1) ≤ (σ1 x0 3) →
    (G.2.1 x0).1 = 17 ∧
    RT 0 G (ju σ1 x0 4 0))))) :
  jwp C d mc ms RT k_Tokens_advance j0 q_Tokens_advance P 41 42 [some (vR x0), none] [] G σ cs ss := h
set_option maxRecDepth 20000 in
theorem b_Tokens_advance_86 {C : jC} {d mc ms : Nat} {RT : Int → jG → jH → Prop} {P : jK} {G : jG} {σ : jH} {cs ss : Nat} {x0 : Int} (h :
  (G.2.1 x0).1 = 17 ∧
  (G.2.1 x0).1 = 17 ∧
  (((σ x0 1) ≤ (σ x0 3) →
    RT 0 G σ) ∧
  ((σ x0 3) < (σ x0 1) →
    (G.2.1 x0).1 = 17 ∧
    cN C.1 d m_Tokens_byteAhead [vR x0] G σ (fun (r1 : Int) (σ1 : jH) =>
    cN C.1 d m_WordPlaces_isLetter [vI r1] G σ1 (fun (r2 : Int) (σ2 : jH) =>
    ((r2 = 0 →
      RT 0 G σ2) ∧
    (r2 ≠ 0 →
      (G.2.1 x0).1 = 17 ∧
      (G.2.1 x0).1 = 17 ∧
      P 86 [some (vR x0), none] [] G (ju σ2 x0 3 (w32 ((σ2 x0 3) + 1))) cs ss))))))) :
  jwp C d mc ms RT k_Tokens_advance j0 q_Tokens_advance P 16 86 [some (vR x0), none] [] G σ cs ss := h

def q_Tokens_byteAhead : List (Nat × List Bool) := []
set_option maxRecDepth 20000 in
theorem b_Tokens_byteAhead_0 {C : jC} {d mc ms : Nat} {RT : Int → jG → jH → Prop} {P : jK} {G : jG} {σ : jH} {cs ss : Nat} {x0 : Int} (h :
  (G.2.1 x0).1 = 17 ∧
  (((σ x0 3) < 0 →
    RT (-1) G σ) ∧
  ((0 : Int) ≤ (σ x0 3) →
    (G.2.1 x0).1 = 17 ∧
    (G.2.1 x0).1 = 17 ∧
    (((σ x0 1) ≤ (σ x0 3) →
      RT (-1) G σ) ∧
    ((σ x0 3) < (σ x0 1) →
      (G.2.1 x0).1 = 17 ∧
      (G.2.1 x0).1 = 17 ∧
      (1 ≤ (G.2.1 (G.2.2 x0 0)).1 ∧ (G.2.1 (G.2.2 x0 0)).1 ≤ 7) ∧
      (((G.2.1 (G.2.2 x0 0)).2 ≤ (σ x0 3) →
        RT (-1) G σ) ∧
      ((σ x0 3) < (G.2.1 (G.2.2 x0 0)).2 →
        (G.2.1 x0).1 = 17 ∧
        (G.2.1 x0).1 = 17 ∧
        (G.2.1 (G.2.2 x0 0)).1 = 2 ∧ (0 : Int) ≤ (σ x0 3) ∧ (σ x0 3) < (G.2.1 (G.2.2 x0 0)).2 ∧
        RT (σ (G.2.2 x0 0) (σ x0 3)) G σ))))))) :
  jwp C d mc ms RT k_Tokens_byteAhead j0 q_Tokens_byteAhead P 21 0 [some (vR x0)] [] G σ cs ss := h

def q_Tokens_isDigit : List (Nat × List Bool) := []
set_option maxRecDepth 20000 in
theorem b_Tokens_isDigit_0 {C : jC} {d mc ms : Nat} {RT : Int → jG → jH → Prop} {P : jK} {G : jG} {σ : jH} {cs ss : Nat} {x0 : Int} (h :
  ((x0 < 48 →
    ((0 : Int) = 0 ∨ (0 : Int) = 1) ∧ RT 0 G σ) ∧
  ((48 : Int) ≤ x0 →
    (((57 : Int) < x0 →
      ((0 : Int) = 0 ∨ (0 : Int) = 1) ∧ RT 0 G σ) ∧
    (x0 ≤ 57 →
      ((1 : Int) = 0 ∨ (1 : Int) = 1) ∧ RT 1 G σ))))) :
  jwp C d mc ms RT k_Tokens_isDigit j0 q_Tokens_isDigit P 9 0 [some (vI x0)] [] G σ cs ss := h

def q_Tokens_readNumber : List (Nat × List Bool) := [(10, [true])]
set_option maxRecDepth 20000 in
theorem b_Tokens_readNumber_0 {C : jC} {d mc ms : Nat} {RT : Int → jG → jH → Prop} {P : jK} {G : jG} {σ : jH} {cs ss : Nat} {x0 : Int} (h :
  (G.2.1 x0).1 = 17 ∧
  (G.2.1 x0).1 = 17 ∧
  P 10 [some (vR x0)] [] G (ju (ju σ x0 4 2) x0 5 0) cs ss) :
  jwp C d mc ms RT k_Tokens_readNumber j0 q_Tokens_readNumber P 6 0 [some (vR x0)] [] G σ cs ss := h
set_option maxRecDepth 20000 in
theorem b_Tokens_readNumber_10 {C : jC} {d mc ms : Nat} {RT : Int → jG → jH → Prop} {P : jK} {G : jG} {σ : jH} {cs ss : Nat} {x0 : Int} (h :
  (G.2.1 x0).1 = 17 ∧
  (G.2.1 x0).1 = 17 ∧
  (((σ x0 1) ≤ (σ x0 3) →
    RT 0 G σ) ∧
  ((σ x0 3) < (σ x0 1) →
    (G.2.1 x0).1 = 17 ∧
    cN C.1 d m_Tokens_byteAhead [vR x0] G σ (fun (r1 : Int) (σ1 : jH) =>
    cN C.1 d m_Tokens_isDigit [vI r1] G σ1 (fun (r2 : Int) (σ2 : jH) =>
    ((r2 = 0 →
      RT 0 G σ2) ∧
    (r2 ≠ 0 →
      (G.2.1 x0).1 = 17 ∧
      (G.2.1 x0).1 = 17 ∧
      cN C.1 d m_Tokens_byteAhead [vR x0] G σ2 (fun (r3 : Int) (σ3 : jH) =>
      1 ≤ d ∧
      (G.2.1 x0).1 = 17 ∧
      (G.2.1 x0).1 = 17 ∧
      (G.2.1 x0).1 = 17 ∧
      P 10 [some (vR x0)] [] G (ju (ju σ3 x0 5 (min 1000 (w32 ((w32 ((w32 ((σ2 x0 5) * 10)) + r3)) - 48)))) x0 3 (w32 (((ju σ3 x0 5 (min 1000 (w32 ((w32 ((w32 ((σ2 x0 5) * 10)) + r3)) - 48)))) x0 3) + 1))) cs ss)))))))) :
  jwp C d mc ms RT k_Tokens_readNumber j0 q_Tokens_readNumber P 29 10 [some (vR x0)] [] G σ cs ss := h

def q_RuleReader_readRule : List (Nat × List Bool) := [(89, [true, true])]
set_option maxRecDepth 20000 in
theorem b_RuleReader_readRule_0 {C : jC} {d mc ms : Nat} {RT : Int → jG → jH → Prop} {P : jK} {G : jG} {σ : jH} {cs ss : Nat} {x0 : Int} (h :
  (G.2.1 x0).1 = 14 ∧
  (G.2.1 (G.2.2 x0 1)).1 = 17 ∧
  cN C.1 d m_Tokens_is [vR (G.2.2 x0 1), vT 0] G σ (fun (r1 : Int) (σ1 : jH) =>
  ((r1 = 0 →
    (G.2.1 x0).1 = 14 ∧
    (G.2.1 (G.2.2 x0 1)).1 = 17 ∧
    cN C.1 d m_Tokens_is [vR (G.2.2 x0 1), vT 2] G σ1 (fun (r2 : Int) (σ2 : jH) =>
    ((r2 = 0 →
      (G.2.1 x0).1 = 14 ∧
      (G.2.1 (G.2.2 x0 1)).1 = 17 ∧
      cN C.1 d m_Tokens_is [vR (G.2.2 x0 1), vT 3] G σ2 (fun (r3 : Int) (σ3 : jH) =>
      ((r3 = 0 →
        (G.2.1 x0).1 = 14 ∧
        (G.2.1 (G.2.2 x0 1)).1 = 17 ∧
        cN C.1 d m_Tokens_is [vR (G.2.2 x0 1), vT 5] G σ3 (fun (r4 : Int) (σ4 : jH) =>
        ((r4 = 0 →
          (G.2.1 x0).1 = 14 ∧
          (G.2.1 (G.2.2 x0 1)).1 = 17 ∧
          cN C.1 d m_Tokens_fail [vR (G.2.2 x0 1), vI 1] G σ4 (fun (r5 : Int) (σ5 : jH) =>
          P 89 [some (vR x0), some (vI r5)] [] G σ5 cs ss)) ∧
        (r4 ≠ 0 →
          (G.2.1 x0).1 = 14 ∧
          cN C.1 d m_RuleReader_readOrder [vR x0] G σ4 (fun (r6 : Int) (σ6 : jH) =>
          P 89 [some (vR x0), some (vI r6)] [] G σ6 cs ss))))) ∧
      (r3 ≠ 0 →
        (G.2.1 x0).1 = 14 ∧
        cN C.1 d m_RuleReader_readRoot [vR x0] G σ3 (fun (r7 : Int) (σ7 : jH) =>
        P 89 [some (vR x0), some (vI r7)] [] G σ7 cs ss))))) ∧
    (r2 ≠ 0 →
      (G.2.1 x0).1 = 14 ∧
      cN C.1 d m_RuleReader_readStop [vR x0] G σ2 (fun (r8 : Int) (σ8 : jH) =>
      P 89 [some (vR x0), some (vI r8)] [] G σ8 cs ss))))) ∧
  (r1 ≠ 0 →
    (G.2.1 x0).1 = 14 ∧
    cN C.1 d m_RuleReader_readFold [vR x0] G σ1 (fun (r9 : Int) (σ9 : jH) =>
    P 89 [some (vR x0), some (vI r9)] [] G σ9 cs ss))))) :
  jwp C d mc ms RT k_RuleReader_readRule j0 q_RuleReader_readRule P 25 0 [some (vR x0), none] [] G σ cs ss := h
set_option maxRecDepth 20000 in
theorem b_RuleReader_readRule_89 {C : jC} {d mc ms : Nat} {RT : Int → jG → jH → Prop} {P : jK} {G : jG} {σ : jH} {cs ss : Nat} {x0 : Int} {x1 : Int} (h :
  ((x1 ≠ 0 →
    (G.2.1 x0).1 = 14 ∧
    (G.2.1 (G.2.2 x0 1)).1 = 17 ∧
    (((σ (G.2.2 x0 1) 4) = 59 →
      (G.2.1 x0).1 = 14 ∧
      (G.2.1 (G.2.2 x0 1)).1 = 17 ∧
      cN C.1 d m_Tokens_advance [vR (G.2.2 x0 1)] G σ (fun (r1 : Int) (σ1 : jH) =>
      (G.2.1 x0).1 = 14 ∧
      (G.2.1 (G.2.2 x0 0)).1 = 15 ∧
      (G.2.1 (G.2.2 x0 0)).1 = 15 ∧
      ((1 : Int) = 0 ∨ (1 : Int) = 1) ∧ RT 1 G (ju σ1 (G.2.2 x0 0) 0 (w32 ((σ1 (G.2.2 x0 0) 0) + 1))))) ∧
    ((σ (G.2.2 x0 1) 4) ≠ 59 →
      (G.2.1 x0).1 = 14 ∧
      (G.2.1 (G.2.2 x0 1)).1 = 17 ∧
      cN C.1 d m_Tokens_fail [vR (G.2.2 x0 1), vI 1] G σ (fun (r2 : Int) (σ2 : jH) =>
      (r2 = 0 ∨ r2 = 1) ∧ RT r2 G σ2)))) ∧
  (x1 = 0 →
    ((0 : Int) = 0 ∨ (0 : Int) = 1) ∧ RT 0 G σ))) :
  jwp C d mc ms RT k_RuleReader_readRule j0 q_RuleReader_readRule P 19 89 [some (vR x0), some (vI x1)] [] G σ cs ss := h

def q_Tokens_is : List (Nat × List Bool) := [(28, [true, true, true])]
set_option maxRecDepth 20000 in
theorem b_Tokens_is_0 {C : jC} {d mc ms : Nat} {RT : Int → jG → jH → Prop} {P : jK} {G : jG} {σ : jH} {cs ss : Nat} {x0 : Int} {x1 : Nat} (h :
  (G.2.1 x0).1 = 17 ∧
  (((σ x0 4) ≠ 1 →
    ((0 : Int) = 0 ∨ (0 : Int) = 1) ∧ RT 0 G σ) ∧
  ((σ x0 4) = 1 →
    (G.2.1 x0).1 = 17 ∧
    (G.2.1 x0).1 = 17 ∧
    x1 < jtxs.length ∧ 9 ≤ d ∧
    (((w32 ((σ x0 3) - (σ x0 2))) = (((jtb x1).length : Nat) : Int) →
      P 28 [some (vR x0), some (vT x1), some (vI 0)] [] G σ cs ss) ∧
    ((w32 ((σ x0 3) - (σ x0 2))) ≠ (((jtb x1).length : Nat) : Int) →
      ((0 : Int) = 0 ∨ (0 : Int) = 1) ∧ RT 0 G σ))))) :
  jwp C d mc ms RT k_Tokens_is j0 q_Tokens_is P 14 0 [some (vR x0), some (vT x1), none] [] G σ cs ss := h
set_option maxRecDepth 20000 in
theorem b_Tokens_is_28 {C : jC} {d mc ms : Nat} {RT : Int → jG → jH → Prop} {P : jK} {G : jG} {σ : jH} {cs ss : Nat} {x0 : Int} {x1 : Nat} {x2 : Int} (h :
  x1 < jtxs.length ∧ 9 ≤ d ∧
  (((((jtb x1).length : Nat) : Int) ≤ x2 →
    ((1 : Int) = 0 ∨ (1 : Int) = 1) ∧ RT 1 G σ) ∧
  (x2 < (((jtb x1).length : Nat) : Int) →
    (G.2.1 x0).1 = 17 ∧
    cN C.1 d m_Tokens_letterAt [vR x0, vI x2] G σ (fun (r1 : Int) (σ1 : jH) =>
    9 ≤ d ∧ 0 ≤ x2 ∧ x2 < (((jtb x1).length : Nat) : Int) ∧
    ((r1 = (w32 (((((jtb x1).getD (Int.toNat x2) 0) : Nat) : Int) - 97)) →
      P 28 [some (vR x0), some (vT x1), some (vI (w32 (x2 + 1)))] [] G σ1 cs ss) ∧
    (r1 ≠ (w32 (((((jtb x1).getD (Int.toNat x2) 0) : Nat) : Int) - 97)) →
      ((0 : Int) = 0 ∨ (0 : Int) = 1) ∧ RT 0 G σ1)))))) :
  jwp C d mc ms RT k_Tokens_is j0 q_Tokens_is P 15 28 [some (vR x0), some (vT x1), some (vI x2)] [] G σ cs ss := h

def q_Tokens_letterAt : List (Nat × List Bool) := []
set_option maxRecDepth 20000 in
theorem b_Tokens_letterAt_0 {C : jC} {d mc ms : Nat} {RT : Int → jG → jH → Prop} {P : jK} {G : jG} {σ : jH} {cs ss : Nat} {x0 : Int} {x1 : Int} (h :
  (G.2.1 x0).1 = 17 ∧
  ((x1 < 0 →
    RT (-1) G σ) ∧
  ((0 : Int) ≤ x1 →
    (((w32 ((σ x0 2) + x1)) < 0 →
      RT (-1) G σ) ∧
    ((0 : Int) ≤ (w32 ((σ x0 2) + x1)) →
      (G.2.1 x0).1 = 17 ∧
      (((σ x0 3) ≤ (w32 ((σ x0 2) + x1)) →
        RT (-1) G σ) ∧
      ((w32 ((σ x0 2) + x1)) < (σ x0 3) →
        (G.2.1 x0).1 = 17 ∧
        (1 ≤ (G.2.1 (G.2.2 x0 0)).1 ∧ (G.2.1 (G.2.2 x0 0)).1 ≤ 7) ∧
        (((G.2.1 (G.2.2 x0 0)).2 ≤ (w32 ((σ x0 2) + x1)) →
          RT (-1) G σ) ∧
        ((w32 ((σ x0 2) + x1)) < (G.2.1 (G.2.2 x0 0)).2 →
          (G.2.1 x0).1 = 17 ∧
          (G.2.1 (G.2.2 x0 0)).1 = 2 ∧ (0 : Int) ≤ (w32 ((σ x0 2) + x1)) ∧ (w32 ((σ x0 2) + x1)) < (G.2.1 (G.2.2 x0 0)).2 ∧
          RT (w32 ((σ (G.2.2 x0 0) (w32 ((σ x0 2) + x1))) - 97)) G σ))))))))) :
  jwp C d mc ms RT k_Tokens_letterAt j0 q_Tokens_letterAt P 26 0 [some (vR x0), some (vI x1), none] [] G σ cs ss := h

def q_RuleReader_readFold : List (Nat × List Bool) := []
set_option maxRecDepth 20000 in
theorem b_RuleReader_readFold_0 {C : jC} {d mc ms : Nat} {RT : Int → jG → jH → Prop} {P : jK} {G : jG} {σ : jH} {cs ss : Nat} {x0 : Int} (h :
  (G.2.1 x0).1 = 14 ∧
  (G.2.1 (G.2.2 x0 1)).1 = 17 ∧
  cN C.1 d m_Tokens_advance [vR (G.2.2 x0 1)] G σ (fun (r1 : Int) (σ1 : jH) =>
  (G.2.1 x0).1 = 14 ∧
  (G.2.1 (G.2.2 x0 1)).1 = 17 ∧
  cN C.1 d m_Tokens_onlyLetter [vR (G.2.2 x0 1)] G σ1 (fun (r2 : Int) (σ2 : jH) =>
  ((r2 < 0 →
    (G.2.1 x0).1 = 14 ∧
    (G.2.1 (G.2.2 x0 1)).1 = 17 ∧
    cN C.1 d m_Tokens_fail [vR (G.2.2 x0 1), vI 1] G σ2 (fun (r3 : Int) (σ3 : jH) =>
    (r3 = 0 ∨ r3 = 1) ∧ RT r3 G σ3)) ∧
  ((0 : Int) ≤ r2 →
    ((r2 < 26 →
      (G.2.1 x0).1 = 14 ∧
      (G.2.1 (G.2.2 x0 0)).1 = 15 ∧
      (G.2.1 (G.2.2 (G.2.2 x0 0) 2)).1 = 2 ∧ (0 : Int) ≤ r2 ∧ r2 < (G.2.1 (G.2.2 (G.2.2 x0 0) 2)).2 ∧
      (((σ2 (G.2.2 (G.2.2 x0 0) 2) r2) = 0 →
        (G.2.1 x0).1 = 14 ∧
        (G.2.1 (G.2.2 x0 1)).1 = 17 ∧
        cN C.1 d m_Tokens_advance [vR (G.2.2 x0 1)] G σ2 (fun (r4 : Int) (σ4 : jH) =>
        (G.2.1 x0).1 = 14 ∧
        (G.2.1 (G.2.2 x0 1)).1 = 17 ∧
        cN C.1 d m_Tokens_is [vR (G.2.2 x0 1), vT 1] G σ4 (fun (r5 : Int) (σ5 : jH) =>
        ((r5 ≠ 0 →
          (G.2.1 x0).1 = 14 ∧
          (G.2.1 (G.2.2 x0 1)).1 = 17 ∧
          cN C.1 d m_Tokens_advance [vR (G.2.2 x0 1)] G σ5 (fun (r6 : Int) (σ6 : jH) =>
          (G.2.1 x0).1 = 14 ∧
          (G.2.1 (G.2.2 x0 1)).1 = 17 ∧
          cN C.1 d m_Tokens_onlyLetter [vR (G.2.2 x0 1)] G σ6 (fun (r7 : Int) (σ7 : jH) =>
          ((r7 < 0 →
            (G.2.1 x0).1 = 14 ∧
            (G.2.1 (G.2.2 x0 1)).1 = 17 ∧
            cN C.1 d m_Tokens_fail [vR (G.2.2 x0 1), vI 1] G σ7 (fun (r8 : Int) (σ8 : jH) =>
            (r8 = 0 ∨ r8 = 1) ∧ RT r8 G σ8)) ∧
          ((0 : Int) ≤ r7 →
            ((r7 < 26 →
              (G.2.1 x0).1 = 14 ∧
              (G.2.1 (G.2.2 x0 1)).1 = 17 ∧
              cN C.1 d m_Tokens_advance [vR (G.2.2 x0 1)] G σ7 (fun (r9 : Int) (σ9 : jH) =>
              (G.2.1 x0).1 = 14 ∧
              (G.2.1 (G.2.2 x0 0)).1 = 15 ∧
              (G.2.1 (G.2.2 (G.2.2 x0 0) 1)).1 = 2 ∧ (0 : Int) ≤ r2 ∧ r2 < (G.2.1 (G.2.2 (G.2.2 x0 0) 1)).2 ∧
              (G.2.1 x0).1 = 14 ∧
              (G.2.1 (G.2.2 x0 0)).1 = 15 ∧
              (G.2.1 (G.2.2 (G.2.2 x0 0) 2)).1 = 2 ∧ (0 : Int) ≤ r2 ∧ r2 < (G.2.1 (G.2.2 (G.2.2 x0 0) 2)).2 ∧
              (G.2.1 x0).1 = 14 ∧
              (G.2.1 (G.2.2 x0 0)).1 = 15 ∧
              (G.2.1 (G.2.2 x0 0)).1 = 15 ∧
              ((1 : Int) = 0 ∨ (1 : Int) = 1) ∧ RT 1 G (ju (ju (ju σ9 (G.2.2 (G.2.2 x0 0) 1) r2 (w8 (w8 r7))) (G.2.2 (G.2.2 x0 0) 2) r2 (w8 1)) (G.2.2 x0 0) 3 (w32 (((ju (ju σ9 (G.2.2 (G.2.2 x0 0) 1) r2 (w8 (w8 r7))) (G.2.2 (G.2.2 x0 0) 2) r2 (w8 1)) (G.2.2 x0 0) 3) + 1))))) ∧
            ((26 : Int) ≤ r7 →
              (G.2.1 x0).1 = 14 ∧
              (G.2.1 (G.2.2 x0 1)).1 = 17 ∧
              cN C.1 d m_Tokens_fail [vR (G.2.2 x0 1), vI 1] G σ7 (fun (r10 : Int) (σ10 : jH) =>
              (r10 = 0 ∨ r10 = 1) ∧ RT r10 G σ10)))))))) ∧
        (r5 = 0 →
          (G.2.1 x0).1 = 14 ∧
          (G.2.1 (G.2.2 x0 1)).1 = 17 ∧
          cN C.1 d m_Tokens_fail [vR (G.2.2 x0 1), vI 1] G σ5 (fun (r11 : Int) (σ11 : jH) =>
          (r11 = 0 ∨ r11 = 1) ∧ RT r11 G σ11)))))) ∧
      ((σ2 (G.2.2 (G.2.2 x0 0) 2) r2) ≠ 0 →
        (G.2.1 x0).1 = 14 ∧
        (G.2.1 (G.2.2 x0 1)).1 = 17 ∧
        cN C.1 d m_Tokens_fail [vR (G.2.2 x0 1), vI 2] G σ2 (fun (r12 : Int) (σ12 : jH) =>
        (r12 = 0 ∨ r12 = 1) ∧ RT r12 G σ12)))) ∧
    ((26 : Int) ≤ r2 →
      (G.2.1 x0).1 = 14 ∧
      (G.2.1 (G.2.2 x0 1)).1 = 17 ∧
      cN C.1 d m_Tokens_fail [vR (G.2.2 x0 1), vI 1] G σ2 (fun (r13 : Int) (σ13 : jH) =>
      (r13 = 0 ∨ r13 = 1) ∧ RT r13 G σ13)))))))) :
  jwp C d mc ms RT k_RuleReader_readFold j0 q_RuleReader_readFold P 63 0 [some (vR x0), none, none] [] G σ cs ss := h

def q_Tokens_onlyLetter : List (Nat × List Bool) := []
set_option maxRecDepth 20000 in
theorem b_Tokens_onlyLetter_0 {C : jC} {d mc ms : Nat} {RT : Int → jG → jH → Prop} {P : jK} {G : jG} {σ : jH} {cs ss : Nat} {x0 : Int} (h :
  (G.2.1 x0).1 = 17 ∧
  cN C.1 d m_Tokens_letterCount [vR x0] G σ (fun (r1 : Int) (σ1 : jH) =>
  ((r1 ≠ 1 →
    RT (-1) G σ1) ∧
  (r1 = 1 →
    (G.2.1 x0).1 = 17 ∧
    cN C.1 d m_Tokens_letterAt [vR x0, vI 0] G σ1 (fun (r2 : Int) (σ2 : jH) =>
    RT r2 G σ2))))) :
  jwp C d mc ms RT k_Tokens_onlyLetter j0 q_Tokens_onlyLetter P 9 0 [some (vR x0)] [] G σ cs ss := h

def q_Tokens_letterCount : List (Nat × List Bool) := []
set_option maxRecDepth 20000 in
theorem b_Tokens_letterCount_0 {C : jC} {d mc ms : Nat} {RT : Int → jG → jH → Prop} {P : jK} {G : jG} {σ : jH} {cs ss : Nat} {x0 : Int} (h :
  (G.2.1 x0).1 = 17 ∧
  (((σ x0 4) ≠ 1 →
    RT 0 G σ) ∧
  ((σ x0 4) = 1 →
    (G.2.1 x0).1 = 17 ∧
    (G.2.1 x0).1 = 17 ∧
    RT (w32 ((σ x0 3) - (σ x0 2))) G σ))) :
  jwp C d mc ms RT k_Tokens_letterCount j0 q_Tokens_letterCount P 11 0 [some (vR x0)] [] G σ cs ss := h

def q_Tokens_fail : List (Nat × List Bool) := []
set_option maxRecDepth 20000 in
theorem b_Tokens_fail_0 {C : jC} {d mc ms : Nat} {RT : Int → jG → jH → Prop} {P : jK} {G : jG} {σ : jH} {cs ss : Nat} {x0 : Int} {x1 : Int} (h :
  (G.2.1 x0).1 = 17 ∧
  (G.2.1 x0).1 = 17 ∧
  (G.2.1 x0).1 = 17 ∧
  ((0 : Int) = 0 ∨ (0 : Int) = 1) ∧ RT 0 G (ju (ju σ x0 6 x1) x0 7 ((ju σ x0 6 x1) x0 2))) :
  jwp C d mc ms RT k_Tokens_fail j0 q_Tokens_fail P 9 0 [some (vR x0), some (vI x1)] [] G σ cs ss := h

def q_RuleReader_readStop : List (Nat × List Bool) := []
set_option maxRecDepth 20000 in
theorem b_RuleReader_readStop_0 {C : jC} {d mc ms : Nat} {RT : Int → jG → jH → Prop} {P : jK} {G : jG} {σ : jH} {cs ss : Nat} {x0 : Int} (h :
  (G.2.1 x0).1 = 14 ∧
  (G.2.1 (G.2.2 x0 1)).1 = 17 ∧
  cN C.1 d m_Tokens_advance [vR (G.2.2 x0 1)] G σ (fun (r1 : Int) (σ1 : jH) =>
  (G.2.1 x0).1 = 14 ∧
  (G.2.1 (G.2.2 x0 0)).1 = 15 ∧
  (G.2.1 x0).1 = 14 ∧
  (G.2.1 (G.2.2 x0 0)).1 = 15 ∧
  (G.2.1 x0).1 = 14 ∧
  cN C.1 d m_RuleReader_readWord [vR x0, vR (G.2.2 (G.2.2 x0 0) 4), vI (σ1 (G.2.2 x0 0) 5)] G σ1 (fun (r2 : Int) (σ2 : jH) =>
  ((r2 ≠ 0 →
    (G.2.1 x0).1 = 14 ∧
    (G.2.1 (G.2.2 x0 0)).1 = 15 ∧
    (G.2.1 (G.2.2 x0 0)).1 = 15 ∧
    ((1 : Int) = 0 ∨ (1 : Int) = 1) ∧ RT 1 G (ju σ2 (G.2.2 x0 0) 5 (w32 ((σ2 (G.2.2 x0 0) 5) + 1)))) ∧
  (r2 = 0 →
    ((0 : Int) = 0 ∨ (0 : Int) = 1) ∧ RT 0 G σ2))))) :
  jwp C d mc ms RT k_RuleReader_readStop j0 q_RuleReader_readStop P 21 0 [some (vR x0)] [] G σ cs ss := h

def q_RuleReader_readWord : List (Nat × List Bool) := []
set_option maxRecDepth 20000 in
theorem b_RuleReader_readWord_0 {C : jC} {d mc ms : Nat} {RT : Int → jG → jH → Prop} {P : jK} {G : jG} {σ : jH} {cs ss : Nat} {x0 : Int} {x1 : Int} {x2 : Int} (h :
  (G.2.1 x0).1 = 14 ∧
  (G.2.1 (G.2.2 x0 1)).1 = 17 ∧
  (((σ (G.2.2 x0 1) 4) = 1 →
    (G.2.1 x0).1 = 14 ∧
    (G.2.1 x0).1 = 14 ∧
    (G.2.1 (G.2.2 x0 1)).1 = 17 ∧
    cN C.1 d m_Tokens_readInto [vR (G.2.2 x0 1), vR (G.2.2 x0 2)] G σ (fun (r1 : Int) (σ1 : jH) =>
    (G.2.1 x0).1 = 14 ∧
    (G.2.1 (G.2.2 x0 2)).1 = 11 ∧
    (G.2.1 x0).1 = 14 ∧
    (G.2.1 (G.2.2 x0 2)).1 = 11 ∧
    (G.2.1 x1).1 = 12 ∧
    cN C.1 d m_KeyRow_put [vR x1, vI x2, vL (σ1 (G.2.2 x0 2) 0), vL (σ1 (G.2.2 x0 2) 1)] G σ1 (fun (r2 : Int) (σ2 : jH) =>
    (G.2.1 x0).1 = 14 ∧
    (G.2.1 (G.2.2 x0 1)).1 = 17 ∧
    cN C.1 d m_Tokens_advance [vR (G.2.2 x0 1)] G σ2 (fun (r3 : Int) (σ3 : jH) =>
    ((1 : Int) = 0 ∨ (1 : Int) = 1) ∧ RT 1 G σ3)))) ∧
  ((σ (G.2.2 x0 1) 4) ≠ 1 →
    (G.2.1 x0).1 = 14 ∧
    (G.2.1 (G.2.2 x0 1)).1 = 17 ∧
    cN C.1 d m_Tokens_fail [vR (G.2.2 x0 1), vI 1] G σ (fun (r4 : Int) (σ4 : jH) =>
    (r4 = 0 ∨ r4 = 1) ∧ RT r4 G σ4)))) :
  jwp C d mc ms RT k_RuleReader_readWord j0 q_RuleReader_readWord P 24 0 [some (vR x0), some (vR x1), some (vI x2)] [] G σ cs ss := h

def q_Tokens_readInto : List (Nat × List Bool) := [(6, [true, true, true])]
set_option maxRecDepth 20000 in
theorem b_Tokens_readInto_0 {C : jC} {d mc ms : Nat} {RT : Int → jG → jH → Prop} {P : jK} {G : jG} {σ : jH} {cs ss : Nat} {x0 : Int} {x1 : Int} (h :
  (G.2.1 x1).1 = 11 ∧
  cN C.1 d m_Key_clear [vR x1] G σ (fun (r1 : Int) (σ1 : jH) =>
  P 6 [some (vR x0), some (vR x1), some (vI 0)] [] G σ1 cs ss)) :
  jwp C d mc ms RT k_Tokens_readInto j0 q_Tokens_readInto P 4 0 [some (vR x0), some (vR x1), none] [] G σ cs ss := h
set_option maxRecDepth 20000 in
theorem b_Tokens_readInto_6 {C : jC} {d mc ms : Nat} {RT : Int → jG → jH → Prop} {P : jK} {G : jG} {σ : jH} {cs ss : Nat} {x0 : Int} {x1 : Int} {x2 : Int} (h :
  (G.2.1 x0).1 = 17 ∧
  cN C.1 d m_Tokens_letterCount [vR x0] G σ (fun (r1 : Int) (σ1 : jH) =>
  ((r1 ≤ x2 →
    RT 0 G σ1) ∧
  (x2 < r1 →
    (((20 : Int) ≤ x2 →
      RT 0 G σ1) ∧
    (x2 < 20 →
      (G.2.1 x0).1 = 17 ∧
      cN C.1 d m_Tokens_letterAt [vR x0, vI x2] G σ1 (fun (r2 : Int) (σ2 : jH) =>
      (G.2.1 x1).1 = 11 ∧
      cN C.1 d m_Key_add [vR x1, vI r2] G σ2 (fun (r3 : Int) (σ3 : jH) =>
      P 6 [some (vR x0), some (vR x1), some (vI (w32 (x2 + 1)))] [] G σ3 cs ss)))))))) :
  jwp C d mc ms RT k_Tokens_readInto j0 q_Tokens_readInto P 14 6 [some (vR x0), some (vR x1), some (vI x2)] [] G σ cs ss := h

def q_RuleReader_readRoot : List (Nat × List Bool) := [(72, [true, true, true])]
set_option maxRecDepth 20000 in
theorem b_RuleReader_readRoot_0 {C : jC} {d mc ms : Nat} {RT : Int → jG → jH → Prop} {P : jK} {G : jG} {σ : jH} {cs ss : Nat} {x0 : Int} (h :
  (G.2.1 x0).1 = 14 ∧
  (G.2.1 (G.2.2 x0 0)).1 = 15 ∧
  (G.2.1 x0).1 = 14 ∧
  (G.2.1 (G.2.2 x0 1)).1 = 17 ∧
  cN C.1 d m_Tokens_advance [vR (G.2.2 x0 1)] G σ (fun (r1 : Int) (σ1 : jH) =>
  (((σ (G.2.2 x0 0) 7) < 0 →
    ((0 : Int) = 0 ∨ (0 : Int) = 1) ∧ RT 0 G σ1) ∧
  ((0 : Int) ≤ (σ (G.2.2 x0 0) 7) →
    (((20 : Int) ≤ (σ (G.2.2 x0 0) 7) →
      ((0 : Int) = 0 ∨ (0 : Int) = 1) ∧ RT 0 G σ1) ∧
    ((σ (G.2.2 x0 0) 7) < 20 →
      (G.2.1 x0).1 = 14 ∧
      (G.2.1 (G.2.2 x0 0)).1 = 15 ∧
      (G.2.1 x0).1 = 14 ∧
      cN C.1 d m_RuleReader_readWord [vR x0, vR (G.2.2 (G.2.2 x0 0) 6), vI (σ (G.2.2 x0 0) 7)] G σ1 (fun (r2 : Int) (σ2 : jH) =>
      ((r2 ≠ 0 →
        (G.2.1 x0).1 = 14 ∧
        (G.2.1 (G.2.2 x0 1)).1 = 17 ∧
        cN C.1 d m_Tokens_is [vR (G.2.2 x0 1), vT 4] G σ2 (fun (r3 : Int) (σ3 : jH) =>
        ((r3 ≠ 0 →
          (G.2.1 x0).1 = 14 ∧
          (G.2.1 (G.2.2 x0 1)).1 = 17 ∧
          cN C.1 d m_Tokens_advance [vR (G.2.2 x0 1)] G σ3 (fun (r4 : Int) (σ4 : jH) =>
          P 72 [some (vR x0), some (vI (σ (G.2.2 x0 0) 7)), some (vI 0)] [] G σ4 cs ss)) ∧
        (r3 = 0 →
          (G.2.1 x0).1 = 14 ∧
          (G.2.1 (G.2.2 x0 1)).1 = 17 ∧
          cN C.1 d m_Tokens_fail [vR (G.2.2 x0 1), vI 1] G σ3 (fun (r5 : Int) (σ5 : jH) =>
          (r5 = 0 ∨ r5 = 1) ∧ RT r5 G σ5))))) ∧
      (r2 = 0 →
        ((0 : Int) = 0 ∨ (0 : Int) = 1) ∧ RT 0 G σ2))))))))) :
  jwp C d mc ms RT k_RuleReader_readRoot j0 q_RuleReader_readRoot P 29 0 [some (vR x0), none, none] [] G σ cs ss := h
set_option maxRecDepth 20000 in
theorem b_RuleReader_readRoot_72 {C : jC} {d mc ms : Nat} {RT : Int → jG → jH → Prop} {P : jK} {G : jG} {σ : jH} {cs ss : Nat} {x0 : Int} {x1 : Int} {x2 : Int} (h :
  ((x2 < 4 →
    (G.2.1 x0).1 = 14 ∧
    (G.2.1 (G.2.2 x0 0)).1 = 15 ∧
    (G.2.1 x0).1 = 14 ∧
    cN C.1 d m_RuleReader_readWord [vR x0, vR (G.2.2 (G.2.2 x0 0) 8), vI (w32 ((w32 (x1 * 4)) + x2))] G σ (fun (r1 : Int) (σ1 : jH) =>
    ((r1 ≠ 0 →
      (G.2.1 x0).1 = 14 ∧
      (G.2.1 (G.2.2 x0 1)).1 = 17 ∧
      (((σ1 (G.2.2 x0 1) 4) = 1 →
        P 72 [some (vR x0), some (vI x1), some (vI (w32 (x2 + 1)))] [] G σ1 cs ss) ∧
      ((σ1 (G.2.2 x0 1) 4) ≠ 1 →
        (G.2.1 x0).1 = 14 ∧
        (G.2.1 (G.2.2 x0 0)).1 = 15 ∧
        (G.2.1 (G.2.2 (G.2.2 x0 0) 9)).1 = 1 ∧ (0 : Int) ≤ x1 ∧ x1 < (G.2.1 (G.2.2 (G.2.2 x0 0) 9)).2 ∧
        (G.2.1 x0).1 = 14 ∧
        (G.2.1 (G.2.2 x0 0)).1 = 15 ∧
        (G.2.1 (G.2.2 x0 0)).1 = 15 ∧
        ((1 : Int) = 0 ∨ (1 : Int) = 1) ∧ RT 1 G (ju (ju σ1 (G.2.2 (G.2.2 x0 0) 9) x1 (w32 (x2 + 1))) (G.2.2 x0 0) 7 (w32 (((ju σ1 (G.2.2 (G.2.2 x0 0) 9) x1 (w32 (x2 + 1))) (G.2.2 x0 0) 7) + 1)))))) ∧
    (r1 = 0 →
      ((0 : Int) = 0 ∨ (0 : Int) = 1) ∧ RT 0 G σ1)))) ∧
  ((4 : Int) ≤ x2 →
    (G.2.1 x0).1 = 14 ∧
    (G.2.1 (G.2.2 x0 1)).1 = 17 ∧
    cN C.1 d m_Tokens_fail [vR (G.2.2 x0 1), vI 3] G σ (fun (r2 : Int) (σ2 : jH) =>
    (r2 = 0 ∨ r2 = 1) ∧ RT r2 G σ2)))) :
  jwp C d mc ms RT k_RuleReader_readRoot j0 q_RuleReader_readRoot P 35 72 [some (vR x0), some (vI x1), some (vI x2)] [] G σ cs ss := h

def q_RuleReader_readOrder : List (Nat × List Bool) := [(59, [true, true, false])]
set_option maxRecDepth 20000 in
theorem b_RuleReader_readOrder_0 {C : jC} {d mc ms : Nat} {RT : Int → jG → jH → Prop} {P : jK} {G : jG} {σ : jH} {cs ss : Nat} {x0 : Int} (h :
  (G.2.1 x0).1 = 14 ∧
  (G.2.1 (G.2.2 x0 0)).1 = 15 ∧
  (((σ (G.2.2 x0 0) 11) = 0 →
    (G.2.1 x0).1 = 14 ∧
    (G.2.1 (G.2.2 x0 1)).1 = 17 ∧
    cN C.1 d m_Tokens_advance [vR (G.2.2 x0 1)] G σ (fun (r1 : Int) (σ1 : jH) =>
    (G.2.1 x0).1 = 14 ∧
    (G.2.1 (G.2.2 x0 1)).1 = 17 ∧
    (((σ1 (G.2.2 x0 1) 4) = 1 →
      (G.2.1 x0).1 = 14 ∧
      (G.2.1 (G.2.2 x0 0)).1 = 15 ∧
      cN C.1 d m_Arrays_fill2 [vR (G.2.2 (G.2.2 x0 0) 10), vI (-1)] G σ1 (fun (r2 : Int) (σ2 : jH) =>
      P 59 [some (vR x0), some (vI 0), none] [] G σ2 cs ss)) ∧
    ((σ1 (G.2.2 x0 1) 4) ≠ 1 →
      (G.2.1 x0).1 = 14 ∧
      (G.2.1 (G.2.2 x0 1)).1 = 17 ∧
      cN C.1 d m_Tokens_fail [vR (G.2.2 x0 1), vI 1] G σ1 (fun (r3 : Int) (σ3 : jH) =>
      (r3 = 0 ∨ r3 = 1) ∧ RT r3 G σ3))))) ∧
  ((σ (G.2.2 x0 0) 11) ≠ 0 →
    (G.2.1 x0).1 = 14 ∧
    (G.2.1 (G.2.2 x0 1)).1 = 17 ∧
    cN C.1 d m_Tokens_fail [vR (G.2.2 x0 1), vI 2] G σ (fun (r4 : Int) (σ4 : jH) =>
    (r4 = 0 ∨ r4 = 1) ∧ RT r4 G σ4)))) :
  jwp C d mc ms RT k_RuleReader_readOrder j0 q_RuleReader_readOrder P 19 0 [some (vR x0), none, none] [] G σ cs ss := h
set_option maxRecDepth 20000 in
theorem b_RuleReader_readOrder_59 {C : jC} {d mc ms : Nat} {RT : Int → jG → jH → Prop} {P : jK} {G : jG} {σ : jH} {cs ss : Nat} {x0 : Int} {x1 : Int} (h :
  (G.2.1 x0).1 = 14 ∧
  (G.2.1 (G.2.2 x0 1)).1 = 17 ∧
  cN C.1 d m_Tokens_letterCount [vR (G.2.2 x0 1)] G σ (fun (r1 : Int) (σ1 : jH) =>
  ((r1 ≤ x1 →
    (G.2.1 x0).1 = 14 ∧
    (G.2.1 (G.2.2 x0 1)).1 = 17 ∧
    cN C.1 d m_Tokens_letterCount [vR (G.2.2 x0 1)] G σ1 (fun (r2 : Int) (σ2 : jH) =>
    (G.2.1 x0).1 = 14 ∧
    cN C.1 d m_RuleReader_rankOthers [vR x0, vI r2] G σ2 (fun (r3 : Int) (σ3 : jH) =>
    (G.2.1 x0).1 = 14 ∧
    (G.2.1 (G.2.2 x0 0)).1 = 15 ∧
    ((1 : Int) = 0 ∨ (1 : Int) = 1) ∧
    (G.2.1 x0).1 = 14 ∧
    (G.2.1 (G.2.2 x0 1)).1 = 17 ∧
    cN C.1 d m_Tokens_advance [vR (G.2.2 x0 1)] G (ju σ3 (G.2.2 x0 0) 11 1) (fun (r4 : Int) (σ4 : jH) =>
    ((1 : Int) = 0 ∨ (1 : Int) = 1) ∧ RT 1 G σ4)))) ∧
  (x1 < r1 →
    (G.2.1 x0).1 = 14 ∧
    (G.2.1 (G.2.2 x0 1)).1 = 17 ∧
    cN C.1 d m_Tokens_letterAt [vR (G.2.2 x0 1), vI x1] G σ1 (fun (r5 : Int) (σ5 : jH) =>
    ((r5 < 0 →
      (G.2.1 x0).1 = 14 ∧
      (G.2.1 (G.2.2 x0 1)).1 = 17 ∧
      cN C.1 d m_Tokens_fail [vR (G.2.2 x0 1), vI 2] G σ5 (fun (r6 : Int) (σ6 : jH) =>
      (r6 = 0 ∨ r6 = 1) ∧ RT r6 G σ6)) ∧
    ((0 : Int) ≤ r5 →
      (((26 : Int) ≤ r5 →
        (G.2.1 x0).1 = 14 ∧
        (G.2.1 (G.2.2 x0 1)).1 = 17 ∧
        cN C.1 d m_Tokens_fail [vR (G.2.2 x0 1), vI 2] G σ5 (fun (r7 : Int) (σ7 : jH) =>
        (r7 = 0 ∨ r7 = 1) ∧ RT r7 G σ7)) ∧
      (r5 < 26 →
        (G.2.1 x0).1 = 14 ∧
        (G.2.1 (G.2.2 x0 0)).1 = 15 ∧
        (G.2.1 (G.2.2 (G.2.2 x0 0) 10)).1 = 2 ∧ (0 : Int) ≤ r5 ∧ r5 < (G.2.1 (G.2.2 (G.2.2 x0 0) 10)).2 ∧
        (((σ5 (G.2.2 (G.2.2 x0 0) 10) r5) = (-1) →
          (G.2.1 x0).1 = 14 ∧
          (G.2.1 (G.2.2 x0 0)).1 = 15 ∧
          (G.2.1 (G.2.2 (G.2.2 x0 0) 10)).1 = 2 ∧ (0 : Int) ≤ r5 ∧ r5 < (G.2.1 (G.2.2 (G.2.2 x0 0) 10)).2 ∧
          P 59 [some (vR x0), some (vI (w32 (x1 + 1))), none] [] G (ju σ5 (G.2.2 (G.2.2 x0 0) 10) r5 (w8 (w8 x1))) cs ss) ∧
        ((σ5 (G.2.2 (G.2.2 x0 0) 10) r5) ≠ (-1) →
          (G.2.1 x0).1 = 14 ∧
          (G.2.1 (G.2.2 x0 1)).1 = 17 ∧
          cN C.1 d m_Tokens_fail [vR (G.2.2 x0 1), vI 2] G σ5 (fun (r8 : Int) (σ8 : jH) =>
          (r8 = 0 ∨ r8 = 1) ∧ RT r8 G σ8)))))))))))) :
  jwp C d mc ms RT k_RuleReader_readOrder j0 q_RuleReader_readOrder P 31 59 [some (vR x0), some (vI x1), none] [] G σ cs ss := h

def q_RuleReader_rankOthers : List (Nat × List Bool) := [(4, [true, false, true, true])]
set_option maxRecDepth 20000 in
theorem b_RuleReader_rankOthers_0 {C : jC} {d mc ms : Nat} {RT : Int → jG → jH → Prop} {P : jK} {G : jG} {σ : jH} {cs ss : Nat} {x0 : Int} {x1 : Int} (h :
  P 4 [some (vR x0), none, some (vI x1), some (vI 0)] [] G σ cs ss) :
  jwp C d mc ms RT k_RuleReader_rankOthers j0 q_RuleReader_rankOthers P 4 0 [some (vR x0), some (vI x1), none, none] [] G σ cs ss := h
set_option maxRecDepth 20000 in
theorem b_RuleReader_rankOthers_4 {C : jC} {d mc ms : Nat} {RT : Int → jG → jH → Prop} {P : jK} {G : jG} {σ : jH} {cs ss : Nat} {x0 : Int} {x2 : Int} {x3 : Int} (h :
  (((26 : Int) ≤ x3 →
    RT 0 G σ) ∧
  (x3 < 26 →
    (G.2.1 x0).1 = 14 ∧
    (G.2.1 (G.2.2 x0 0)).1 = 15 ∧
    (G.2.1 (G.2.2 (G.2.2 x0 0) 10)).1 = 2 ∧ (0 : Int) ≤ x3 ∧ x3 < (G.2.1 (G.2.2 (G.2.2 x0 0) 10)).2 ∧
    (((σ (G.2.2 (G.2.2 x0 0) 10) x3) ≠ (-1) →
      P 4 [some (vR x0), none, some (vI x2), some (vI (w32 (x3 + 1)))] [] G σ cs ss) ∧
    ((σ (G.2.2 (G.2.2 x0 0) 10) x3) = (-1) →
      (G.2.1 x0).1 = 14 ∧
      (G.2.1 (G.2.2 x0 0)).1 = 15 ∧
      (G.2.1 (G.2.2 (G.2.2 x0 0) 10)).1 = 2 ∧ (0 : Int) ≤ x3 ∧ x3 < (G.2.1 (G.2.2 (G.2.2 x0 0) 10)).2 ∧
      P 4 [some (vR x0), none, some (vI (w32 (x2 + 1))), some (vI (w32 (x3 + 1)))] [] G (ju σ (G.2.2 (G.2.2 x0 0) 10) x3 (w8 (w8 x2))) cs ss))))) :
  jwp C d mc ms RT k_RuleReader_rankOthers j0 q_RuleReader_rankOthers P 20 4 [some (vR x0), none, some (vI x2), some (vI x3)] [] G σ cs ss := h

def q_RuleReader_refuseFurther : List (Nat × List Bool) := []
set_option maxRecDepth 20000 in
theorem b_RuleReader_refuseFurther_0 {C : jC} {d mc ms : Nat} {RT : Int → jG → jH → Prop} {P : jK} {G : jG} {σ : jH} {cs ss : Nat} {x0 : Int} (h :
  (G.2.1 x0).1 = 14 ∧
  cN C.1 d m_RuleReader_beginsRule [vR x0] G σ (fun (r1 : Int) (σ1 : jH) =>
  ((r1 ≠ 0 →
    (G.2.1 x0).1 = 14 ∧
    (G.2.1 x0).1 = 14 ∧
    (G.2.1 (G.2.2 x0 1)).1 = 17 ∧
    cN C.1 d m_Tokens_is [vR (G.2.2 x0 1), vT 5] G σ1 (fun (r2 : Int) (σ2 : jH) =>
    ((r2 = 0 →
      (G.2.1 (G.2.2 x0 1)).1 = 17 ∧
      cN C.1 d m_Tokens_fail [vR (G.2.2 x0 1), vI 3] G σ2 (fun (r3 : Int) (σ3 : jH) =>
      (r3 = 0 ∨ r3 = 1) ∧ RT r3 G σ3)) ∧
    (r2 ≠ 0 →
      (G.2.1 x0).1 = 14 ∧
      (G.2.1 (G.2.2 x0 0)).1 = 15 ∧
      (((σ2 (G.2.2 x0 0) 11) = 0 →
        (G.2.1 (G.2.2 x0 1)).1 = 17 ∧
        cN C.1 d m_Tokens_fail [vR (G.2.2 x0 1), vI 3] G σ2 (fun (r4 : Int) (σ4 : jH) =>
        (r4 = 0 ∨ r4 = 1) ∧ RT r4 G σ4)) ∧
      ((σ2 (G.2.2 x0 0) 11) ≠ 0 →
        (G.2.1 (G.2.2 x0 1)).1 = 17 ∧
        cN C.1 d m_Tokens_fail [vR (G.2.2 x0 1), vI 2] G σ2 (fun (r5 : Int) (σ5 : jH) =>
        (r5 = 0 ∨ r5 = 1) ∧ RT r5 G σ5))))))) ∧
  (r1 = 0 →
    (G.2.1 x0).1 = 14 ∧
    (G.2.1 (G.2.2 x0 1)).1 = 17 ∧
    cN C.1 d m_Tokens_fail [vR (G.2.2 x0 1), vI 1] G σ1 (fun (r6 : Int) (σ6 : jH) =>
    (r6 = 0 ∨ r6 = 1) ∧ RT r6 G σ6))))) :
  jwp C d mc ms RT k_RuleReader_refuseFurther j0 q_RuleReader_refuseFurther P 18 0 [some (vR x0)] [] G σ cs ss := h

def q_RuleReader_beginsRule : List (Nat × List Bool) := []
set_option maxRecDepth 20000 in
theorem b_RuleReader_beginsRule_0 {C : jC} {d mc ms : Nat} {RT : Int → jG → jH → Prop} {P : jK} {G : jG} {σ : jH} {cs ss : Nat} {x0 : Int} (h :
  (G.2.1 x0).1 = 14 ∧
  (G.2.1 (G.2.2 x0 1)).1 = 17 ∧
  cN C.1 d m_Tokens_is [vR (G.2.2 x0 1), vT 0] G σ (fun (r1 : Int) (σ1 : jH) =>
  ((r1 ≠ 0 →
    ((1 : Int) = 0 ∨ (1 : Int) = 1) ∧ RT 1 G σ1) ∧
  (r1 = 0 →
    (G.2.1 x0).1 = 14 ∧
    (G.2.1 (G.2.2 x0 1)).1 = 17 ∧
    cN C.1 d m_Tokens_is [vR (G.2.2 x0 1), vT 2] G σ1 (fun (r2 : Int) (σ2 : jH) =>
    ((r2 ≠ 0 →
      ((1 : Int) = 0 ∨ (1 : Int) = 1) ∧ RT 1 G σ2) ∧
    (r2 = 0 →
      (G.2.1 x0).1 = 14 ∧
      (G.2.1 (G.2.2 x0 1)).1 = 17 ∧
      cN C.1 d m_Tokens_is [vR (G.2.2 x0 1), vT 3] G σ2 (fun (r3 : Int) (σ3 : jH) =>
      ((r3 ≠ 0 →
        ((1 : Int) = 0 ∨ (1 : Int) = 1) ∧ RT 1 G σ3) ∧
      (r3 = 0 →
        (G.2.1 x0).1 = 14 ∧
        (G.2.1 (G.2.2 x0 1)).1 = 17 ∧
        cN C.1 d m_Tokens_is [vR (G.2.2 x0 1), vT 5] G σ3 (fun (r4 : Int) (σ4 : jH) =>
        ((r4 = 0 →
          ((0 : Int) = 0 ∨ (0 : Int) = 1) ∧ RT 0 G σ4) ∧
        (r4 ≠ 0 →
          ((1 : Int) = 0 ∨ (1 : Int) = 1) ∧ RT 1 G σ4))))))))))))) :
  jwp C d mc ms RT k_RuleReader_beginsRule j0 q_RuleReader_beginsRule P 23 0 [some (vR x0)] [] G σ cs ss := h

def q_Asker_solve : List (Nat × List Bool) := []
set_option maxRecDepth 20000 in
theorem b_Asker_solve_0 {C : jC} {d mc ms : Nat} {RT : Int → jG → jH → Prop} {P : jK} {G : jG} {σ : jH} {cs ss : Nat} {x0 : Int} {x1 : Int} {x2 : Int} (h :
  (G.2.1 x0).1 = 8 ∧
  (G.2.1 (G.2.2 x0 2)).1 = 9 ∧
  cN C.1 d m_Book_wordsOf [vR (G.2.2 x0 2), vI x1] G σ (fun (r1 : Int) (σ1 : jH) =>
  (G.2.1 x0).1 = 8 ∧
  (G.2.1 x0).1 = 8 ∧
  (G.2.1 x0).1 = 8 ∧
  (G.2.1 (G.2.2 x0 0)).1 = 17 ∧
  cN C.1 d m_Tokens_open [vR (G.2.2 x0 0), vI x2] G (ju (ju σ1 x0 4 r1) x0 5 0) (fun (r2 : Int) (σ2 : jH) =>
  (G.2.1 x0).1 = 8 ∧
  cN C.1 d m_Asker_readAsk [vR x0, vI 0] G σ2 (fun (r3 : Int) (σ3 : jH) =>
  ((r3 ≠ 0 →
    (G.2.1 x0).1 = 8 ∧
    (G.2.1 (G.2.2 x0 0)).1 = 17 ∧
    (((σ3 (G.2.2 x0 0) 4) = 0 →
      (G.2.1 x0).1 = 8 ∧
      (G.2.1 (G.2.2 x0 6)).1 = 6 ∧ (0 : Int) ≤ 0 ∧ 0 < (G.2.1 (G.2.2 x0 6)).2 ∧
      (G.2.1 x0).1 = 8 ∧
      cN C.1 d m_Asker_putDown [vR x0, vR (G.2.2 (G.2.2 x0 6) 0)] G σ3 (fun (r4 : Int) (σ4 : jH) =>
      ((1 : Int) = 0 ∨ (1 : Int) = 1) ∧ RT 1 G σ4)) ∧
    ((σ3 (G.2.2 x0 0) 4) ≠ 0 →
      (G.2.1 x0).1 = 8 ∧
      (G.2.1 (G.2.2 x0 0)).1 = 17 ∧
      cN C.1 d m_Tokens_fail [vR (G.2.2 x0 0), vI 1] G σ3 (fun (r5 : Int) (σ5 : jH) =>
      (r5 = 0 ∨ r5 = 1) ∧ RT r5 G σ5)))) ∧
  (r3 = 0 →
    ((0 : Int) = 0 ∨ (0 : Int) = 1) ∧ RT 0 G σ3)))))) :
  jwp C d mc ms RT k_Asker_solve j0 q_Asker_solve P 29 0 [some (vR x0), some (vI x1), some (vI x2)] [] G σ cs ss := h

def q_Asker_readAsk : List (Nat × List Bool) := [(53, [true, true, true, true, true, false, false]), (130, [true, true, true, true, true, true, false]), (155, [true, true, true, true, true, true, true])]
set_option maxRecDepth 20000 in
theorem b_Asker_readAsk_0 {C : jC} {d mc ms : Nat} {RT : Int → jG → jH → Prop} {P : jK} {G : jG} {σ : jH} {cs ss : Nat} {x0 : Int} {x1 : Int} (h :
  ((x1 < 0 →
    (G.2.1 x0).1 = 8 ∧
    (G.2.1 (G.2.2 x0 0)).1 = 17 ∧
    cN C.1 d m_Tokens_fail [vR (G.2.2 x0 0), vI 3] G σ (fun (r1 : Int) (σ1 : jH) =>
    (r1 = 0 ∨ r1 = 1) ∧ RT r1 G σ1)) ∧
  ((0 : Int) ≤ x1 →
    ((x1 < 7 →
      (G.2.1 x0).1 = 8 ∧
      (G.2.1 (G.2.2 x0 6)).1 = 6 ∧ (0 : Int) ≤ (w32 (2 * x1)) ∧ (w32 (2 * x1)) < (G.2.1 (G.2.2 x0 6)).2 ∧
      (G.2.1 x0).1 = 8 ∧
      (G.2.1 (G.2.2 x0 6)).1 = 6 ∧ (0 : Int) ≤ (w32 ((w32 (2 * x1)) + 1)) ∧ (w32 ((w32 (2 * x1)) + 1)) < (G.2.1 (G.2.2 x0 6)).2 ∧
      (G.2.1 x0).1 = 8 ∧
      cN C.1 d m_Asker_readUnit [vR x0, vI x1, vR (G.2.2 (G.2.2 x0 6) (w32 (2 * x1)))] G σ (fun (r2 : Int) (σ2 : jH) =>
      ((r2 ≠ 0 →
        P 53 [some (vR x0), some (vI x1), some (vR (G.2.2 (G.2.2 x0 6) (w32 (2 * x1)))), some (vR (G.2.2 (G.2.2 x0 6) (w32 ((w32 (2 * x1)) + 1)))), some (vI 0), none, none] [] G σ2 cs ss) ∧
      (r2 = 0 →
        ((0 : Int) = 0 ∨ (0 : Int) = 1) ∧ RT 0 G σ2)))) ∧
    ((7 : Int) ≤ x1 →
      (G.2.1 x0).1 = 8 ∧
      (G.2.1 (G.2.2 x0 0)).1 = 17 ∧
      cN C.1 d m_Tokens_fail [vR (G.2.2 x0 0), vI 3] G σ (fun (r3 : Int) (σ3 : jH) =>
      (r3 = 0 ∨ r3 = 1) ∧ RT r3 G σ3)))))) :
  jwp C d mc ms RT k_Asker_readAsk j0 q_Asker_readAsk P 28 0 [some (vR x0), some (vI x1), none, none, none, none, none] [] G σ cs ss := h
set_option maxRecDepth 20000 in
theorem b_Asker_readAsk_53 {C : jC} {d mc ms : Nat} {RT : Int → jG → jH → Prop} {P : jK} {G : jG} {σ : jH} {cs ss : Nat} {x0 : Int} {x1 : Int} {x2 : Int} {x3 : Int} {x4 : Int} (h :
  (((30 : Int) ≤ x4 →
    ((1 : Int) = 0 ∨ (1 : Int) = 1) ∧ RT 1 G σ) ∧
  (x4 < 30 →
    (G.2.1 x0).1 = 8 ∧
    (G.2.1 (G.2.2 x0 0)).1 = 17 ∧
    (((σ (G.2.2 x0 0) 4) = 0 →
      ((1 : Int) = 0 ∨ (1 : Int) = 1) ∧ RT 1 G σ) ∧
    ((σ (G.2.2 x0 0) 4) ≠ 0 →
      (G.2.1 x0).1 = 8 ∧
      (G.2.1 (G.2.2 x0 0)).1 = 17 ∧
      (((σ (G.2.2 x0 0) 4) = 41 →
        ((1 : Int) = 0 ∨ (1 : Int) = 1) ∧ RT 1 G σ) ∧
      ((σ (G.2.2 x0 0) 4) ≠ 41 →
        (G.2.1 x0).1 = 8 ∧
        cN C.1 d m_Asker_operatorHere [vR x0] G σ (fun (r1 : Int) (σ1 : jH) =>
        ((r1 ≠ 0 →
          (G.2.1 x0).1 = 8 ∧
          (G.2.1 (G.2.2 x0 0)).1 = 17 ∧
          cN C.1 d m_Tokens_advance [vR (G.2.2 x0 0)] G σ1 (fun (r2 : Int) (σ2 : jH) =>
          ((r1 = 1 →
            P 130 [some (vR x0), some (vI x1), some (vR x2), some (vR x3), some (vI x4), some (vI r1), none] [] G σ2 cs ss) ∧
          (r1 ≠ 1 →
            ((r1 = 2 →
              P 130 [some (vR x0), some (vI x1), some (vR x2), some (vR x3), some (vI x4), some (vI r1), none] [] G σ2 cs ss) ∧
            (r1 ≠ 2 →
              ((r1 ≠ 3 →
                P 155 [some (vR x0), some (vI x1), some (vR x2), some (vR x3), some (vI x4), some (vI r1), some (vI 0)] [] G σ2 cs ss) ∧
              (r1 = 3 →
                P 130 [some (vR x0), some (vI x1), some (vR x2), some (vR x3), some (vI x4), some (vI r1), none] [] G σ2 cs ss)))))))) ∧
        (r1 = 0 →
          (G.2.1 x0).1 = 8 ∧
          (G.2.1 (G.2.2 x0 0)).1 = 17 ∧
          cN C.1 d m_Tokens_fail [vR (G.2.2 x0 0), vI 1] G σ1 (fun (r3 : Int) (σ3 : jH) =>
          (r3 = 0 ∨ r3 = 1) ∧ RT r3 G σ3))))))))))) :
  jwp C d mc ms RT k_Asker_readAsk j0 q_Asker_readAsk P 31 53 [some (vR x0), some (vI x1), some (vR x2), some (vR x3), some (vI x4), none, none] [] G σ cs ss := h
set_option maxRecDepth 20000 in
theorem b_Asker_readAsk_130 {C : jC} {d mc ms : Nat} {RT : Int → jG → jH → Prop} {P : jK} {G : jG} {σ : jH} {cs ss : Nat} {x0 : Int} {x1 : Int} {x2 : Int} {x3 : Int} {x4 : Int} {x5 : Int} (h :
  (G.2.1 x0).1 = 8 ∧
  cN C.1 d m_Asker_isAway [vR x0] G σ (fun (r1 : Int) (σ1 : jH) =>
  ((r1 ≠ 0 →
    (G.2.1 x0).1 = 8 ∧
    (G.2.1 (G.2.2 x0 0)).1 = 17 ∧
    (G.2.1 x0).1 = 8 ∧
    (G.2.1 (G.2.2 x0 0)).1 = 17 ∧
    cN C.1 d m_Tokens_advance [vR (G.2.2 x0 0)] G σ1 (fun (r2 : Int) (σ2 : jH) =>
    P 155 [some (vR x0), some (vI x1), some (vR x2), some (vR x3), some (vI x4), some (vI x5), some (vI (σ1 (G.2.2 x0 0) 5))] [] G σ2 cs ss)) ∧
  (r1 = 0 →
    ((0 : Int) = 0 ∨ (0 : Int) = 1) ∧ RT 0 G σ1)))) :
  jwp C d mc ms RT k_Asker_readAsk j0 q_Asker_readAsk P 10 130 [some (vR x0), some (vI x1), some (vR x2), some (vR x3), some (vI x4), some (vI x5), none] [] G σ cs ss := h
set_option maxRecDepth 20000 in
theorem b_Asker_readAsk_155 {C : jC} {d mc ms : Nat} {RT : Int → jG → jH → Prop} {P : jK} {G : jG} {σ : jH} {cs ss : Nat} {x0 : Int} {x1 : Int} {x2 : Int} {x3 : Int} {x4 : Int} {x5 : Int} {x6 : Int} (h :
  (G.2.1 x0).1 = 8 ∧
  cN C.1 d m_Asker_readUnit [vR x0, vI x1, vR x3] G σ (fun (r1 : Int) (σ1 : jH) =>
  ((r1 ≠ 0 →
    (G.2.1 x0).1 = 8 ∧
    cN C.1 d m_Asker_work [vR x0, vI x5, vI x6, vR x2, vR x3] G σ1 (fun (r2 : Int) (σ2 : jH) =>
    P 53 [some (vR x0), some (vI x1), some (vR x2), some (vR x3), some (vI (w32 (x4 + 1))), none, none] [] G σ2 cs ss)) ∧
  (r1 = 0 →
    ((0 : Int) = 0 ∨ (0 : Int) = 1) ∧ RT 0 G σ1)))) :
  jwp C d mc ms RT k_Asker_readAsk j0 q_Asker_readAsk P 13 155 [some (vR x0), some (vI x1), some (vR x2), some (vR x3), some (vI x4), some (vI x5), some (vI x6)] [] G σ cs ss := h

def q_Asker_readUnit : List (Nat × List Bool) := [(27, [true, true, true, true, false]), (66, [true, true, true, true, true]), (97, [true, true, true, true, true]), (164, [true, false, true, true, false])]
set_option maxRecDepth 20000 in
theorem b_Asker_readUnit_0 {C : jC} {d mc ms : Nat} {RT : Int → jG → jH → Prop} {P : jK} {G : jG} {σ : jH} {cs ss : Nat} {x0 : Int} {x1 : Int} {x2 : Int} (h :
  (G.2.1 x0).1 = 8 ∧
  (G.2.1 (G.2.2 x0 0)).1 = 17 ∧
  cN C.1 d m_Tokens_is [vR (G.2.2 x0 0), vT 3] G σ (fun (r1 : Int) (σ1 : jH) =>
  (G.2.1 x0).1 = 8 ∧
  (G.2.1 (G.2.2 x0 0)).1 = 17 ∧
  (((σ1 (G.2.2 x0 0) 4) ≠ 40 →
    P 27 [some (vR x0), some (vI x1), some (vR x2), some (vI r1), none] [vI 0] G σ1 cs ss) ∧
  ((σ1 (G.2.2 x0 0) 4) = 40 →
    P 27 [some (vR x0), some (vI x1), some (vR x2), some (vI r1), none] [vI 1] G σ1 cs ss)))) :
  jwp C d mc ms RT k_Asker_readUnit j0 q_Asker_readUnit P 12 0 [some (vR x0), some (vI x1), some (vR x2), none, none] [] G σ cs ss := h
set_option maxRecDepth 20000 in
theorem b_Asker_readUnit_27 {C : jC} {d mc ms : Nat} {RT : Int → jG → jH → Prop} {P : jK} {G : jG} {σ : jH} {cs ss : Nat} {x0 : Int} {x1 : Int} {x2 : Int} {x3 : Int} {s0 : Int} (h :
  ((x3 ≠ 0 →
    P 66 [some (vR x0), some (vI x1), some (vR x2), some (vI x3), some (vI s0)] [] G σ cs ss) ∧
  (x3 = 0 →
    ((s0 ≠ 0 →
      P 66 [some (vR x0), some (vI x1), some (vR x2), some (vI x3), some (vI s0)] [] G σ cs ss) ∧
    (s0 = 0 →
      (G.2.1 x0).1 = 8 ∧
      (G.2.1 (G.2.2 x0 0)).1 = 17 ∧
      (((σ (G.2.2 x0 0) 4) = 34 →
        P 66 [some (vR x0), some (vI x1), some (vR x2), some (vI x3), some (vI s0)] [] G σ cs ss) ∧
      ((σ (G.2.2 x0 0) 4) ≠ 34 →
        (G.2.1 x0).1 = 8 ∧
        cN C.1 d m_Asker_isFreeWord [vR x0] G σ (fun (r1 : Int) (σ1 : jH) =>
        ((r1 ≠ 0 →
          P 66 [some (vR x0), some (vI x1), some (vR x2), some (vI x3), some (vI s0)] [] G σ1 cs ss) ∧
        (r1 = 0 →
          (G.2.1 x0).1 = 8 ∧
          (G.2.1 (G.2.2 x0 0)).1 = 17 ∧
          cN C.1 d m_Tokens_fail [vR (G.2.2 x0 0), vI 1] G σ1 (fun (r2 : Int) (σ2 : jH) =>
          (r2 = 0 ∨ r2 = 1) ∧ RT r2 G σ2))))))))))) :
  jwp C d mc ms RT k_Asker_readUnit j0 q_Asker_readUnit P 18 27 [some (vR x0), some (vI x1), some (vR x2), some (vI x3), none] [vI s0] G σ cs ss := h
set_option maxRecDepth 20000 in
theorem b_Asker_readUnit_66 {C : jC} {d mc ms : Nat} {RT : Int → jG → jH → Prop} {P : jK} {G : jG} {σ : jH} {cs ss : Nat} {x0 : Int} {x1 : Int} {x2 : Int} {x3 : Int} {x4 : Int} (h :
  (G.2.1 x0).1 = 8 ∧
  (((30 : Int) ≤ (σ x0 5) →
    (G.2.1 x0).1 = 8 ∧
    (G.2.1 (G.2.2 x0 0)).1 = 17 ∧
    cN C.1 d m_Tokens_fail [vR (G.2.2 x0 0), vI 3] G σ (fun (r1 : Int) (σ1 : jH) =>
    (r1 = 0 ∨ r1 = 1) ∧ RT r1 G σ1)) ∧
  ((σ x0 5) < 30 →
    ((x4 = 0 →
      P 97 [some (vR x0), some (vI x1), some (vR x2), some (vI x3), some (vI x4)] [] G σ cs ss) ∧
    (x4 ≠ 0 →
      (((w32 (x1 + 1)) < 7 →
        P 97 [some (vR x0), some (vI x1), some (vR x2), some (vI x3), some (vI x4)] [] G σ cs ss) ∧
      ((7 : Int) ≤ (w32 (x1 + 1)) →
        (G.2.1 x0).1 = 8 ∧
        (G.2.1 (G.2.2 x0 0)).1 = 17 ∧
        cN C.1 d m_Tokens_fail [vR (G.2.2 x0 0), vI 3] G σ (fun (r2 : Int) (σ2 : jH) =>
        (r2 = 0 ∨ r2 = 1) ∧ RT r2 G σ2)))))))) :
  jwp C d mc ms RT k_Asker_readUnit j0 q_Asker_readUnit P 16 66 [some (vR x0), some (vI x1), some (vR x2), some (vI x3), some (vI x4)] [] G σ cs ss := h
set_option maxRecDepth 20000 in
theorem b_Asker_readUnit_97 {C : jC} {d mc ms : Nat} {RT : Int → jG → jH → Prop} {P : jK} {G : jG} {σ : jH} {cs ss : Nat} {x0 : Int} {x1 : Int} {x2 : Int} {x3 : Int} {x4 : Int} (h :
  (G.2.1 x0).1 = 8 ∧
  (G.2.1 x0).1 = 8 ∧
  ((x4 = 0 →
    (G.2.1 x0).1 = 8 ∧
    (G.2.1 (G.2.2 x0 0)).1 = 17 ∧
    ((((ju σ x0 5 (w32 ((σ x0 5) + 1))) (G.2.2 x0 0) 4) ≠ 34 →
      ((x3 = 0 →
        P 164 [some (vR x0), none, some (vR x2), some (vI x3), none] [] G (ju σ x0 5 (w32 ((σ x0 5) + 1))) cs ss) ∧
      (x3 ≠ 0 →
        (G.2.1 x0).1 = 8 ∧
        (G.2.1 (G.2.2 x0 0)).1 = 17 ∧
        cN C.1 d m_Tokens_advance [vR (G.2.2 x0 0)] G (ju σ x0 5 (w32 ((σ x0 5) + 1))) (fun (r1 : Int) (σ1 : jH) =>
        (G.2.1 x0).1 = 8 ∧
        cN C.1 d m_Asker_isFreeWord [vR x0] G σ1 (fun (r2 : Int) (σ2 : jH) =>
        ((r2 ≠ 0 →
          P 164 [some (vR x0), none, some (vR x2), some (vI x3), none] [] G σ2 cs ss) ∧
        (r2 = 0 →
          (G.2.1 x0).1 = 8 ∧
          (G.2.1 (G.2.2 x0 0)).1 = 17 ∧
          cN C.1 d m_Tokens_fail [vR (G.2.2 x0 0), vI 1] G σ2 (fun (r3 : Int) (σ3 : jH) =>
          (r3 = 0 ∨ r3 = 1) ∧ RT r3 G σ3)))))))) ∧
    (((ju σ x0 5 (w32 ((σ x0 5) + 1))) (G.2.2 x0 0) 4) = 34 →
      (G.2.1 x0).1 = 8 ∧
      cN C.1 d m_Asker_readPhrase [vR x0, vR x2] G (ju σ x0 5 (w32 ((σ x0 5) + 1))) (fun (r4 : Int) (σ4 : jH) =>
      (r4 = 0 ∨ r4 = 1) ∧ RT r4 G σ4)))) ∧
  (x4 ≠ 0 →
    (G.2.1 x0).1 = 8 ∧
    cN C.1 d m_Asker_readNested [vR x0, vI x1, vR x2] G (ju σ x0 5 (w32 ((σ x0 5) + 1))) (fun (r5 : Int) (σ5 : jH) =>
    (r5 = 0 ∨ r5 = 1) ∧ RT r5 G σ5)))) :
  jwp C d mc ms RT k_Asker_readUnit j0 q_Asker_readUnit P 26 97 [some (vR x0), some (vI x1), some (vR x2), some (vI x3), some (vI x4)] [] G σ cs ss := h
set_option maxRecDepth 20000 in
theorem b_Asker_readUnit_164 {C : jC} {d mc ms : Nat} {RT : Int → jG → jH → Prop} {P : jK} {G : jG} {σ : jH} {cs ss : Nat} {x0 : Int} {x2 : Int} {x3 : Int} (h :
  (G.2.1 x0).1 = 8 ∧
  (G.2.1 x0).1 = 8 ∧
  (G.2.1 (G.2.2 x0 0)).1 = 17 ∧
  cN C.1 d m_Tokens_readInto [vR (G.2.2 x0 0), vR (G.2.2 x0 3)] G σ (fun (r1 : Int) (σ1 : jH) =>
  (G.2.1 x0).1 = 8 ∧
  (G.2.1 x0).1 = 8 ∧
  (G.2.1 (G.2.2 x0 1)).1 = 15 ∧
  (G.2.1 (G.2.2 x0 3)).1 = 11 ∧
  cN C.1 d m_Key_map [vR (G.2.2 x0 3), vR (G.2.2 (G.2.2 x0 1) 1)] G σ1 (fun (r2 : Int) (σ2 : jH) =>
  (G.2.1 x0).1 = 8 ∧
  (G.2.1 (G.2.2 x0 0)).1 = 17 ∧
  cN C.1 d m_Tokens_advance [vR (G.2.2 x0 0)] G σ2 (fun (r3 : Int) (σ3 : jH) =>
  cN C.1 d m_Arrays_fill2 [vR x2, vI 0] G σ3 (fun (r4 : Int) (σ4 : jH) =>
  ((x3 = 0 →
    (G.2.1 x0).1 = 8 ∧
    (G.2.1 x0).1 = 8 ∧
    (G.2.1 (G.2.2 x0 3)).1 = 11 ∧
    (G.2.1 x0).1 = 8 ∧
    (G.2.1 (G.2.2 x0 3)).1 = 11 ∧
    (G.2.1 (G.2.2 x0 1)).1 = 15 ∧
    cN C.1 d m_Rules_isStop [vR (G.2.2 x0 1), vL (σ4 (G.2.2 x0 3) 0), vL (σ4 (G.2.2 x0 3) 1)] G σ4 (fun (r5 : Int) (σ5 : jH) =>
    ((r5 ≠ 0 →
      ((1 : Int) = 0 ∨ (1 : Int) = 1) ∧ RT 1 G σ5) ∧
    (r5 = 0 →
      (G.2.1 x0).1 = 8 ∧
      (G.2.1 (G.2.2 x0 3)).1 = 11 ∧
      (G.2.1 x0).1 = 8 ∧
      (G.2.1 (G.2.2 x0 3)).1 = 11 ∧
      (G.2.1 x0).1 = 8 ∧
      cN C.1 d m_Asker_mark [vR x0, vR x2, vL (σ5 (G.2.2 x0 3) 0), vL (σ5 (G.2.2 x0 3) 1)] G σ5 (fun (r6 : Int) (σ6 : jH) =>
      ((1 : Int) = 0 ∨ (1 : Int) = 1) ∧ RT 1 G σ6))))) ∧
  (x3 ≠ 0 →
    (G.2.1 x0).1 = 8 ∧
    cN C.1 d m_Asker_markRoot [vR x0, vR x2] G σ4 (fun (r7 : Int) (σ7 : jH) =>
    ((1 : Int) = 0 ∨ (1 : Int) = 1) ∧ RT 1 G σ7)))))))) :
  jwp C d mc ms RT k_Asker_readUnit j0 q_Asker_readUnit P 40 164 [some (vR x0), none, some (vR x2), some (vI x3), none] [] G σ cs ss := h

def q_Asker_isFreeWord : List (Nat × List Bool) := []
set_option maxRecDepth 20000 in
theorem b_Asker_isFreeWord_0 {C : jC} {d mc ms : Nat} {RT : Int → jG → jH → Prop} {P : jK} {G : jG} {σ : jH} {cs ss : Nat} {x0 : Int} (h :
  (G.2.1 x0).1 = 8 ∧
  (G.2.1 (G.2.2 x0 0)).1 = 17 ∧
  (((σ (G.2.2 x0 0) 4) ≠ 1 →
    ((0 : Int) = 0 ∨ (0 : Int) = 1) ∧ RT 0 G σ) ∧
  ((σ (G.2.2 x0 0) 4) = 1 →
    (G.2.1 x0).1 = 8 ∧
    cN C.1 d m_Asker_operatorHere [vR x0] G σ (fun (r1 : Int) (σ1 : jH) =>
    ((r1 ≠ 0 →
      ((0 : Int) = 0 ∨ (0 : Int) = 1) ∧ RT 0 G σ1) ∧
    (r1 = 0 →
      (G.2.1 x0).1 = 8 ∧
      (G.2.1 (G.2.2 x0 0)).1 = 17 ∧
      cN C.1 d m_Tokens_is [vR (G.2.2 x0 0), vT 3] G σ1 (fun (r2 : Int) (σ2 : jH) =>
      ((r2 ≠ 0 →
        ((0 : Int) = 0 ∨ (0 : Int) = 1) ∧ RT 0 G σ2) ∧
      (r2 = 0 →
        ((1 : Int) = 0 ∨ (1 : Int) = 1) ∧ RT 1 G σ2))))))))) :
  jwp C d mc ms RT k_Asker_isFreeWord j0 q_Asker_isFreeWord P 16 0 [some (vR x0)] [] G σ cs ss := h

def q_Asker_operatorHere : List (Nat × List Bool) := []
set_option maxRecDepth 20000 in
theorem b_Asker_operatorHere_0 {C : jC} {d mc ms : Nat} {RT : Int → jG → jH → Prop} {P : jK} {G : jG} {σ : jH} {cs ss : Nat} {x0 : Int} (h :
  (G.2.1 x0).1 = 8 ∧
  (G.2.1 (G.2.2 x0 0)).1 = 17 ∧
  cN C.1 d m_Tokens_is [vR (G.2.2 x0 0), vT 6] G σ (fun (r1 : Int) (σ1 : jH) =>
  ((r1 = 0 →
    (G.2.1 x0).1 = 8 ∧
    (G.2.1 (G.2.2 x0 0)).1 = 17 ∧
    cN C.1 d m_Tokens_is [vR (G.2.2 x0 0), vT 7] G σ1 (fun (r2 : Int) (σ2 : jH) =>
    ((r2 = 0 →
      (G.2.1 x0).1 = 8 ∧
      (G.2.1 (G.2.2 x0 0)).1 = 17 ∧
      cN C.1 d m_Tokens_is [vR (G.2.2 x0 0), vT 8] G σ2 (fun (r3 : Int) (σ3 : jH) =>
      ((r3 = 0 →
        (G.2.1 x0).1 = 8 ∧
        (G.2.1 (G.2.2 x0 0)).1 = 17 ∧
        cN C.1 d m_Tokens_is [vR (G.2.2 x0 0), vT 9] G σ3 (fun (r4 : Int) (σ4 : jH) =>
        ((r4 = 0 →
          (G.2.1 x0).1 = 8 ∧
          (G.2.1 (G.2.2 x0 0)).1 = 17 ∧
          cN C.1 d m_Tokens_is [vR (G.2.2 x0 0), vT 10] G σ4 (fun (r5 : Int) (σ5 : jH) =>
          ((r5 = 0 →
            (G.2.1 x0).1 = 8 ∧
            (G.2.1 (G.2.2 x0 0)).1 = 17 ∧
            cN C.1 d m_Tokens_is [vR (G.2.2 x0 0), vT 11] G σ5 (fun (r6 : Int) (σ6 : jH) =>
            ((r6 = 0 →
              RT 0 G σ6) ∧
            (r6 ≠ 0 →
              RT 6 G σ6)))) ∧
          (r5 ≠ 0 →
            RT 5 G σ5)))) ∧
        (r4 ≠ 0 →
          RT 4 G σ4)))) ∧
      (r3 ≠ 0 →
        RT 3 G σ3)))) ∧
    (r2 ≠ 0 →
      RT 2 G σ2)))) ∧
  (r1 ≠ 0 →
    RT 1 G σ1)))) :
  jwp C d mc ms RT k_Asker_operatorHere j0 q_Asker_operatorHere P 33 0 [some (vR x0)] [] G σ cs ss := h

def q_Asker_readNested : List (Nat × List Bool) := []
set_option maxRecDepth 20000 in
theorem b_Asker_readNested_0 {C : jC} {d mc ms : Nat} {RT : Int → jG → jH → Prop} {P : jK} {G : jG} {σ : jH} {cs ss : Nat} {x0 : Int} {x1 : Int} {x2 : Int} (h :
  (G.2.1 x0).1 = 8 ∧
  (G.2.1 (G.2.2 x0 0)).1 = 17 ∧
  cN C.1 d m_Tokens_advance [vR (G.2.2 x0 0)] G σ (fun (r1 : Int) (σ1 : jH) =>
  (G.2.1 x0).1 = 8 ∧
  cN C.1 d m_Asker_readAsk [vR x0, vI (w32 (x1 + 1))] G σ1 (fun (r2 : Int) (σ2 : jH) =>
  ((r2 ≠ 0 →
    (G.2.1 x0).1 = 8 ∧
    (G.2.1 (G.2.2 x0 0)).1 = 17 ∧
    (((σ2 (G.2.2 x0 0) 4) = 41 →
      (G.2.1 x0).1 = 8 ∧
      (G.2.1 (G.2.2 x0 0)).1 = 17 ∧
      cN C.1 d m_Tokens_advance [vR (G.2.2 x0 0)] G σ2 (fun (r3 : Int) (σ3 : jH) =>
      ((x1 < 0 →
        ((1 : Int) = 0 ∨ (1 : Int) = 1) ∧ RT 1 G σ3) ∧
      ((0 : Int) ≤ x1 →
        (((7 : Int) ≤ (w32 (x1 + 1)) →
          ((1 : Int) = 0 ∨ (1 : Int) = 1) ∧ RT 1 G σ3) ∧
        ((w32 (x1 + 1)) < 7 →
          (G.2.1 x0).1 = 8 ∧
          (G.2.1 (G.2.2 x0 6)).1 = 6 ∧ (0 : Int) ≤ (w32 ((w32 (2 * x1)) + 2)) ∧ (w32 ((w32 (2 * x1)) + 2)) < (G.2.1 (G.2.2 x0 6)).2 ∧
          (1 ≤ (G.2.1 x2).1 ∧ (G.2.1 x2).1 ≤ 7) ∧
          1 ≤ d ∧
          1 ≤ d ∧ (G.2.1 (G.2.2 (G.2.2 x0 6) (w32 ((w32 (2 * x1)) + 2)))).1 = 2 ∧ (G.2.1 x2).1 = 2 ∧ (0 : Int) ≤ 0 ∧ (0 : Int) ≤ 0 ∧ (0 : Int) ≤ (min 300 (G.2.1 x2).2) ∧ 0 + (min 300 (G.2.1 x2).2) ≤ (G.2.1 (G.2.2 (G.2.2 x0 6) (w32 ((w32 (2 * x1)) + 2)))).2 ∧ 0 + (min 300 (G.2.1 x2).2) ≤ (G.2.1 x2).2 ∧
          ((1 : Int) = 0 ∨ (1 : Int) = 1) ∧ RT 1 G (jcpy σ3 (G.2.2 (G.2.2 x0 6) (w32 ((w32 (2 * x1)) + 2))) 0 x2 0 (min 300 (G.2.1 x2).2)))))))) ∧
    ((σ2 (G.2.2 x0 0) 4) ≠ 41 →
      (G.2.1 x0).1 = 8 ∧
      (G.2.1 (G.2.2 x0 0)).1 = 17 ∧
      cN C.1 d m_Tokens_fail [vR (G.2.2 x0 0), vI 1] G σ2 (fun (r4 : Int) (σ4 : jH) =>
      (r4 = 0 ∨ r4 = 1) ∧ RT r4 G σ4)))) ∧
  (r2 = 0 →
    ((0 : Int) = 0 ∨ (0 : Int) = 1) ∧ RT 0 G σ2))))) :
  jwp C d mc ms RT k_Asker_readNested j0 q_Asker_readNested P 42 0 [some (vR x0), some (vI x1), some (vR x2)] [] G σ cs ss := h

def q_Asker_readPhrase : List (Nat × List Bool) := [(34, [true, true, true]), (96, [true, false, false])]
set_option maxRecDepth 20000 in
theorem b_Asker_readPhrase_0 {C : jC} {d mc ms : Nat} {RT : Int → jG → jH → Prop} {P : jK} {G : jG} {σ : jH} {cs ss : Nat} {x0 : Int} {x1 : Int} (h :
  cN C.1 d m_Arrays_fill2 [vR x1, vI 1] G σ (fun (r1 : Int) (σ1 : jH) =>
  (G.2.1 x0).1 = 8 ∧
  (G.2.1 (G.2.2 x0 0)).1 = 17 ∧
  cN C.1 d m_Tokens_advance [vR (G.2.2 x0 0)] G σ1 (fun (r2 : Int) (σ2 : jH) =>
  (G.2.1 x0).1 = 8 ∧
  (G.2.1 (G.2.2 x0 0)).1 = 17 ∧
  (((σ2 (G.2.2 x0 0) 4) = 1 →
    P 34 [some (vR x0), some (vR x1), some (vI 0)] [] G σ2 cs ss) ∧
  ((σ2 (G.2.2 x0 0) 4) ≠ 1 →
    (G.2.1 x0).1 = 8 ∧
    (G.2.1 (G.2.2 x0 0)).1 = 17 ∧
    cN C.1 d m_Tokens_fail [vR (G.2.2 x0 0), vI 1] G σ2 (fun (r3 : Int) (σ3 : jH) =>
    (r3 = 0 ∨ r3 = 1) ∧ RT r3 G σ3)))))) :
  jwp C d mc ms RT k_Asker_readPhrase j0 q_Asker_readPhrase P 16 0 [some (vR x0), some (vR x1), none] [] G σ cs ss := h
set_option maxRecDepth 20000 in
theorem b_Asker_readPhrase_34 {C : jC} {d mc ms : Nat} {RT : Int → jG → jH → Prop} {P : jK} {G : jG} {σ : jH} {cs ss : Nat} {x0 : Int} {x1 : Int} {x2 : Int} (h :
  (((400 : Int) ≤ x2 →
    P 96 [some (vR x0), none, none] [] G σ cs ss) ∧
  (x2 < 400 →
    (G.2.1 x0).1 = 8 ∧
    (G.2.1 (G.2.2 x0 0)).1 = 17 ∧
    (((σ (G.2.2 x0 0) 4) ≠ 1 →
      P 96 [some (vR x0), none, none] [] G σ cs ss) ∧
    ((σ (G.2.2 x0 0) 4) = 1 →
      (G.2.1 x0).1 = 8 ∧
      (G.2.1 x0).1 = 8 ∧
      (G.2.1 (G.2.2 x0 0)).1 = 17 ∧
      cN C.1 d m_Tokens_readInto [vR (G.2.2 x0 0), vR (G.2.2 x0 3)] G σ (fun (r1 : Int) (σ1 : jH) =>
      (G.2.1 x0).1 = 8 ∧
      (G.2.1 x0).1 = 8 ∧
      (G.2.1 (G.2.2 x0 1)).1 = 15 ∧
      (G.2.1 (G.2.2 x0 3)).1 = 11 ∧
      cN C.1 d m_Key_map [vR (G.2.2 x0 3), vR (G.2.2 (G.2.2 x0 1) 1)] G σ1 (fun (r2 : Int) (σ2 : jH) =>
      (G.2.1 x0).1 = 8 ∧
      cN C.1 d m_Asker_keepFollowed [vR x0, vR x1, vI x2] G σ2 (fun (r3 : Int) (σ3 : jH) =>
      (G.2.1 x0).1 = 8 ∧
      (G.2.1 (G.2.2 x0 0)).1 = 17 ∧
      cN C.1 d m_Tokens_advance [vR (G.2.2 x0 0)] G σ3 (fun (r4 : Int) (σ4 : jH) =>
      P 34 [some (vR x0), some (vR x1), some (vI (w32 (x2 + 1)))] [] G σ4 cs ss))))))))) :
  jwp C d mc ms RT k_Asker_readPhrase j0 q_Asker_readPhrase P 28 34 [some (vR x0), some (vR x1), some (vI x2)] [] G σ cs ss := h
set_option maxRecDepth 20000 in
theorem b_Asker_readPhrase_96 {C : jC} {d mc ms : Nat} {RT : Int → jG → jH → Prop} {P : jK} {G : jG} {σ : jH} {cs ss : Nat} {x0 : Int} (h :
  (G.2.1 x0).1 = 8 ∧
  (G.2.1 (G.2.2 x0 0)).1 = 17 ∧
  (((σ (G.2.2 x0 0) 4) = 34 →
    (G.2.1 x0).1 = 8 ∧
    (G.2.1 (G.2.2 x0 0)).1 = 17 ∧
    cN C.1 d m_Tokens_advance [vR (G.2.2 x0 0)] G σ (fun (r1 : Int) (σ1 : jH) =>
    ((1 : Int) = 0 ∨ (1 : Int) = 1) ∧ RT 1 G σ1)) ∧
  ((σ (G.2.2 x0 0) 4) ≠ 34 →
    (G.2.1 x0).1 = 8 ∧
    (G.2.1 (G.2.2 x0 0)).1 = 17 ∧
    cN C.1 d m_Tokens_fail [vR (G.2.2 x0 0), vI 1] G σ (fun (r2 : Int) (σ2 : jH) =>
    (r2 = 0 ∨ r2 = 1) ∧ RT r2 G σ2)))) :
  jwp C d mc ms RT k_Asker_readPhrase j0 q_Asker_readPhrase P 10 96 [some (vR x0), none, none] [] G σ cs ss := h

def q_Asker_keepFollowed : List (Nat × List Bool) := [(2, [true, true, true, true, false]), (63, [true, true, true, true, false])]
set_option maxRecDepth 20000 in
theorem b_Asker_keepFollowed_0 {C : jC} {d mc ms : Nat} {RT : Int → jG → jH → Prop} {P : jK} {G : jG} {σ : jH} {cs ss : Nat} {x0 : Int} {x1 : Int} {x2 : Int} (h :
  P 2 [some (vR x0), some (vR x1), some (vI x2), some (vI 0), none] [] G σ cs ss) :
  jwp C d mc ms RT k_Asker_keepFollowed j0 q_Asker_keepFollowed P 2 0 [some (vR x0), some (vR x1), some (vI x2), none, none] [] G σ cs ss := h
set_option maxRecDepth 20000 in
theorem b_Asker_keepFollowed_2 {C : jC} {d mc ms : Nat} {RT : Int → jG → jH → Prop} {P : jK} {G : jG} {σ : jH} {cs ss : Nat} {x0 : Int} {x1 : Int} {x2 : Int} {x3 : Int} (h :
  (((300 : Int) ≤ x3 →
    RT 0 G σ) ∧
  (x3 < 300 →
    (1 ≤ (G.2.1 x1).1 ∧ (G.2.1 x1).1 ≤ 7) ∧
    (((G.2.1 x1).2 ≤ x3 →
      RT 0 G σ) ∧
    (x3 < (G.2.1 x1).2 →
      (G.2.1 x0).1 = 8 ∧
      (G.2.1 (σ x0 4)).1 = 18 ∧
      (((σ (σ x0 4) 0) ≤ (w32 (x3 + x2)) →
        P 63 [some (vR x0), some (vR x1), some (vI x2), some (vI x3), none] [vI 0] G σ cs ss) ∧
      ((w32 (x3 + x2)) < (σ (σ x0 4) 0) →
        (G.2.1 x0).1 = 8 ∧
        (G.2.1 (σ x0 4)).1 = 18 ∧
        (G.2.1 x0).1 = 8 ∧
        (G.2.1 (G.2.2 x0 3)).1 = 11 ∧
        (G.2.1 x0).1 = 8 ∧
        (G.2.1 (G.2.2 x0 3)).1 = 11 ∧
        (G.2.1 (G.2.2 (σ x0 4) 1)).1 = 12 ∧
        cN C.1 d m_KeyRow_holds [vR (G.2.2 (σ x0 4) 1), vI (w32 (x3 + x2)), vL (σ (G.2.2 x0 3) 0), vL (σ (G.2.2 x0 3) 1)] G σ (fun (r1 : Int) (σ1 : jH) =>
        ((r1 = 0 →
          P 63 [some (vR x0), some (vR x1), some (vI x2), some (vI x3), none] [vI 0] G σ1 cs ss) ∧
        (r1 ≠ 0 →
          P 63 [some (vR x0), some (vR x1), some (vI x2), some (vI x3), none] [vI 1] G σ1 cs ss)))))))))) :
  jwp C d mc ms RT k_Asker_keepFollowed j0 q_Asker_keepFollowed P 30 2 [some (vR x0), some (vR x1), some (vI x2), some (vI x3), none] [] G σ cs ss := h
set_option maxRecDepth 20000 in
theorem b_Asker_keepFollowed_63 {C : jC} {d mc ms : Nat} {RT : Int → jG → jH → Prop} {P : jK} {G : jG} {σ : jH} {cs ss : Nat} {x0 : Int} {x1 : Int} {x2 : Int} {x3 : Int} {s0 : Int} (h :
  ((s0 ≠ 0 →
    P 2 [some (vR x0), some (vR x1), some (vI x2), some (vI (w32 (x3 + 1))), none] [] G σ cs ss) ∧
  (s0 = 0 →
    (G.2.1 x1).1 = 2 ∧ (0 : Int) ≤ x3 ∧ x3 < (G.2.1 x1).2 ∧
    P 2 [some (vR x0), some (vR x1), some (vI x2), some (vI (w32 (x3 + 1))), none] [] G (ju σ x1 x3 (w8 0)) cs ss))) :
  jwp C d mc ms RT k_Asker_keepFollowed j0 q_Asker_keepFollowed P 9 63 [some (vR x0), some (vR x1), some (vI x2), some (vI x3), none] [vI s0] G σ cs ss := h

def q_Asker_markRoot : List (Nat × List Bool) := [(54, [true, true, true, true, false])]
set_option maxRecDepth 20000 in
theorem b_Asker_markRoot_0 {C : jC} {d mc ms : Nat} {RT : Int → jG → jH → Prop} {P : jK} {G : jG} {σ : jH} {cs ss : Nat} {x0 : Int} {x1 : Int} (h :
  (G.2.1 x0).1 = 8 ∧
  (G.2.1 x0).1 = 8 ∧
  (G.2.1 (G.2.2 x0 3)).1 = 11 ∧
  (G.2.1 x0).1 = 8 ∧
  (G.2.1 (G.2.2 x0 3)).1 = 11 ∧
  (G.2.1 (G.2.2 x0 1)).1 = 15 ∧
  cN C.1 d m_Rules_rootNamed [vR (G.2.2 x0 1), vL (σ (G.2.2 x0 3) 0), vL (σ (G.2.2 x0 3) 1)] G σ (fun (r1 : Int) (σ1 : jH) =>
  ((r1 < 0 →
    RT 0 G σ1) ∧
  ((0 : Int) ≤ r1 →
    ((r1 < 20 →
      (G.2.1 x0).1 = 8 ∧
      (G.2.1 (G.2.2 x0 3)).1 = 11 ∧
      (G.2.1 x0).1 = 8 ∧
      (G.2.1 (G.2.2 x0 3)).1 = 11 ∧
      (G.2.1 x0).1 = 8 ∧
      cN C.1 d m_Asker_mark [vR x0, vR x1, vL (σ1 (G.2.2 x0 3) 0), vL (σ1 (G.2.2 x0 3) 1)] G σ1 (fun (r2 : Int) (σ2 : jH) =>
      P 54 [some (vR x0), some (vR x1), some (vI r1), some (vI 0), none] [] G σ2 cs ss)) ∧
    ((20 : Int) ≤ r1 →
      RT 0 G σ1)))))) :
  jwp C d mc ms RT k_Asker_markRoot j0 q_Asker_markRoot P 26 0 [some (vR x0), some (vR x1), none, none, none] [] G σ cs ss := h
set_option maxRecDepth 20000 in
theorem b_Asker_markRoot_54 {C : jC} {d mc ms : Nat} {RT : Int → jG → jH → Prop} {P : jK} {G : jG} {σ : jH} {cs ss : Nat} {x0 : Int} {x1 : Int} {x2 : Int} {x3 : Int} (h :
  (G.2.1 x0).1 = 8 ∧
  (G.2.1 (G.2.2 x0 1)).1 = 15 ∧
  (G.2.1 (G.2.2 (G.2.2 x0 1) 9)).1 = 1 ∧ (0 : Int) ≤ x2 ∧ x2 < (G.2.1 (G.2.2 (G.2.2 x0 1) 9)).2 ∧
  (((σ (G.2.2 (G.2.2 x0 1) 9) x2) ≤ x3 →
    RT 0 G σ) ∧
  (x3 < (σ (G.2.2 (G.2.2 x0 1) 9) x2) →
    (((4 : Int) ≤ x3 →
      RT 0 G σ) ∧
    (x3 < 4 →
      (G.2.1 x0).1 = 8 ∧
      (G.2.1 (G.2.2 x0 1)).1 = 15 ∧
      (G.2.1 (G.2.2 (G.2.2 x0 1) 8)).1 = 12 ∧
      (G.2.1 (G.2.2 (G.2.2 (G.2.2 x0 1) 8) 0)).1 = 4 ∧ (0 : Int) ≤ (w32 ((w32 (x2 * 4)) + x3)) ∧ (w32 ((w32 (x2 * 4)) + x3)) < (G.2.1 (G.2.2 (G.2.2 (G.2.2 x0 1) 8) 0)).2 ∧
      (G.2.1 x0).1 = 8 ∧
      (G.2.1 (G.2.2 x0 1)).1 = 15 ∧
      (G.2.1 (G.2.2 (G.2.2 x0 1) 8)).1 = 12 ∧
      (G.2.1 (G.2.2 (G.2.2 (G.2.2 x0 1) 8) 1)).1 = 4 ∧ (0 : Int) ≤ (w32 ((w32 (x2 * 4)) + x3)) ∧ (w32 ((w32 (x2 * 4)) + x3)) < (G.2.1 (G.2.2 (G.2.2 (G.2.2 x0 1) 8) 1)).2 ∧
      (G.2.1 x0).1 = 8 ∧
      cN C.1 d m_Asker_mark [vR x0, vR x1, vL (σ (G.2.2 (G.2.2 (G.2.2 x0 1) 8) 0) (w32 ((w32 (x2 * 4)) + x3))), vL (σ (G.2.2 (G.2.2 (G.2.2 x0 1) 8) 1) (w32 ((w32 (x2 * 4)) + x3)))] G σ (fun (r1 : Int) (σ1 : jH) =>
      P 54 [some (vR x0), some (vR x1), some (vI x2), some (vI (w32 (x3 + 1))), none] [] G σ1 cs ss)))))) :
  jwp C d mc ms RT k_Asker_markRoot j0 q_Asker_markRoot P 33 54 [some (vR x0), some (vR x1), some (vI x2), some (vI x3), none] [] G σ cs ss := h

def q_Asker_mark : List (Nat × List Bool) := [(25, [true, true, false, false, false, false, true, true, false])]
set_option maxRecDepth 20000 in
theorem b_Asker_mark_0 {C : jC} {d mc ms : Nat} {RT : Int → jG → jH → Prop} {P : jK} {G : jG} {σ : jH} {cs ss : Nat} {x0 : Int} {x1 : Int} {x2 : Int} {x4 : Int} (h :
  (G.2.1 x0).1 = 8 ∧
  (G.2.1 (G.2.2 x0 2)).1 = 9 ∧
  (G.2.1 x0).1 = 8 ∧
  (G.2.1 (G.2.2 x0 2)).1 = 9 ∧
  (G.2.1 (G.2.2 (G.2.2 x0 2) 2)).1 = 12 ∧
  cN C.1 d m_KeyRow_find [vR (G.2.2 (G.2.2 x0 2) 2), vI (σ (G.2.2 x0 2) 1), vL x2, vL x4] G σ (fun (r1 : Int) (σ1 : jH) =>
  P 25 [some (vR x0), some (vR x1), none, none, none, none, some (vI r1), some (vI 0), none] [] G σ1 cs ss)) :
  jwp C d mc ms RT k_Asker_mark j0 q_Asker_mark P 12 0 [some (vR x0), some (vR x1), some (vL x2), none, some (vL x4), none, none, none, none] [] G σ cs ss := h
set_option maxRecDepth 20000 in
theorem b_Asker_mark_25 {C : jC} {d mc ms : Nat} {RT : Int → jG → jH → Prop} {P : jK} {G : jG} {σ : jH} {cs ss : Nat} {x0 : Int} {x1 : Int} {x6 : Int} {x7 : Int} (h :
  (G.2.1 x0).1 = 8 ∧
  (G.2.1 (σ x0 4)).1 = 18 ∧
  cN C.1 d m_Words_oftenOf [vR (σ x0 4), vI x6] G σ (fun (r1 : Int) (σ1 : jH) =>
  ((r1 ≤ x7 →
    RT 0 G σ1) ∧
  (x7 < r1 →
    (G.2.1 x0).1 = 8 ∧
    (G.2.1 (σ1 x0 4)).1 = 18 ∧
    cN C.1 d m_Words_placeOf [vR (σ1 x0 4), vI x6, vI x7] G σ1 (fun (r2 : Int) (σ2 : jH) =>
    ((r2 < 0 →
      P 25 [some (vR x0), some (vR x1), none, none, none, none, some (vI x6), some (vI (w32 (x7 + 1))), none] [] G σ2 cs ss) ∧
    ((0 : Int) ≤ r2 →
      (1 ≤ (G.2.1 x1).1 ∧ (G.2.1 x1).1 ≤ 7) ∧
      (((G.2.1 x1).2 ≤ r2 →
        P 25 [some (vR x0), some (vR x1), none, none, none, none, some (vI x6), some (vI (w32 (x7 + 1))), none] [] G σ2 cs ss) ∧
      (r2 < (G.2.1 x1).2 →
        (G.2.1 x1).1 = 2 ∧ (0 : Int) ≤ r2 ∧ r2 < (G.2.1 x1).2 ∧
        P 25 [some (vR x0), some (vR x1), none, none, none, none, some (vI x6), some (vI (w32 (x7 + 1))), none] [] G (ju σ2 x1 r2 (w8 1)) cs ss))))))))) :
  jwp C d mc ms RT k_Asker_mark j0 q_Asker_mark P 24 25 [some (vR x0), some (vR x1), none, none, none, none, some (vI x6), some (vI x7), none] [] G σ cs ss := h

def q_Asker_isAway : List (Nat × List Bool) := [(43, [true])]
set_option maxRecDepth 20000 in
theorem b_Asker_isAway_0 {C : jC} {d mc ms : Nat} {RT : Int → jG → jH → Prop} {P : jK} {G : jG} {σ : jH} {cs ss : Nat} {x0 : Int} (h :
  (G.2.1 x0).1 = 8 ∧
  (G.2.1 (G.2.2 x0 0)).1 = 17 ∧
  (((σ (G.2.2 x0 0) 4) = 2 →
    (G.2.1 x0).1 = 8 ∧
    (G.2.1 (G.2.2 x0 0)).1 = 17 ∧
    (((σ (G.2.2 x0 0) 5) < 1 →
      P 43 [some (vR x0)] [] G σ cs ss) ∧
    ((1 : Int) ≤ (σ (G.2.2 x0 0) 5) →
      (G.2.1 x0).1 = 8 ∧
      (G.2.1 (G.2.2 x0 0)).1 = 17 ∧
      (((σ (G.2.2 x0 0) 5) ≤ 50 →
        ((1 : Int) = 0 ∨ (1 : Int) = 1) ∧ RT 1 G σ) ∧
      ((50 : Int) < (σ (G.2.2 x0 0) 5) →
        P 43 [some (vR x0)] [] G σ cs ss))))) ∧
  ((σ (G.2.2 x0 0) 4) ≠ 2 →
    (G.2.1 x0).1 = 8 ∧
    (G.2.1 (G.2.2 x0 0)).1 = 17 ∧
    cN C.1 d m_Tokens_fail [vR (G.2.2 x0 0), vI 1] G σ (fun (r1 : Int) (σ1 : jH) =>
    (r1 = 0 ∨ r1 = 1) ∧ RT r1 G σ1)))) :
  jwp C d mc ms RT k_Asker_isAway j0 q_Asker_isAway P 18 0 [some (vR x0)] [] G σ cs ss := h
set_option maxRecDepth 20000 in
theorem b_Asker_isAway_43 {C : jC} {d mc ms : Nat} {RT : Int → jG → jH → Prop} {P : jK} {G : jG} {σ : jH} {cs ss : Nat} {x0 : Int} (h :
  (G.2.1 x0).1 = 8 ∧
  (G.2.1 (G.2.2 x0 0)).1 = 17 ∧
  cN C.1 d m_Tokens_fail [vR (G.2.2 x0 0), vI 2] G σ (fun (r1 : Int) (σ1 : jH) =>
  ((r1 = 0 →
    ((0 : Int) = 0 ∨ (0 : Int) = 1) ∧ RT 0 G σ1) ∧
  (r1 ≠ 0 →
    ((1 : Int) = 0 ∨ (1 : Int) = 1) ∧ RT 1 G σ1)))) :
  jwp C d mc ms RT k_Asker_isAway j0 q_Asker_isAway P 8 43 [some (vR x0)] [] G σ cs ss := h

def q_Asker_work : List (Nat × List Bool) := [(24, [false, false, false, true, true, true, true, false]), (104, [true, true, true, true, true, true, false, false]), (123, [true, true, false, true, false, true, false, false]), (143, [true, false, false, true, false, true, true, true])]
set_option maxRecDepth 20000 in
theorem b_Asker_work_0 {C : jC} {d mc ms : Nat} {RT : Int → jG → jH → Prop} {P : jK} {G : jG} {σ : jH} {cs ss : Nat} {x0 : Int} {x1 : Int} {x2 : Int} {x3 : Int} {x4 : Int} (h :
  (G.2.1 x0).1 = 8 ∧
  (G.2.1 (σ x0 4)).1 = 18 ∧
  1 ≤ d ∧
  ((x1 ≠ 6 →
    (G.2.1 x0).1 = 8 ∧
    cN C.1 d m_Arrays_fill2 [vR (G.2.2 x0 7), vI 0] G σ (fun (r1 : Int) (σ1 : jH) =>
    ((x1 = 4 →
      (G.2.1 x0).1 = 8 ∧
      cN C.1 d m_Asker_markSameLine [vR x0, vR x4, vI (min (σ (σ x0 4) 0) 300)] G σ1 (fun (r2 : Int) (σ2 : jH) =>
      P 104 [some (vR x0), some (vI x1), some (vI x2), some (vR x3), some (vR x4), some (vI (min (σ (σ x0 4) 0) 300)), none, none] [] G σ2 cs ss)) ∧
    (x1 ≠ 4 →
      ((x1 ≠ 5 →
        (G.2.1 x0).1 = 8 ∧
        cN C.1 d m_Asker_markBehind [vR x0, vR x4, vI x2, vI (min (σ (σ x0 4) 0) 300)] G σ1 (fun (r3 : Int) (σ3 : jH) =>
        P 104 [some (vR x0), some (vI x1), some (vI x2), some (vR x3), some (vR x4), some (vI (min (σ (σ x0 4) 0) 300)), none, none] [] G σ3 cs ss)) ∧
      (x1 = 5 →
        (G.2.1 x0).1 = 8 ∧
        cN C.1 d m_Asker_markSameLine [vR x0, vR x4, vI (min (σ (σ x0 4) 0) 300)] G σ1 (fun (r4 : Int) (σ4 : jH) =>
        P 104 [some (vR x0), some (vI x1), some (vI x2), some (vR x3), some (vR x4), some (vI (min (σ (σ x0 4) 0) 300)), none, none] [] G σ4 cs ss))))))) ∧
  (x1 = 6 →
    P 24 [none, none, none, some (vR x3), some (vR x4), some (vI (min (σ (σ x0 4) 0) 300)), some (vI 0), none] [] G σ cs ss))) :
  jwp C d mc ms RT k_Asker_work j0 q_Asker_work P 24 0 [some (vR x0), some (vI x1), some (vI x2), some (vR x3), some (vR x4), none, none, none] [] G σ cs ss := h
set_option maxRecDepth 20000 in
theorem b_Asker_work_24 {C : jC} {d mc ms : Nat} {RT : Int → jG → jH → Prop} {P : jK} {G : jG} {σ : jH} {cs ss : Nat} {x3 : Int} {x4 : Int} {x5 : Int} {x6 : Int} (h :
  ((x5 ≤ x6 →
    RT 0 G σ) ∧
  (x6 < x5 →
    (1 ≤ (G.2.1 x3).1 ∧ (G.2.1 x3).1 ≤ 7) ∧
    (((G.2.1 x3).2 ≤ x6 →
      RT 0 G σ) ∧
    (x6 < (G.2.1 x3).2 →
      (1 ≤ (G.2.1 x4).1 ∧ (G.2.1 x4).1 ≤ 7) ∧
      (((G.2.1 x4).2 ≤ x6 →
        RT 0 G σ) ∧
      (x6 < (G.2.1 x4).2 →
        (G.2.1 x3).1 = 2 ∧ (0 : Int) ≤ x6 ∧ x6 < (G.2.1 x3).2 ∧
        (G.2.1 x4).1 = 2 ∧ (0 : Int) ≤ x6 ∧ x6 < (G.2.1 x4).2 ∧
        (G.2.1 x3).1 = 2 ∧ (0 : Int) ≤ x6 ∧ x6 < (G.2.1 x3).2 ∧
        P 24 [none, none, none, some (vR x3), some (vR x4), some (vI x5), some (vI (w32 (x6 + 1))), none] [] G (ju σ x3 x6 (w8 (w8 (jor32 (σ x3 x6) (σ x4 x6))))) cs ss))))))) :
  jwp C d mc ms RT k_Asker_work j0 q_Asker_work P 23 24 [none, none, none, some (vR x3), some (vR x4), some (vI x5), some (vI x6), none] [] G σ cs ss := h
set_option maxRecDepth 20000 in
theorem b_Asker_work_104 {C : jC} {d mc ms : Nat} {RT : Int → jG → jH → Prop} {P : jK} {G : jG} {σ : jH} {cs ss : Nat} {x0 : Int} {x1 : Int} {x2 : Int} {x3 : Int} {x4 : Int} {x5 : Int} (h :
  ((x1 = 1 →
    (G.2.1 x0).1 = 8 ∧
    cN C.1 d m_Asker_markAhead [vR x0, vR x4, vI x2, vI x5] G σ (fun (r1 : Int) (σ1 : jH) =>
    P 123 [some (vR x0), some (vI x1), none, some (vR x3), none, some (vI x5), none, none] [] G σ1 cs ss)) ∧
  (x1 ≠ 1 →
    ((x1 ≠ 3 →
      P 123 [some (vR x0), some (vI x1), none, some (vR x3), none, some (vI x5), none, none] [] G σ cs ss) ∧
    (x1 = 3 →
      (G.2.1 x0).1 = 8 ∧
      cN C.1 d m_Asker_markAhead [vR x0, vR x4, vI x2, vI x5] G σ (fun (r2 : Int) (σ2 : jH) =>
      P 123 [some (vR x0), some (vI x1), none, some (vR x3), none, some (vI x5), none, none] [] G σ2 cs ss)))))) :
  jwp C d mc ms RT k_Asker_work j0 q_Asker_work P 11 104 [some (vR x0), some (vI x1), some (vI x2), some (vR x3), some (vR x4), some (vI x5), none, none] [] G σ cs ss := h
set_option maxRecDepth 20000 in
theorem b_Asker_work_123 {C : jC} {d mc ms : Nat} {RT : Int → jG → jH → Prop} {P : jK} {G : jG} {σ : jH} {cs ss : Nat} {x0 : Int} {x1 : Int} {x3 : Int} {x5 : Int} (h :
  ((x1 = 3 →
    P 143 [some (vR x0), none, none, some (vR x3), none, some (vI x5), some (vI 0), some (vI 0)] [] G σ cs ss) ∧
  (x1 ≠ 3 →
    ((x1 ≠ 5 →
      P 143 [some (vR x0), none, none, some (vR x3), none, some (vI x5), some (vI 1), some (vI 0)] [] G σ cs ss) ∧
    (x1 = 5 →
      P 143 [some (vR x0), none, none, some (vR x3), none, some (vI x5), some (vI 0), some (vI 0)] [] G σ cs ss))))) :
  jwp C d mc ms RT k_Asker_work j0 q_Asker_work P 11 123 [some (vR x0), some (vI x1), none, some (vR x3), none, some (vI x5), none, none] [] G σ cs ss := h
set_option maxRecDepth 20000 in
theorem b_Asker_work_143 {C : jC} {d mc ms : Nat} {RT : Int → jG → jH → Prop} {P : jK} {G : jG} {σ : jH} {cs ss : Nat} {x0 : Int} {x3 : Int} {x5 : Int} {x6 : Int} {x7 : Int} (h :
  ((x5 ≤ x7 →
    RT 0 G σ) ∧
  (x7 < x5 →
    (((300 : Int) ≤ x7 →
      RT 0 G σ) ∧
    (x7 < 300 →
      (1 ≤ (G.2.1 x3).1 ∧ (G.2.1 x3).1 ≤ 7) ∧
      (((G.2.1 x3).2 ≤ x7 →
        RT 0 G σ) ∧
      (x7 < (G.2.1 x3).2 →
        (G.2.1 x0).1 = 8 ∧
        (G.2.1 (G.2.2 x0 7)).1 = 2 ∧ (0 : Int) ≤ x7 ∧ x7 < (G.2.1 (G.2.2 x0 7)).2 ∧
        (((σ (G.2.2 x0 7) x7) = x6 →
          P 143 [some (vR x0), none, none, some (vR x3), none, some (vI x5), some (vI x6), some (vI (w32 (x7 + 1)))] [] G σ cs ss) ∧
        ((σ (G.2.2 x0 7) x7) ≠ x6 →
          (G.2.1 x3).1 = 2 ∧ (0 : Int) ≤ x7 ∧ x7 < (G.2.1 x3).2 ∧
          P 143 [some (vR x0), none, none, some (vR x3), none, some (vI x5), some (vI x6), some (vI (w32 (x7 + 1)))] [] G (ju σ x3 x7 (w8 0)) cs ss))))))))) :
  jwp C d mc ms RT k_Asker_work j0 q_Asker_work P 22 143 [some (vR x0), none, none, some (vR x3), none, some (vI x5), some (vI x6), some (vI x7)] [] G σ cs ss := h

def q_Asker_markSameLine : List (Nat × List Bool) := [(10, [true, true, true, true, false]), (66, [true, false, true, true, false])]
set_option maxRecDepth 20000 in
theorem b_Asker_markSameLine_0 {C : jC} {d mc ms : Nat} {RT : Int → jG → jH → Prop} {P : jK} {G : jG} {σ : jH} {cs ss : Nat} {x0 : Int} {x1 : Int} {x2 : Int} (h :
  (G.2.1 x0).1 = 8 ∧
  cN C.1 d m_Arrays_fill2 [vR (G.2.2 x0 8), vI 0] G σ (fun (r1 : Int) (σ1 : jH) =>
  P 10 [some (vR x0), some (vR x1), some (vI x2), some (vI 0), none] [] G σ1 cs ss)) :
  jwp C d mc ms RT k_Asker_markSameLine j0 q_Asker_markSameLine P 6 0 [some (vR x0), some (vR x1), some (vI x2), none, none] [] G σ cs ss := h
set_option maxRecDepth 20000 in
theorem b_Asker_markSameLine_10 {C : jC} {d mc ms : Nat} {RT : Int → jG → jH → Prop} {P : jK} {G : jG} {σ : jH} {cs ss : Nat} {x0 : Int} {x1 : Int} {x2 : Int} {x3 : Int} (h :
  ((x2 ≤ x3 →
    P 66 [some (vR x0), none, some (vI x2), some (vI 0), none] [] G σ cs ss) ∧
  (x3 < x2 →
    (1 ≤ (G.2.1 x1).1 ∧ (G.2.1 x1).1 ≤ 7) ∧
    (((G.2.1 x1).2 ≤ x3 →
      P 66 [some (vR x0), none, some (vI x2), some (vI 0), none] [] G σ cs ss) ∧
    (x3 < (G.2.1 x1).2 →
      (G.2.1 x0).1 = 8 ∧
      (G.2.1 (σ x0 4)).1 = 18 ∧
      cN C.1 d m_Words_lineOfPlace [vR (σ x0 4), vI x3] G σ (fun (r1 : Int) (σ1 : jH) =>
      ((r1 < 0 →
        P 10 [some (vR x0), some (vR x1), some (vI x2), some (vI (w32 (x3 + 1))), none] [] G σ1 cs ss) ∧
      ((0 : Int) ≤ r1 →
        (((40 : Int) ≤ r1 →
          P 10 [some (vR x0), some (vR x1), some (vI x2), some (vI (w32 (x3 + 1))), none] [] G σ1 cs ss) ∧
        (r1 < 40 →
          (G.2.1 x1).1 = 2 ∧ (0 : Int) ≤ x3 ∧ x3 < (G.2.1 x1).2 ∧
          (((σ1 x1 x3) ≠ 1 →
            P 10 [some (vR x0), some (vR x1), some (vI x2), some (vI (w32 (x3 + 1))), none] [] G σ1 cs ss) ∧
          ((σ1 x1 x3) = 1 →
            (G.2.1 x0).1 = 8 ∧
            (G.2.1 (G.2.2 x0 8)).1 = 2 ∧ (0 : Int) ≤ r1 ∧ r1 < (G.2.1 (G.2.2 x0 8)).2 ∧
            P 10 [some (vR x0), some (vR x1), some (vI x2), some (vI (w32 (x3 + 1))), none] [] G (ju σ1 (G.2.2 x0 8) r1 (w8 1)) cs ss)))))))))))) :
  jwp C d mc ms RT k_Asker_markSameLine j0 q_Asker_markSameLine P 29 10 [some (vR x0), some (vR x1), some (vI x2), some (vI x3), none] [] G σ cs ss := h
set_option maxRecDepth 20000 in
theorem b_Asker_markSameLine_66 {C : jC} {d mc ms : Nat} {RT : Int → jG → jH → Prop} {P : jK} {G : jG} {σ : jH} {cs ss : Nat} {x0 : Int} {x2 : Int} {x3 : Int} (h :
  ((x2 ≤ x3 →
    RT 0 G σ) ∧
  (x3 < x2 →
    (((300 : Int) ≤ x3 →
      RT 0 G σ) ∧
    (x3 < 300 →
      (G.2.1 x0).1 = 8 ∧
      (G.2.1 (σ x0 4)).1 = 18 ∧
      cN C.1 d m_Words_lineOfPlace [vR (σ x0 4), vI x3] G σ (fun (r1 : Int) (σ1 : jH) =>
      ((r1 < 0 →
        P 66 [some (vR x0), none, some (vI x2), some (vI (w32 (x3 + 1))), none] [] G σ1 cs ss) ∧
      ((0 : Int) ≤ r1 →
        (((40 : Int) ≤ r1 →
          P 66 [some (vR x0), none, some (vI x2), some (vI (w32 (x3 + 1))), none] [] G σ1 cs ss) ∧
        (r1 < 40 →
          (G.2.1 x0).1 = 8 ∧
          (G.2.1 x0).1 = 8 ∧
          (G.2.1 (G.2.2 x0 8)).1 = 2 ∧ (0 : Int) ≤ r1 ∧ r1 < (G.2.1 (G.2.2 x0 8)).2 ∧
          (G.2.1 (G.2.2 x0 7)).1 = 2 ∧ (0 : Int) ≤ x3 ∧ x3 < (G.2.1 (G.2.2 x0 7)).2 ∧
          P 66 [some (vR x0), none, some (vI x2), some (vI (w32 (x3 + 1))), none] [] G (ju σ1 (G.2.2 x0 7) x3 (w8 (σ1 (G.2.2 x0 8) r1))) cs ss)))))))))) :
  jwp C d mc ms RT k_Asker_markSameLine j0 q_Asker_markSameLine P 26 66 [some (vR x0), none, some (vI x2), some (vI x3), none] [] G σ cs ss := h

def q_Asker_markBehind : List (Nat × List Bool) := [(19, [true, true, true, false, true, true]), (47, [true, true, true, false, true, true])]
set_option maxRecDepth 20000 in
theorem b_Asker_markBehind_0 {C : jC} {d mc ms : Nat} {RT : Int → jG → jH → Prop} {P : jK} {G : jG} {σ : jH} {cs ss : Nat} {x0 : Int} {x1 : Int} {x2 : Int} {x3 : Int} (h :
  (1 ≤ (G.2.1 x1).1 ∧ (G.2.1 x1).1 ≤ 7) ∧
  1 ≤ d ∧
  1 ≤ d ∧
  P 19 [some (vR x0), some (vR x1), some (vI x2), none, some (vI (-1)), some (vI (w32 ((min x3 (min 300 (G.2.1 x1).2)) - 1)))] [] G σ cs ss) :
  jwp C d mc ms RT k_Asker_markBehind j0 q_Asker_markBehind P 11 0 [some (vR x0), some (vR x1), some (vI x2), some (vI x3), none, none] [] G σ cs ss := h
set_option maxRecDepth 20000 in
theorem b_Asker_markBehind_19 {C : jC} {d mc ms : Nat} {RT : Int → jG → jH → Prop} {P : jK} {G : jG} {σ : jH} {cs ss : Nat} {x0 : Int} {x1 : Int} {x2 : Int} {x4 : Int} {x5 : Int} (h :
  ((x5 < 0 →
    RT 0 G σ) ∧
  ((0 : Int) ≤ x5 →
    ((x4 = (-1) →
      P 47 [some (vR x0), some (vR x1), some (vI x2), none, some (vI x4), some (vI x5)] [] G σ cs ss) ∧
    (x4 ≠ (-1) →
      ((x2 < (w32 (x4 - x5)) →
        P 47 [some (vR x0), some (vR x1), some (vI x2), none, some (vI x4), some (vI x5)] [] G σ cs ss) ∧
      ((w32 (x4 - x5)) ≤ x2 →
        (G.2.1 x0).1 = 8 ∧
        (G.2.1 (G.2.2 x0 7)).1 = 2 ∧ (0 : Int) ≤ x5 ∧ x5 < (G.2.1 (G.2.2 x0 7)).2 ∧
        P 47 [some (vR x0), some (vR x1), some (vI x2), none, some (vI x4), some (vI x5)] [] G (ju σ (G.2.2 x0 7) x5 (w8 1)) cs ss))))))) :
  jwp C d mc ms RT k_Asker_markBehind j0 q_Asker_markBehind P 15 19 [some (vR x0), some (vR x1), some (vI x2), none, some (vI x4), some (vI x5)] [] G σ cs ss := h
set_option maxRecDepth 20000 in
theorem b_Asker_markBehind_47 {C : jC} {d mc ms : Nat} {RT : Int → jG → jH → Prop} {P : jK} {G : jG} {σ : jH} {cs ss : Nat} {x0 : Int} {x1 : Int} {x2 : Int} {x4 : Int} {x5 : Int} (h :
  (G.2.1 x1).1 = 2 ∧ (0 : Int) ≤ x5 ∧ x5 < (G.2.1 x1).2 ∧
  (((σ x1 x5) ≠ 1 →
    P 19 [some (vR x0), some (vR x1), some (vI x2), none, some (vI x4), some (vI (w32 (x5 + (-1))))] [] G σ cs ss) ∧
  ((σ x1 x5) = 1 →
    P 19 [some (vR x0), some (vR x1), some (vI x2), none, some (vI x5), some (vI (w32 (x5 + (-1))))] [] G σ cs ss))) :
  jwp C d mc ms RT k_Asker_markBehind j0 q_Asker_markBehind P 10 47 [some (vR x0), some (vR x1), some (vI x2), none, some (vI x4), some (vI x5)] [] G σ cs ss := h

def q_Asker_markAhead : List (Nat × List Bool) := [(6, [true, true, true, true, true, true]), (50, [true, true, true, true, true, true])]
set_option maxRecDepth 20000 in
theorem b_Asker_markAhead_0 {C : jC} {d mc ms : Nat} {RT : Int → jG → jH → Prop} {P : jK} {G : jG} {σ : jH} {cs ss : Nat} {x0 : Int} {x1 : Int} {x2 : Int} {x3 : Int} (h :
  P 6 [some (vR x0), some (vR x1), some (vI x2), some (vI x3), some (vI (-1)), some (vI 0)] [] G σ cs ss) :
  jwp C d mc ms RT k_Asker_markAhead j0 q_Asker_markAhead P 4 0 [some (vR x0), some (vR x1), some (vI x2), some (vI x3), none, none] [] G σ cs ss := h
set_option maxRecDepth 20000 in
theorem b_Asker_markAhead_6 {C : jC} {d mc ms : Nat} {RT : Int → jG → jH → Prop} {P : jK} {G : jG} {σ : jH} {cs ss : Nat} {x0 : Int} {x1 : Int} {x2 : Int} {x3 : Int} {x4 : Int} {x5 : Int} (h :
  ((x3 ≤ x5 →
    RT 0 G σ) ∧
  (x5 < x3 →
    (((300 : Int) ≤ x5 →
      RT 0 G σ) ∧
    (x5 < 300 →
      (1 ≤ (G.2.1 x1).1 ∧ (G.2.1 x1).1 ≤ 7) ∧
      (((G.2.1 x1).2 ≤ x5 →
        RT 0 G σ) ∧
      (x5 < (G.2.1 x1).2 →
        ((x4 = (-1) →
          P 50 [some (vR x0), some (vR x1), some (vI x2), some (vI x3), some (vI x4), some (vI x5)] [] G σ cs ss) ∧
        (x4 ≠ (-1) →
          ((x2 < (w32 (x5 - x4)) →
            P 50 [some (vR x0), some (vR x1), some (vI x2), some (vI x3), some (vI x4), some (vI x5)] [] G σ cs ss) ∧
          ((w32 (x5 - x4)) ≤ x2 →
            (G.2.1 x0).1 = 8 ∧
            (G.2.1 (G.2.2 x0 7)).1 = 2 ∧ (0 : Int) ≤ x5 ∧ x5 < (G.2.1 (G.2.2 x0 7)).2 ∧
            P 50 [some (vR x0), some (vR x1), some (vI x2), some (vI x3), some (vI x4), some (vI x5)] [] G (ju σ (G.2.2 x0 7) x5 (w8 1)) cs ss))))))))))) :
  jwp C d mc ms RT k_Asker_markAhead j0 q_Asker_markAhead P 23 6 [some (vR x0), some (vR x1), some (vI x2), some (vI x3), some (vI x4), some (vI x5)] [] G σ cs ss := h
set_option maxRecDepth 20000 in
theorem b_Asker_markAhead_50 {C : jC} {d mc ms : Nat} {RT : Int → jG → jH → Prop} {P : jK} {G : jG} {σ : jH} {cs ss : Nat} {x0 : Int} {x1 : Int} {x2 : Int} {x3 : Int} {x4 : Int} {x5 : Int} (h :
  (G.2.1 x1).1 = 2 ∧ (0 : Int) ≤ x5 ∧ x5 < (G.2.1 x1).2 ∧
  (((σ x1 x5) ≠ 1 →
    P 6 [some (vR x0), some (vR x1), some (vI x2), some (vI x3), some (vI x4), some (vI (w32 (x5 + 1)))] [] G σ cs ss) ∧
  ((σ x1 x5) = 1 →
    P 6 [some (vR x0), some (vR x1), some (vI x2), some (vI x3), some (vI x5), some (vI (w32 (x5 + 1)))] [] G σ cs ss))) :
  jwp C d mc ms RT k_Asker_markAhead j0 q_Asker_markAhead P 10 50 [some (vR x0), some (vR x1), some (vI x2), some (vI x3), some (vI x4), some (vI x5)] [] G σ cs ss := h

def q_Asker_putDown : List (Nat × List Bool) := [(7, [true, true, true])]
set_option maxRecDepth 20000 in
theorem b_Asker_putDown_0 {C : jC} {d mc ms : Nat} {RT : Int → jG → jH → Prop} {P : jK} {G : jG} {σ : jH} {cs ss : Nat} {x0 : Int} {x1 : Int} (h :
  (G.2.1 x0).1 = 8 ∧
  P 7 [some (vR x0), some (vR x1), some (vI 0)] [] G (ju σ x0 9 0) cs ss) :
  jwp C d mc ms RT k_Asker_putDown j0 q_Asker_putDown P 5 0 [some (vR x0), some (vR x1), none] [] G σ cs ss := h
set_option maxRecDepth 20000 in
theorem b_Asker_putDown_7 {C : jC} {d mc ms : Nat} {RT : Int → jG → jH → Prop} {P : jK} {G : jG} {σ : jH} {cs ss : Nat} {x0 : Int} {x1 : Int} {x2 : Int} (h :
  (G.2.1 x0).1 = 8 ∧
  (G.2.1 (σ x0 4)).1 = 18 ∧
  cN C.1 d m_Words_has [vR (σ x0 4), vI x2] G σ (fun (r1 : Int) (σ1 : jH) =>
  ((r1 = 0 →
    RT 0 G σ1) ∧
  (r1 ≠ 0 →
    (1 ≤ (G.2.1 x1).1 ∧ (G.2.1 x1).1 ≤ 7) ∧
    (((G.2.1 x1).2 ≤ x2 →
      RT 0 G σ1) ∧
    (x2 < (G.2.1 x1).2 →
      (G.2.1 x0).1 = 8 ∧
      (((300 : Int) ≤ (σ1 x0 9) →
        RT 0 G σ1) ∧
      ((σ1 x0 9) < 300 →
        (G.2.1 x1).1 = 2 ∧ (0 : Int) ≤ x2 ∧ x2 < (G.2.1 x1).2 ∧
        (((σ1 x1 x2) ≠ 1 →
          P 7 [some (vR x0), some (vR x1), some (vI (w32 (x2 + 1)))] [] G σ1 cs ss) ∧
        ((σ1 x1 x2) = 1 →
          (G.2.1 x0).1 = 8 ∧
          (G.2.1 x0).1 = 8 ∧
          (G.2.1 (G.2.2 x0 10)).1 = 1 ∧ (0 : Int) ≤ (σ1 x0 9) ∧ (σ1 x0 9) < (G.2.1 (G.2.2 x0 10)).2 ∧
          (G.2.1 x0).1 = 8 ∧
          (G.2.1 x0).1 = 8 ∧
          (G.2.1 x0).1 = 8 ∧
          (G.2.1 ((ju σ1 (G.2.2 x0 10) (σ1 x0 9) x2) x0 4)).1 = 18 ∧
          (G.2.1 (G.2.2 ((ju σ1 (G.2.2 x0 10) (σ1 x0 9) x2) x0 4) 2)).1 = 1 ∧ (0 : Int) ≤ x2 ∧ x2 < (G.2.1 (G.2.2 ((ju σ1 (G.2.2 x0 10) (σ1 x0 9) x2) x0 4) 2)).2 ∧
          (G.2.1 (G.2.2 x0 11)).1 = 1 ∧ (0 : Int) ≤ ((ju σ1 (G.2.2 x0 10) (σ1 x0 9) x2) x0 9) ∧ ((ju σ1 (G.2.2 x0 10) (σ1 x0 9) x2) x0 9) < (G.2.1 (G.2.2 x0 11)).2 ∧
          (G.2.1 x0).1 = 8 ∧
          (G.2.1 x0).1 = 8 ∧
          (G.2.1 x0).1 = 8 ∧
          (G.2.1 ((ju (ju σ1 (G.2.2 x0 10) (σ1 x0 9) x2) (G.2.2 x0 11) ((ju σ1 (G.2.2 x0 10) (σ1 x0 9) x2) x0 9) ((ju σ1 (G.2.2 x0 10) (σ1 x0 9) x2) (G.2.2 ((ju σ1 (G.2.2 x0 10) (σ1 x0 9) x2) x0 4) 2) x2)) x0 4)).1 = 18 ∧
          (G.2.1 (G.2.2 ((ju (ju σ1 (G.2.2 x0 10) (σ1 x0 9) x2) (G.2.2 x0 11) ((ju σ1 (G.2.2 x0 10) (σ1 x0 9) x2) x0 9) ((ju σ1 (G.2.2 x0 10) (σ1 x0 9) x2) (G.2.2 ((ju σ1 (G.2.2 x0 10) (σ1 x0 9) x2) x0 4) 2) x2)) x0 4) 3)).1 = 1 ∧ (0 : Int) ≤ x2 ∧ x2 < (G.2.1 (G.2.2 ((ju (ju σ1 (G.2.2 x0 10) (σ1 x0 9) x2) (G.2.2 x0 11) ((ju σ1 (G.2.2 x0 10) (σ1 x0 9) x2) x0 9) ((ju σ1 (G.2.2 x0 10) (σ1 x0 9) x2) (G.2.2 ((ju σ1 (G.2.2 x0 10) (σ1 x0 9) x2) x0 4) 2) x2)) x0 4) 3)).2 ∧
          (G.2.1 (G.2.2 x0 12)).1 = 1 ∧ (0 : Int) ≤ ((ju (ju σ1 (G.2.2 x0 10) (σ1 x0 9) x2) (G.2.2 x0 11) ((ju σ1 (G.2.2 x0 10) (σ1 x0 9) x2) x0 9) ((ju σ1 (G.2.2 x0 10) (σ1 x0 9) x2) (G.2.2 ((ju σ1 (G.2.2 x0 10) (σ1 x0 9) x2) x0 4) 2) x2)) x0 9) ∧ ((ju (ju σ1 (G.2.2 x0 10) (σ1 x0 9) x2) (G.2.2 x0 11) ((ju σ1 (G.2.2 x0 10) (σ1 x0 9) x2) x0 9) ((ju σ1 (G.2.2 x0 10) (σ1 x0 9) x2) (G.2.2 ((ju σ1 (G.2.2 x0 10) (σ1 x0 9) x2) x0 4) 2) x2)) x0 9) < (G.2.1 (G.2.2 x0 12)).2 ∧
          (G.2.1 x0).1 = 8 ∧
          (G.2.1 x0).1 = 8 ∧
          P 7 [some (vR x0), some (vR x1), some (vI (w32 (x2 + 1)))] [] G (ju (ju (ju (ju σ1 (G.2.2 x0 10) (σ1 x0 9) x2) (G.2.2 x0 11) ((ju σ1 (G.2.2 x0 10) (σ1 x0 9) x2) x0 9) ((ju σ1 (G.2.2 x0 10) (σ1 x0 9) x2) (G.2.2 ((ju σ1 (G.2.2 x0 10) (σ1 x0 9) x2) x0 4) 2) x2)) (G.2.2 x0 12) ((ju (ju σ1 (G.2.2 x0 10) (σ1 x0 9) x2) (G.2.2 x0 11) ((ju σ1 (G.2.2 x0 10) (σ1 x0 9) x2) x0 9) ((ju σ1 (G.2.2 x0 10) (σ1 x0 9) x2) (G.2.2 ((ju σ1 (G.2.2 x0 10) (σ1 x0 9) x2) x0 4) 2) x2)) x0 9) ((ju (ju σ1 (G.2.2 x0 10) (σ1 x0 9) x2) (G.2.2 x0 11) ((ju σ1 (G.2.2 x0 10) (σ1 x0 9) x2) x0 9) ((ju σ1 (G.2.2 x0 10) (σ1 x0 9) x2) (G.2.2 ((ju σ1 (G.2.2 x0 10) (σ1 x0 9) x2) x0 4) 2) x2)) (G.2.2 ((ju (ju σ1 (G.2.2 x0 10) (σ1 x0 9) x2) (G.2.2 x0 11) ((ju σ1 (G.2.2 x0 10) (σ1 x0 9) x2) x0 9) ((ju σ1 (G.2.2 x0 10) (σ1 x0 9) x2) (G.2.2 ((ju σ1 (G.2.2 x0 10) (σ1 x0 9) x2) x0 4) 2) x2)) x0 4) 3) x2)) x0 9 (w32 (((ju (ju (ju σ1 (G.2.2 x0 10) (σ1 x0 9) x2) (G.2.2 x0 11) ((ju σ1 (G.2.2 x0 10) (σ1 x0 9) x2) x0 9) ((ju σ1 (G.2.2 x0 10) (σ1 x0 9) x2) (G.2.2 ((ju σ1 (G.2.2 x0 10) (σ1 x0 9) x2) x0 4) 2) x2)) (G.2.2 x0 12) ((ju (ju σ1 (G.2.2 x0 10) (σ1 x0 9) x2) (G.2.2 x0 11) ((ju σ1 (G.2.2 x0 10) (σ1 x0 9) x2) x0 9) ((ju σ1 (G.2.2 x0 10) (σ1 x0 9) x2) (G.2.2 ((ju σ1 (G.2.2 x0 10) (σ1 x0 9) x2) x0 4) 2) x2)) x0 9) ((ju (ju σ1 (G.2.2 x0 10) (σ1 x0 9) x2) (G.2.2 x0 11) ((ju σ1 (G.2.2 x0 10) (σ1 x0 9) x2) x0 9) ((ju σ1 (G.2.2 x0 10) (σ1 x0 9) x2) (G.2.2 ((ju σ1 (G.2.2 x0 10) (σ1 x0 9) x2) x0 4) 2) x2)) (G.2.2 ((ju (ju σ1 (G.2.2 x0 10) (σ1 x0 9) x2) (G.2.2 x0 11) ((ju σ1 (G.2.2 x0 10) (σ1 x0 9) x2) x0 9) ((ju σ1 (G.2.2 x0 10) (σ1 x0 9) x2) (G.2.2 ((ju σ1 (G.2.2 x0 10) (σ1 x0 9) x2) x0 4) 2) x2)) x0 4) 3) x2)) x0 9) + 1))) cs ss)))))))))) :
  jwp C d mc ms RT k_Asker_putDown j0 q_Asker_putDown P 52 7 [some (vR x0), some (vR x1), some (vI x2)] [] G σ cs ss := h
