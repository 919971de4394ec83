/-! The law: its table is right; its blocks -/
set_option maxRecDepth 20000 in
theorem law_len : k_law.length = 1308 := by decide +kernel
theorem t_law : okT m_law k_law = true := by
  have e : (k_law.zipIdx.drop 1312).all (fun q => !jisop q.1 || okB m_law q.2 q.1) = true := by
    rw [List.drop_eq_nil_of_le (by rw [List.length_zipIdx, law_len]; omega)]
    rfl
  replace e := okS_next s_law_1248 e
  replace e := okS_next s_law_1184 e
  replace e := okS_next s_law_1120 e
  replace e := okS_next s_law_1056 e
  replace e := okS_next s_law_992 e
  replace e := okS_next s_law_928 e
  replace e := okS_next s_law_864 e
  replace e := okS_next s_law_800 e
  replace e := okS_next s_law_720 e
  replace e := okS_next s_law_640 e
  replace e := okS_next s_law_560 e
  replace e := okS_next s_law_480 e
  replace e := okS_next s_law_320 e
  replace e := okS_next s_law_160 e
  replace e := okS_next s_law_0 e
  exact e
def q_law : List (Nat × List Bool) := [(18, [true, true, true, true]), (192, [true, true, true, true]), (255, [true, true, true, true]), (278, [true, true, true, true]), (291, [true, true, true, true]), (314, [true, true, true, true]), (337, [true, true, true, true]), (370, [true, true, true, true]), (403, [true, true, true, true]), (436, [true, true, true, true]), (479, [true, true, true, true]), (492, [true, true, true, true]), (525, [true, true, true, true]), (548, [true, true, true, true]), (571, [true, true, true, true]), (604, [true, true, true, true]), (647, [true, true, true, true]), (690, [true, true, true, true]), (713, [true, true, true, true]), (746, [true, true, true, true]), (769, [true, true, true, true]), (782, [true, true, true, true]), (805, [true, true, true, true]), (838, [true, true, true, true]), (871, [true, true, true, true]), (904, [true, true, true, true]), (927, [true, true, true, true]), (960, [true, true, true, true]), (973, [true, true, true, true]), (996, [true, true, true, true]), (1029, [true, true, true, true]), (1052, [true, true, true, true]), (1075, [true, true, true, true]), (1098, [true, true, true, true]), (1121, [true, true, true, true]), (1164, [true, true, true, true]), (1237, [true, true, true, true]), (1300, [true, true, true, true])]
set_option maxRecDepth 20000 in
theorem b_law_0 {C : jC} {d mc ms : Nat} {RT : Int → jG → jH → Prop} {P : jK} {G : jG} {σ : jH} {cs ss : Nat} (h :
  cs + 1 ≤ mc ∧ ss + 20 ≤ ms ∧
  0 < ((G.1 + 1 : Nat) : Int) ∧ ∃ (d1 : Nat) (P1 : jG → jH → Prop), d1 < d ∧ CallG C.1 d1 187 51894 m_WordPlaces_init [vR ((G.1 + 1 : Nat) : Int)] (jnewG G 19 20) (jnewH G σ) (fun _ => P1) ∧ (cs + 1) + 187 ≤ mc ∧ (ss + 20) + 51894 ≤ ms ∧ ∀ (G1 : jG) (σ1 : jH), P1 G1 σ1 →
  ((cs + 1) + 187) + 1 ≤ mc ∧ ((ss + 20) + 51894) + 51 ≤ ms ∧
  0 < ((G1.1 + 1 : Nat) : Int) ∧ ∃ (d2 : Nat) (P2 : jG → jH → Prop), d2 < d ∧ CallG C.1 d2 43 263091 m_Model_init [vR ((G1.1 + 1 : Nat) : Int)] (jnewG G1 20 51) (jnewH G1 σ1) (fun _ => P2) ∧ (((cs + 1) + 187) + 1) + 43 ≤ mc ∧ (((ss + 20) + 51894) + 51) + 263091 ≤ ms ∧ ∀ (G2 : jG) (σ2 : jH), P2 G2 σ2 →
  P 18 [some (vS), some (vR ((G.1 + 1 : Nat) : Int)), some (vR ((G1.1 + 1 : Nat) : Int)), some (vI 0)] [] G2 σ2 ((((cs + 1) + 187) + 1) + 43) ((((ss + 20) + 51894) + 51) + 263091)) :
  jwp C d mc ms RT k_law j0 q_law P 10 0 [some (vS), none, none, none] [] G σ cs ss := h
set_option maxRecDepth 20000 in
theorem b_law_18 {C : jC} {d mc ms : Nat} {RT : Int → jG → jH → Prop} {P : jK} {G : jG} {σ : jH} {cs ss : Nat} {x1 : Int} {x2 : Int} {x3 : Int} (h :
  (((w32 (C.2.2 - 6)) < x3 →
    ((1 : Int) = 0 ∨ (1 : Int) = 1) ∧ RT 1 G σ) ∧
  (x3 ≤ (w32 (C.2.2 - 6)) →
    0 ≤ x3 ∧ x3 < C.2.2 ∧
    (((jand32 (C.2.1 x3) 63) < 0 ∨ 35 < (jand32 (C.2.1 x3) 63) →
      P 1300 [some (vS), some (vR x1), some (vR x2), some (vI x3)] [] G σ cs ss) ∧
    ((jand32 (C.2.1 x3) 63) = 0 →
      P 192 [some (vS), some (vR x1), some (vR x2), some (vI x3)] [] G σ cs ss) ∧
    ((jand32 (C.2.1 x3) 63) = 1 →
      P 255 [some (vS), some (vR x1), some (vR x2), some (vI x3)] [] G σ cs ss) ∧
    ((jand32 (C.2.1 x3) 63) = 2 →
      P 278 [some (vS), some (vR x1), some (vR x2), some (vI x3)] [] G σ cs ss) ∧
    ((jand32 (C.2.1 x3) 63) = 3 →
      P 291 [some (vS), some (vR x1), some (vR x2), some (vI x3)] [] G σ cs ss) ∧
    ((jand32 (C.2.1 x3) 63) = 4 →
      P 314 [some (vS), some (vR x1), some (vR x2), some (vI x3)] [] G σ cs ss) ∧
    ((jand32 (C.2.1 x3) 63) = 5 →
      P 337 [some (vS), some (vR x1), some (vR x2), some (vI x3)] [] G σ cs ss) ∧
    ((jand32 (C.2.1 x3) 63) = 6 →
      P 370 [some (vS), some (vR x1), some (vR x2), some (vI x3)] [] G σ cs ss) ∧
    ((jand32 (C.2.1 x3) 63) = 7 →
      P 403 [some (vS), some (vR x1), some (vR x2), some (vI x3)] [] G σ cs ss) ∧
    ((jand32 (C.2.1 x3) 63) = 8 →
      P 436 [some (vS), some (vR x1), some (vR x2), some (vI x3)] [] G σ cs ss) ∧
    ((jand32 (C.2.1 x3) 63) = 9 →
      P 479 [some (vS), some (vR x1), some (vR x2), some (vI x3)] [] G σ cs ss) ∧
    ((jand32 (C.2.1 x3) 63) = 10 →
      P 492 [some (vS), some (vR x1), some (vR x2), some (vI x3)] [] G σ cs ss) ∧
    ((jand32 (C.2.1 x3) 63) = 11 →
      P 525 [some (vS), some (vR x1), some (vR x2), some (vI x3)] [] G σ cs ss) ∧
    ((jand32 (C.2.1 x3) 63) = 12 →
      P 548 [some (vS), some (vR x1), some (vR x2), some (vI x3)] [] G σ cs ss) ∧
    ((jand32 (C.2.1 x3) 63) = 13 →
      P 571 [some (vS), some (vR x1), some (vR x2), some (vI x3)] [] G σ cs ss) ∧
    ((jand32 (C.2.1 x3) 63) = 14 →
      P 604 [some (vS), some (vR x1), some (vR x2), some (vI x3)] [] G σ cs ss) ∧
    ((jand32 (C.2.1 x3) 63) = 15 →
      P 647 [some (vS), some (vR x1), some (vR x2), some (vI x3)] [] G σ cs ss) ∧
    ((jand32 (C.2.1 x3) 63) = 16 →
      P 690 [some (vS), some (vR x1), some (vR x2), some (vI x3)] [] G σ cs ss) ∧
    ((jand32 (C.2.1 x3) 63) = 17 →
      P 713 [some (vS), some (vR x1), some (vR x2), some (vI x3)] [] G σ cs ss) ∧
    ((jand32 (C.2.1 x3) 63) = 18 →
      P 746 [some (vS), some (vR x1), some (vR x2), some (vI x3)] [] G σ cs ss) ∧
    ((jand32 (C.2.1 x3) 63) = 19 →
      P 769 [some (vS), some (vR x1), some (vR x2), some (vI x3)] [] G σ cs ss) ∧
    ((jand32 (C.2.1 x3) 63) = 20 →
      P 782 [some (vS), some (vR x1), some (vR x2), some (vI x3)] [] G σ cs ss) ∧
    ((jand32 (C.2.1 x3) 63) = 21 →
      P 805 [some (vS), some (vR x1), some (vR x2), some (vI x3)] [] G σ cs ss) ∧
    ((jand32 (C.2.1 x3) 63) = 22 →
      P 838 [some (vS), some (vR x1), some (vR x2), some (vI x3)] [] G σ cs ss) ∧
    ((jand32 (C.2.1 x3) 63) = 23 →
      P 871 [some (vS), some (vR x1), some (vR x2), some (vI x3)] [] G σ cs ss) ∧
    ((jand32 (C.2.1 x3) 63) = 24 →
      P 904 [some (vS), some (vR x1), some (vR x2), some (vI x3)] [] G σ cs ss) ∧
    ((jand32 (C.2.1 x3) 63) = 25 →
      P 927 [some (vS), some (vR x1), some (vR x2), some (vI x3)] [] G σ cs ss) ∧
    ((jand32 (C.2.1 x3) 63) = 26 →
      P 960 [some (vS), some (vR x1), some (vR x2), some (vI x3)] [] G σ cs ss) ∧
    ((jand32 (C.2.1 x3) 63) = 27 →
      P 973 [some (vS), some (vR x1), some (vR x2), some (vI x3)] [] G σ cs ss) ∧
    ((jand32 (C.2.1 x3) 63) = 28 →
      P 996 [some (vS), some (vR x1), some (vR x2), some (vI x3)] [] G σ cs ss) ∧
    ((jand32 (C.2.1 x3) 63) = 29 →
      P 1029 [some (vS), some (vR x1), some (vR x2), some (vI x3)] [] G σ cs ss) ∧
    ((jand32 (C.2.1 x3) 63) = 30 →
      P 1052 [some (vS), some (vR x1), some (vR x2), some (vI x3)] [] G σ cs ss) ∧
    ((jand32 (C.2.1 x3) 63) = 31 →
      P 1075 [some (vS), some (vR x1), some (vR x2), some (vI x3)] [] G σ cs ss) ∧
    ((jand32 (C.2.1 x3) 63) = 32 →
      P 1098 [some (vS), some (vR x1), some (vR x2), some (vI x3)] [] G σ cs ss) ∧
    ((jand32 (C.2.1 x3) 63) = 33 →
      P 1121 [some (vS), some (vR x1), some (vR x2), some (vI x3)] [] G σ cs ss) ∧
    ((jand32 (C.2.1 x3) 63) = 34 →
      P 1164 [some (vS), some (vR x1), some (vR x2), some (vI x3)] [] G σ cs ss) ∧
    ((jand32 (C.2.1 x3) 63) = 35 →
      P 1237 [some (vS), some (vR x1), some (vR x2), some (vI x3)] [] G σ cs ss) ∧ True)))) :
  jwp C d mc ms RT k_law j0 q_law P 12 18 [some (vS), some (vR x1), some (vR x2), some (vI x3)] [] G σ cs ss := h
set_option maxRecDepth 20000 in
theorem b_law_192 {C : jC} {d mc ms : Nat} {RT : Int → jG → jH → Prop} {P : jK} {G : jG} {σ : jH} {cs ss : Nat} {x1 : Int} {x2 : Int} {x3 : Int} (h :
  0 ≤ (w32 (x3 + 1)) ∧ (w32 (x3 + 1)) < C.2.2 ∧
  0 ≤ (w32 (x3 + 2)) ∧ (w32 (x3 + 2)) < C.2.2 ∧
  0 ≤ (w32 (x3 + 3)) ∧ (w32 (x3 + 3)) < C.2.2 ∧
  0 ≤ (w32 (x3 + 4)) ∧ (w32 (x3 + 4)) < C.2.2 ∧
  0 ≤ (w32 (x3 + 5)) ∧ (w32 (x3 + 5)) < C.2.2 ∧
  (G.2.1 x1).1 = 19 ∧
  cN C.1 d m_WordPlaces_feed [vR x1, vI (C.2.1 (w32 (x3 + 1))), vI (C.2.1 (w32 (x3 + 2))), vI (C.2.1 (w32 (x3 + 3))), vI (C.2.1 (w32 (x3 + 4))), vI (C.2.1 (w32 (x3 + 5)))] G σ (fun (r1 : Int) (σ1 : jH) =>
  0 ≤ (w32 (x3 + 1)) ∧ (w32 (x3 + 1)) < C.2.2 ∧
  0 ≤ (w32 (x3 + 2)) ∧ (w32 (x3 + 2)) < C.2.2 ∧
  0 ≤ (w32 (x3 + 3)) ∧ (w32 (x3 + 3)) < C.2.2 ∧
  0 ≤ (w32 (x3 + 4)) ∧ (w32 (x3 + 4)) < C.2.2 ∧
  0 ≤ (w32 (x3 + 5)) ∧ (w32 (x3 + 5)) < C.2.2 ∧
  (G.2.1 x2).1 = 20 ∧
  cN C.1 d m_Model_feed [vR x2, vI (C.2.1 (w32 (x3 + 1))), vI (C.2.1 (w32 (x3 + 2))), vI (C.2.1 (w32 (x3 + 3))), vI (C.2.1 (w32 (x3 + 4))), vI (C.2.1 (w32 (x3 + 5)))] G σ1 (fun (r2 : Int) (σ2 : jH) =>
  ((r1 = r2 →
    P 1300 [some (vS), some (vR x1), some (vR x2), some (vI x3)] [] G σ2 cs ss) ∧
  (r1 ≠ r2 →
    ((0 : Int) = 0 ∨ (0 : Int) = 1) ∧ RT 0 G σ2))))) :
  jwp C d mc ms RT k_law j0 q_law P 57 192 [some (vS), some (vR x1), some (vR x2), some (vI x3)] [] G σ cs ss := h
set_option maxRecDepth 20000 in
theorem b_law_255 {C : jC} {d mc ms : Nat} {RT : Int → jG → jH → Prop} {P : jK} {G : jG} {σ : jH} {cs ss : Nat} {x1 : Int} {x2 : Int} {x3 : Int} (h :
  0 ≤ (w32 (x3 + 1)) ∧ (w32 (x3 + 1)) < C.2.2 ∧
  (G.2.1 x1).1 = 19 ∧
  cN C.1 d m_WordPlaces_end [vR x1, vI (C.2.1 (w32 (x3 + 1)))] G σ (fun (r1 : Int) (σ1 : jH) =>
  0 ≤ (w32 (x3 + 1)) ∧ (w32 (x3 + 1)) < C.2.2 ∧
  (G.2.1 x2).1 = 20 ∧
  cN C.1 d m_Model_end [vR x2, vI (C.2.1 (w32 (x3 + 1)))] G σ1 (fun (r2 : Int) (σ2 : jH) =>
  ((r1 = r2 →
    P 1300 [some (vS), some (vR x1), some (vR x2), some (vI x3)] [] G σ2 cs ss) ∧
  (r1 ≠ r2 →
    ((0 : Int) = 0 ∨ (0 : Int) = 1) ∧ RT 0 G σ2))))) :
  jwp C d mc ms RT k_law j0 q_law P 17 255 [some (vS), some (vR x1), some (vR x2), some (vI x3)] [] G σ cs ss := h
set_option maxRecDepth 20000 in
theorem b_law_278 {C : jC} {d mc ms : Nat} {RT : Int → jG → jH → Prop} {P : jK} {G : jG} {σ : jH} {cs ss : Nat} {x1 : Int} {x2 : Int} {x3 : Int} (h :
  (G.2.1 x1).1 = 19 ∧
  cN C.1 d m_WordPlaces_rules [vR x1] G σ (fun (r1 : Int) (σ1 : jH) =>
  (G.2.1 x2).1 = 20 ∧
  cN C.1 d m_Model_rules [vR x2] G σ1 (fun (r2 : Int) (σ2 : jH) =>
  ((r1 = r2 →
    P 1300 [some (vS), some (vR x1), some (vR x2), some (vI x3)] [] G σ2 cs ss) ∧
  (r1 ≠ r2 →
    ((0 : Int) = 0 ∨ (0 : Int) = 1) ∧ RT 0 G σ2))))) :
  jwp C d mc ms RT k_law j0 q_law P 7 278 [some (vS), some (vR x1), some (vR x2), some (vI x3)] [] G σ cs ss := h
set_option maxRecDepth 20000 in
theorem b_law_291 {C : jC} {d mc ms : Nat} {RT : Int → jG → jH → Prop} {P : jK} {G : jG} {σ : jH} {cs ss : Nat} {x1 : Int} {x2 : Int} {x3 : Int} (h :
  0 ≤ (w32 (x3 + 1)) ∧ (w32 (x3 + 1)) < C.2.2 ∧
  (G.2.1 x1).1 = 19 ∧
  cN C.1 d m_WordPlaces_fault [vR x1, vI (C.2.1 (w32 (x3 + 1)))] G σ (fun (r1 : Int) (σ1 : jH) =>
  0 ≤ (w32 (x3 + 1)) ∧ (w32 (x3 + 1)) < C.2.2 ∧
  (G.2.1 x2).1 = 20 ∧
  cN C.1 d m_Model_fault [vR x2, vI (C.2.1 (w32 (x3 + 1)))] G σ1 (fun (r2 : Int) (σ2 : jH) =>
  ((r1 = r2 →
    P 1300 [some (vS), some (vR x1), some (vR x2), some (vI x3)] [] G σ2 cs ss) ∧
  (r1 ≠ r2 →
    ((0 : Int) = 0 ∨ (0 : Int) = 1) ∧ RT 0 G σ2))))) :
  jwp C d mc ms RT k_law j0 q_law P 17 291 [some (vS), some (vR x1), some (vR x2), some (vI x3)] [] G σ cs ss := h
set_option maxRecDepth 20000 in
theorem b_law_314 {C : jC} {d mc ms : Nat} {RT : Int → jG → jH → Prop} {P : jK} {G : jG} {σ : jH} {cs ss : Nat} {x1 : Int} {x2 : Int} {x3 : Int} (h :
  0 ≤ (w32 (x3 + 1)) ∧ (w32 (x3 + 1)) < C.2.2 ∧
  (G.2.1 x1).1 = 19 ∧
  cN C.1 d m_WordPlaces_line [vR x1, vI (C.2.1 (w32 (x3 + 1)))] G σ (fun (r1 : Int) (σ1 : jH) =>
  0 ≤ (w32 (x3 + 1)) ∧ (w32 (x3 + 1)) < C.2.2 ∧
  (G.2.1 x2).1 = 20 ∧
  cN C.1 d m_Model_line [vR x2, vI (C.2.1 (w32 (x3 + 1)))] G σ1 (fun (r2 : Int) (σ2 : jH) =>
  ((r1 = r2 →
    P 1300 [some (vS), some (vR x1), some (vR x2), some (vI x3)] [] G σ2 cs ss) ∧
  (r1 ≠ r2 →
    ((0 : Int) = 0 ∨ (0 : Int) = 1) ∧ RT 0 G σ2))))) :
  jwp C d mc ms RT k_law j0 q_law P 17 314 [some (vS), some (vR x1), some (vR x2), some (vI x3)] [] G σ cs ss := h
set_option maxRecDepth 20000 in
theorem b_law_337 {C : jC} {d mc ms : Nat} {RT : Int → jG → jH → Prop} {P : jK} {G : jG} {σ : jH} {cs ss : Nat} {x1 : Int} {x2 : Int} {x3 : Int} (h :
  0 ≤ (w32 (x3 + 1)) ∧ (w32 (x3 + 1)) < C.2.2 ∧
  0 ≤ (w32 (x3 + 2)) ∧ (w32 (x3 + 2)) < C.2.2 ∧
  (G.2.1 x1).1 = 19 ∧
  cN C.1 d m_WordPlaces_right [vR x1, vI (C.2.1 (w32 (x3 + 1))), vI (C.2.1 (w32 (x3 + 2)))] G σ (fun (r1 : Int) (σ1 : jH) =>
  0 ≤ (w32 (x3 + 1)) ∧ (w32 (x3 + 1)) < C.2.2 ∧
  0 ≤ (w32 (x3 + 2)) ∧ (w32 (x3 + 2)) < C.2.2 ∧
  (G.2.1 x2).1 = 20 ∧
  cN C.1 d m_Model_right [vR x2, vI (C.2.1 (w32 (x3 + 1))), vI (C.2.1 (w32 (x3 + 2)))] G σ1 (fun (r2 : Int) (σ2 : jH) =>
  ((r1 = r2 →
    P 1300 [some (vS), some (vR x1), some (vR x2), some (vI x3)] [] G σ2 cs ss) ∧
  (r1 ≠ r2 →
    ((0 : Int) = 0 ∨ (0 : Int) = 1) ∧ RT 0 G σ2))))) :
  jwp C d mc ms RT k_law j0 q_law P 27 337 [some (vS), some (vR x1), some (vR x2), some (vI x3)] [] G σ cs ss := h
set_option maxRecDepth 20000 in
theorem b_law_370 {C : jC} {d mc ms : Nat} {RT : Int → jG → jH → Prop} {P : jK} {G : jG} {σ : jH} {cs ss : Nat} {x1 : Int} {x2 : Int} {x3 : Int} (h :
  0 ≤ (w32 (x3 + 1)) ∧ (w32 (x3 + 1)) < C.2.2 ∧
  0 ≤ (w32 (x3 + 2)) ∧ (w32 (x3 + 2)) < C.2.2 ∧
  (G.2.1 x1).1 = 19 ∧
  cN C.1 d m_WordPlaces_lineOf [vR x1, vI (C.2.1 (w32 (x3 + 1))), vI (C.2.1 (w32 (x3 + 2)))] G σ (fun (r1 : Int) (σ1 : jH) =>
  0 ≤ (w32 (x3 + 1)) ∧ (w32 (x3 + 1)) < C.2.2 ∧
  0 ≤ (w32 (x3 + 2)) ∧ (w32 (x3 + 2)) < C.2.2 ∧
  (G.2.1 x2).1 = 20 ∧
  cN C.1 d m_Model_lineOf [vR x2, vI (C.2.1 (w32 (x3 + 1))), vI (C.2.1 (w32 (x3 + 2)))] G σ1 (fun (r2 : Int) (σ2 : jH) =>
  ((r1 = r2 →
    P 1300 [some (vS), some (vR x1), some (vR x2), some (vI x3)] [] G σ2 cs ss) ∧
  (r1 ≠ r2 →
    ((0 : Int) = 0 ∨ (0 : Int) = 1) ∧ RT 0 G σ2))))) :
  jwp C d mc ms RT k_law j0 q_law P 27 370 [some (vS), some (vR x1), some (vR x2), some (vI x3)] [] G σ cs ss := h
set_option maxRecDepth 20000 in
theorem b_law_403 {C : jC} {d mc ms : Nat} {RT : Int → jG → jH → Prop} {P : jK} {G : jG} {σ : jH} {cs ss : Nat} {x1 : Int} {x2 : Int} {x3 : Int} (h :
  0 ≤ (w32 (x3 + 1)) ∧ (w32 (x3 + 1)) < C.2.2 ∧
  0 ≤ (w32 (x3 + 2)) ∧ (w32 (x3 + 2)) < C.2.2 ∧
  (G.2.1 x1).1 = 19 ∧
  cN C.1 d m_WordPlaces_edition [vR x1, vI (C.2.1 (w32 (x3 + 1))), vI (C.2.1 (w32 (x3 + 2)))] G σ (fun (r1 : Int) (σ1 : jH) =>
  0 ≤ (w32 (x3 + 1)) ∧ (w32 (x3 + 1)) < C.2.2 ∧
  0 ≤ (w32 (x3 + 2)) ∧ (w32 (x3 + 2)) < C.2.2 ∧
  (G.2.1 x2).1 = 20 ∧
  cN C.1 d m_Model_edition [vR x2, vI (C.2.1 (w32 (x3 + 1))), vI (C.2.1 (w32 (x3 + 2)))] G σ1 (fun (r2 : Int) (σ2 : jH) =>
  ((r1 = r2 →
    P 1300 [some (vS), some (vR x1), some (vR x2), some (vI x3)] [] G σ2 cs ss) ∧
  (r1 ≠ r2 →
    ((0 : Int) = 0 ∨ (0 : Int) = 1) ∧ RT 0 G σ2))))) :
  jwp C d mc ms RT k_law j0 q_law P 27 403 [some (vS), some (vR x1), some (vR x2), some (vI x3)] [] G σ cs ss := h
set_option maxRecDepth 20000 in
theorem b_law_436 {C : jC} {d mc ms : Nat} {RT : Int → jG → jH → Prop} {P : jK} {G : jG} {σ : jH} {cs ss : Nat} {x1 : Int} {x2 : Int} {x3 : Int} (h :
  0 ≤ (w32 (x3 + 1)) ∧ (w32 (x3 + 1)) < C.2.2 ∧
  0 ≤ (w32 (x3 + 2)) ∧ (w32 (x3 + 2)) < C.2.2 ∧
  0 ≤ (w32 (x3 + 3)) ∧ (w32 (x3 + 3)) < C.2.2 ∧
  (G.2.1 x1).1 = 19 ∧
  cN C.1 d m_WordPlaces_word [vR x1, vI (C.2.1 (w32 (x3 + 1))), vI (C.2.1 (w32 (x3 + 2))), vI (C.2.1 (w32 (x3 + 3)))] G σ (fun (r1 : Int) (σ1 : jH) =>
  0 ≤ (w32 (x3 + 1)) ∧ (w32 (x3 + 1)) < C.2.2 ∧
  0 ≤ (w32 (x3 + 2)) ∧ (w32 (x3 + 2)) < C.2.2 ∧
  0 ≤ (w32 (x3 + 3)) ∧ (w32 (x3 + 3)) < C.2.2 ∧
  (G.2.1 x2).1 = 20 ∧
  cN C.1 d m_Model_word [vR x2, vI (C.2.1 (w32 (x3 + 1))), vI (C.2.1 (w32 (x3 + 2))), vI (C.2.1 (w32 (x3 + 3)))] G σ1 (fun (r2 : Int) (σ2 : jH) =>
  ((r1 = r2 →
    P 1300 [some (vS), some (vR x1), some (vR x2), some (vI x3)] [] G σ2 cs ss) ∧
  (r1 ≠ r2 →
    ((0 : Int) = 0 ∨ (0 : Int) = 1) ∧ RT 0 G σ2))))) :
  jwp C d mc ms RT k_law j0 q_law P 37 436 [some (vS), some (vR x1), some (vR x2), some (vI x3)] [] G σ cs ss := h
set_option maxRecDepth 20000 in
theorem b_law_479 {C : jC} {d mc ms : Nat} {RT : Int → jG → jH → Prop} {P : jK} {G : jG} {σ : jH} {cs ss : Nat} {x1 : Int} {x2 : Int} {x3 : Int} (h :
  (G.2.1 x1).1 = 19 ∧
  cN C.1 d m_WordPlaces_forms [vR x1] G σ (fun (r1 : Int) (σ1 : jH) =>
  (G.2.1 x2).1 = 20 ∧
  cN C.1 d m_Model_forms [vR x2] G σ1 (fun (r2 : Int) (σ2 : jH) =>
  ((r1 = r2 →
    P 1300 [some (vS), some (vR x1), some (vR x2), some (vI x3)] [] G σ2 cs ss) ∧
  (r1 ≠ r2 →
    ((0 : Int) = 0 ∨ (0 : Int) = 1) ∧ RT 0 G σ2))))) :
  jwp C d mc ms RT k_law j0 q_law P 7 479 [some (vS), some (vR x1), some (vR x2), some (vI x3)] [] G σ cs ss := h
set_option maxRecDepth 20000 in
theorem b_law_492 {C : jC} {d mc ms : Nat} {RT : Int → jG → jH → Prop} {P : jK} {G : jG} {σ : jH} {cs ss : Nat} {x1 : Int} {x2 : Int} {x3 : Int} (h :
  0 ≤ (w32 (x3 + 1)) ∧ (w32 (x3 + 1)) < C.2.2 ∧
  0 ≤ (w32 (x3 + 2)) ∧ (w32 (x3 + 2)) < C.2.2 ∧
  (G.2.1 x1).1 = 19 ∧
  cN C.1 d m_WordPlaces_form [vR x1, vI (C.2.1 (w32 (x3 + 1))), vI (C.2.1 (w32 (x3 + 2)))] G σ (fun (r1 : Int) (σ1 : jH) =>
  0 ≤ (w32 (x3 + 1)) ∧ (w32 (x3 + 1)) < C.2.2 ∧
  0 ≤ (w32 (x3 + 2)) ∧ (w32 (x3 + 2)) < C.2.2 ∧
  (G.2.1 x2).1 = 20 ∧
  cN C.1 d m_Model_form [vR x2, vI (C.2.1 (w32 (x3 + 1))), vI (C.2.1 (w32 (x3 + 2)))] G σ1 (fun (r2 : Int) (σ2 : jH) =>
  ((r1 = r2 →
    P 1300 [some (vS), some (vR x1), some (vR x2), some (vI x3)] [] G σ2 cs ss) ∧
  (r1 ≠ r2 →
    ((0 : Int) = 0 ∨ (0 : Int) = 1) ∧ RT 0 G σ2))))) :
  jwp C d mc ms RT k_law j0 q_law P 27 492 [some (vS), some (vR x1), some (vR x2), some (vI x3)] [] G σ cs ss := h
set_option maxRecDepth 20000 in
theorem b_law_525 {C : jC} {d mc ms : Nat} {RT : Int → jG → jH → Prop} {P : jK} {G : jG} {σ : jH} {cs ss : Nat} {x1 : Int} {x2 : Int} {x3 : Int} (h :
  0 ≤ (w32 (x3 + 1)) ∧ (w32 (x3 + 1)) < C.2.2 ∧
  (G.2.1 x1).1 = 19 ∧
  cN C.1 d m_WordPlaces_ordered [vR x1, vI (C.2.1 (w32 (x3 + 1)))] G σ (fun (r1 : Int) (σ1 : jH) =>
  0 ≤ (w32 (x3 + 1)) ∧ (w32 (x3 + 1)) < C.2.2 ∧
  (G.2.1 x2).1 = 20 ∧
  cN C.1 d m_Model_ordered [vR x2, vI (C.2.1 (w32 (x3 + 1)))] G σ1 (fun (r2 : Int) (σ2 : jH) =>
  ((r1 = r2 →
    P 1300 [some (vS), some (vR x1), some (vR x2), some (vI x3)] [] G σ2 cs ss) ∧
  (r1 ≠ r2 →
    ((0 : Int) = 0 ∨ (0 : Int) = 1) ∧ RT 0 G σ2))))) :
  jwp C d mc ms RT k_law j0 q_law P 17 525 [some (vS), some (vR x1), some (vR x2), some (vI x3)] [] G σ cs ss := h
set_option maxRecDepth 20000 in
theorem b_law_548 {C : jC} {d mc ms : Nat} {RT : Int → jG → jH → Prop} {P : jK} {G : jG} {σ : jH} {cs ss : Nat} {x1 : Int} {x2 : Int} {x3 : Int} (h :
  0 ≤ (w32 (x3 + 1)) ∧ (w32 (x3 + 1)) < C.2.2 ∧
  (G.2.1 x1).1 = 19 ∧
  cN C.1 d m_WordPlaces_ask [vR x1, vI (C.2.1 (w32 (x3 + 1)))] G σ (fun (r1 : Int) (σ1 : jH) =>
  0 ≤ (w32 (x3 + 1)) ∧ (w32 (x3 + 1)) < C.2.2 ∧
  (G.2.1 x2).1 = 20 ∧
  cN C.1 d m_Model_ask [vR x2, vI (C.2.1 (w32 (x3 + 1)))] G σ1 (fun (r2 : Int) (σ2 : jH) =>
  ((r1 = r2 →
    P 1300 [some (vS), some (vR x1), some (vR x2), some (vI x3)] [] G σ2 cs ss) ∧
  (r1 ≠ r2 →
    ((0 : Int) = 0 ∨ (0 : Int) = 1) ∧ RT 0 G σ2))))) :
  jwp C d mc ms RT k_law j0 q_law P 17 548 [some (vS), some (vR x1), some (vR x2), some (vI x3)] [] G σ cs ss := h
set_option maxRecDepth 20000 in
theorem b_law_571 {C : jC} {d mc ms : Nat} {RT : Int → jG → jH → Prop} {P : jK} {G : jG} {σ : jH} {cs ss : Nat} {x1 : Int} {x2 : Int} {x3 : Int} (h :
  0 ≤ (w32 (x3 + 1)) ∧ (w32 (x3 + 1)) < C.2.2 ∧
  0 ≤ (w32 (x3 + 2)) ∧ (w32 (x3 + 2)) < C.2.2 ∧
  (G.2.1 x1).1 = 19 ∧
  cN C.1 d m_WordPlaces_answer [vR x1, vI (C.2.1 (w32 (x3 + 1))), vI (C.2.1 (w32 (x3 + 2)))] G σ (fun (r1 : Int) (σ1 : jH) =>
  0 ≤ (w32 (x3 + 1)) ∧ (w32 (x3 + 1)) < C.2.2 ∧
  0 ≤ (w32 (x3 + 2)) ∧ (w32 (x3 + 2)) < C.2.2 ∧
  (G.2.1 x2).1 = 20 ∧
  cN C.1 d m_Model_answer [vR x2, vI (C.2.1 (w32 (x3 + 1))), vI (C.2.1 (w32 (x3 + 2)))] G σ1 (fun (r2 : Int) (σ2 : jH) =>
  ((r1 = r2 →
    P 1300 [some (vS), some (vR x1), some (vR x2), some (vI x3)] [] G σ2 cs ss) ∧
  (r1 ≠ r2 →
    ((0 : Int) = 0 ∨ (0 : Int) = 1) ∧ RT 0 G σ2))))) :
  jwp C d mc ms RT k_law j0 q_law P 27 571 [some (vS), some (vR x1), some (vR x2), some (vI x3)] [] G σ cs ss := h
set_option maxRecDepth 20000 in
theorem b_law_604 {C : jC} {d mc ms : Nat} {RT : Int → jG → jH → Prop} {P : jK} {G : jG} {σ : jH} {cs ss : Nat} {x1 : Int} {x2 : Int} {x3 : Int} (h :
  0 ≤ (w32 (x3 + 1)) ∧ (w32 (x3 + 1)) < C.2.2 ∧
  0 ≤ (w32 (x3 + 2)) ∧ (w32 (x3 + 2)) < C.2.2 ∧
  0 ≤ (w32 (x3 + 3)) ∧ (w32 (x3 + 3)) < C.2.2 ∧
  (G.2.1 x1).1 = 19 ∧
  cN C.1 d m_WordPlaces_stands [vR x1, vI (C.2.1 (w32 (x3 + 1))), vI (C.2.1 (w32 (x3 + 2))), vI (C.2.1 (w32 (x3 + 3)))] G σ (fun (r1 : Int) (σ1 : jH) =>
  0 ≤ (w32 (x3 + 1)) ∧ (w32 (x3 + 1)) < C.2.2 ∧
  0 ≤ (w32 (x3 + 2)) ∧ (w32 (x3 + 2)) < C.2.2 ∧
  0 ≤ (w32 (x3 + 3)) ∧ (w32 (x3 + 3)) < C.2.2 ∧
  (G.2.1 x2).1 = 20 ∧
  cN C.1 d m_Model_stands [vR x2, vI (C.2.1 (w32 (x3 + 1))), vI (C.2.1 (w32 (x3 + 2))), vI (C.2.1 (w32 (x3 + 3)))] G σ1 (fun (r2 : Int) (σ2 : jH) =>
  ((r1 = r2 →
    P 1300 [some (vS), some (vR x1), some (vR x2), some (vI x3)] [] G σ2 cs ss) ∧
  (r1 ≠ r2 →
    ((0 : Int) = 0 ∨ (0 : Int) = 1) ∧ RT 0 G σ2))))) :
  jwp C d mc ms RT k_law j0 q_law P 37 604 [some (vS), some (vR x1), some (vR x2), some (vI x3)] [] G σ cs ss := h
set_option maxRecDepth 20000 in
theorem b_law_647 {C : jC} {d mc ms : Nat} {RT : Int → jG → jH → Prop} {P : jK} {G : jG} {σ : jH} {cs ss : Nat} {x1 : Int} {x2 : Int} {x3 : Int} (h :
  0 ≤ (w32 (x3 + 1)) ∧ (w32 (x3 + 1)) < C.2.2 ∧
  0 ≤ (w32 (x3 + 2)) ∧ (w32 (x3 + 2)) < C.2.2 ∧
  0 ≤ (w32 (x3 + 3)) ∧ (w32 (x3 + 3)) < C.2.2 ∧
  (G.2.1 x1).1 = 19 ∧
  cN C.1 d m_WordPlaces_pack [vR x1, vI (C.2.1 (w32 (x3 + 1))), vI (C.2.1 (w32 (x3 + 2))), vI (C.2.1 (w32 (x3 + 3)))] G σ (fun (r1 : Int) (σ1 : jH) =>
  0 ≤ (w32 (x3 + 1)) ∧ (w32 (x3 + 1)) < C.2.2 ∧
  0 ≤ (w32 (x3 + 2)) ∧ (w32 (x3 + 2)) < C.2.2 ∧
  0 ≤ (w32 (x3 + 3)) ∧ (w32 (x3 + 3)) < C.2.2 ∧
  (G.2.1 x2).1 = 20 ∧
  cN C.1 d m_Model_pack [vR x2, vI (C.2.1 (w32 (x3 + 1))), vI (C.2.1 (w32 (x3 + 2))), vI (C.2.1 (w32 (x3 + 3)))] G σ1 (fun (r2 : Int) (σ2 : jH) =>
  ((r1 = r2 →
    P 1300 [some (vS), some (vR x1), some (vR x2), some (vI x3)] [] G σ2 cs ss) ∧
  (r1 ≠ r2 →
    ((0 : Int) = 0 ∨ (0 : Int) = 1) ∧ RT 0 G σ2))))) :
  jwp C d mc ms RT k_law j0 q_law P 37 647 [some (vS), some (vR x1), some (vR x2), some (vI x3)] [] G σ cs ss := h
set_option maxRecDepth 20000 in
theorem b_law_690 {C : jC} {d mc ms : Nat} {RT : Int → jG → jH → Prop} {P : jK} {G : jG} {σ : jH} {cs ss : Nat} {x1 : Int} {x2 : Int} {x3 : Int} (h :
  0 ≤ (w32 (x3 + 1)) ∧ (w32 (x3 + 1)) < C.2.2 ∧
  (G.2.1 x1).1 = 19 ∧
  cN C.1 d m_WordPlaces_room [vR x1, vI (C.2.1 (w32 (x3 + 1)))] G σ (fun (r1 : Int) (σ1 : jH) =>
  0 ≤ (w32 (x3 + 1)) ∧ (w32 (x3 + 1)) < C.2.2 ∧
  (G.2.1 x2).1 = 20 ∧
  cN C.1 d m_Model_room [vR x2, vI (C.2.1 (w32 (x3 + 1)))] G σ1 (fun (r2 : Int) (σ2 : jH) =>
  ((r1 = r2 →
    P 1300 [some (vS), some (vR x1), some (vR x2), some (vI x3)] [] G σ2 cs ss) ∧
  (r1 ≠ r2 →
    ((0 : Int) = 0 ∨ (0 : Int) = 1) ∧ RT 0 G σ2))))) :
  jwp C d mc ms RT k_law j0 q_law P 17 690 [some (vS), some (vR x1), some (vR x2), some (vI x3)] [] G σ cs ss := h
set_option maxRecDepth 20000 in
theorem b_law_713 {C : jC} {d mc ms : Nat} {RT : Int → jG → jH → Prop} {P : jK} {G : jG} {σ : jH} {cs ss : Nat} {x1 : Int} {x2 : Int} {x3 : Int} (h :
  0 ≤ (w32 (x3 + 1)) ∧ (w32 (x3 + 1)) < C.2.2 ∧
  0 ≤ (w32 (x3 + 2)) ∧ (w32 (x3 + 2)) < C.2.2 ∧
  (G.2.1 x1).1 = 19 ∧
  cN C.1 d m_WordPlaces_shares [vR x1, vI (C.2.1 (w32 (x3 + 1))), vI (C.2.1 (w32 (x3 + 2)))] G σ (fun (r1 : Int) (σ1 : jH) =>
  0 ≤ (w32 (x3 + 1)) ∧ (w32 (x3 + 1)) < C.2.2 ∧
  0 ≤ (w32 (x3 + 2)) ∧ (w32 (x3 + 2)) < C.2.2 ∧
  (G.2.1 x2).1 = 20 ∧
  cN C.1 d m_Model_shares [vR x2, vI (C.2.1 (w32 (x3 + 1))), vI (C.2.1 (w32 (x3 + 2)))] G σ1 (fun (r2 : Int) (σ2 : jH) =>
  ((r1 = r2 →
    P 1300 [some (vS), some (vR x1), some (vR x2), some (vI x3)] [] G σ2 cs ss) ∧
  (r1 ≠ r2 →
    ((0 : Int) = 0 ∨ (0 : Int) = 1) ∧ RT 0 G σ2))))) :
  jwp C d mc ms RT k_law j0 q_law P 27 713 [some (vS), some (vR x1), some (vR x2), some (vI x3)] [] G σ cs ss := h
set_option maxRecDepth 20000 in
theorem b_law_746 {C : jC} {d mc ms : Nat} {RT : Int → jG → jH → Prop} {P : jK} {G : jG} {σ : jH} {cs ss : Nat} {x1 : Int} {x2 : Int} {x3 : Int} (h :
  0 ≤ (w32 (x3 + 1)) ∧ (w32 (x3 + 1)) < C.2.2 ∧
  (G.2.1 x1).1 = 19 ∧
  cN C.1 d m_WordPlaces_share [vR x1, vI (C.2.1 (w32 (x3 + 1)))] G σ (fun (r1 : Int) (σ1 : jH) =>
  0 ≤ (w32 (x3 + 1)) ∧ (w32 (x3 + 1)) < C.2.2 ∧
  (G.2.1 x2).1 = 20 ∧
  cN C.1 d m_Model_share [vR x2, vI (C.2.1 (w32 (x3 + 1)))] G σ1 (fun (r2 : Int) (σ2 : jH) =>
  ((r1 = r2 →
    P 1300 [some (vS), some (vR x1), some (vR x2), some (vI x3)] [] G σ2 cs ss) ∧
  (r1 ≠ r2 →
    ((0 : Int) = 0 ∨ (0 : Int) = 1) ∧ RT 0 G σ2))))) :
  jwp C d mc ms RT k_law j0 q_law P 17 746 [some (vS), some (vR x1), some (vR x2), some (vI x3)] [] G σ cs ss := h
set_option maxRecDepth 20000 in
theorem b_law_769 {C : jC} {d mc ms : Nat} {RT : Int → jG → jH → Prop} {P : jK} {G : jG} {σ : jH} {cs ss : Nat} {x1 : Int} {x2 : Int} {x3 : Int} (h :
  (G.2.1 x1).1 = 19 ∧
  cN C.1 d m_WordPlaces_alike [vR x1] G σ (fun (r1 : Int) (σ1 : jH) =>
  (G.2.1 x2).1 = 20 ∧
  cN C.1 d m_Model_alike [vR x2] G σ1 (fun (r2 : Int) (σ2 : jH) =>
  ((r1 = r2 →
    P 1300 [some (vS), some (vR x1), some (vR x2), some (vI x3)] [] G σ2 cs ss) ∧
  (r1 ≠ r2 →
    ((0 : Int) = 0 ∨ (0 : Int) = 1) ∧ RT 0 G σ2))))) :
  jwp C d mc ms RT k_law j0 q_law P 7 769 [some (vS), some (vR x1), some (vR x2), some (vI x3)] [] G σ cs ss := h
set_option maxRecDepth 20000 in
theorem b_law_782 {C : jC} {d mc ms : Nat} {RT : Int → jG → jH → Prop} {P : jK} {G : jG} {σ : jH} {cs ss : Nat} {x1 : Int} {x2 : Int} {x3 : Int} (h :
  0 ≤ (w32 (x3 + 1)) ∧ (w32 (x3 + 1)) < C.2.2 ∧
  (G.2.1 x1).1 = 19 ∧
  cN C.1 d m_WordPlaces_matched [vR x1, vI (C.2.1 (w32 (x3 + 1)))] G σ (fun (r1 : Int) (σ1 : jH) =>
  0 ≤ (w32 (x3 + 1)) ∧ (w32 (x3 + 1)) < C.2.2 ∧
  (G.2.1 x2).1 = 20 ∧
  cN C.1 d m_Model_matched [vR x2, vI (C.2.1 (w32 (x3 + 1)))] G σ1 (fun (r2 : Int) (σ2 : jH) =>
  ((r1 = r2 →
    P 1300 [some (vS), some (vR x1), some (vR x2), some (vI x3)] [] G σ2 cs ss) ∧
  (r1 ≠ r2 →
    ((0 : Int) = 0 ∨ (0 : Int) = 1) ∧ RT 0 G σ2))))) :
  jwp C d mc ms RT k_law j0 q_law P 17 782 [some (vS), some (vR x1), some (vR x2), some (vI x3)] [] G σ cs ss := h
set_option maxRecDepth 20000 in
theorem b_law_805 {C : jC} {d mc ms : Nat} {RT : Int → jG → jH → Prop} {P : jK} {G : jG} {σ : jH} {cs ss : Nat} {x1 : Int} {x2 : Int} {x3 : Int} (h :
  0 ≤ (w32 (x3 + 1)) ∧ (w32 (x3 + 1)) < C.2.2 ∧
  0 ≤ (w32 (x3 + 2)) ∧ (w32 (x3 + 2)) < C.2.2 ∧
  (G.2.1 x1).1 = 19 ∧
  cN C.1 d m_WordPlaces_slip [vR x1, vI (C.2.1 (w32 (x3 + 1))), vI (C.2.1 (w32 (x3 + 2)))] G σ (fun (r1 : Int) (σ1 : jH) =>
  0 ≤ (w32 (x3 + 1)) ∧ (w32 (x3 + 1)) < C.2.2 ∧
  0 ≤ (w32 (x3 + 2)) ∧ (w32 (x3 + 2)) < C.2.2 ∧
  (G.2.1 x2).1 = 20 ∧
  cN C.1 d m_Model_slip [vR x2, vI (C.2.1 (w32 (x3 + 1))), vI (C.2.1 (w32 (x3 + 2)))] G σ1 (fun (r2 : Int) (σ2 : jH) =>
  ((r1 = r2 →
    P 1300 [some (vS), some (vR x1), some (vR x2), some (vI x3)] [] G σ2 cs ss) ∧
  (r1 ≠ r2 →
    ((0 : Int) = 0 ∨ (0 : Int) = 1) ∧ RT 0 G σ2))))) :
  jwp C d mc ms RT k_law j0 q_law P 27 805 [some (vS), some (vR x1), some (vR x2), some (vI x3)] [] G σ cs ss := h
set_option maxRecDepth 20000 in
theorem b_law_838 {C : jC} {d mc ms : Nat} {RT : Int → jG → jH → Prop} {P : jK} {G : jG} {σ : jH} {cs ss : Nat} {x1 : Int} {x2 : Int} {x3 : Int} (h :
  0 ≤ (w32 (x3 + 1)) ∧ (w32 (x3 + 1)) < C.2.2 ∧
  0 ≤ (w32 (x3 + 2)) ∧ (w32 (x3 + 2)) < C.2.2 ∧
  (G.2.1 x1).1 = 19 ∧
  cN C.1 d m_WordPlaces_hand [vR x1, vI (C.2.1 (w32 (x3 + 1))), vI (C.2.1 (w32 (x3 + 2)))] G σ (fun (r1 : Int) (σ1 : jH) =>
  0 ≤ (w32 (x3 + 1)) ∧ (w32 (x3 + 1)) < C.2.2 ∧
  0 ≤ (w32 (x3 + 2)) ∧ (w32 (x3 + 2)) < C.2.2 ∧
  (G.2.1 x2).1 = 20 ∧
  cN C.1 d m_Model_hand [vR x2, vI (C.2.1 (w32 (x3 + 1))), vI (C.2.1 (w32 (x3 + 2)))] G σ1 (fun (r2 : Int) (σ2 : jH) =>
  ((r1 = r2 →
    P 1300 [some (vS), some (vR x1), some (vR x2), some (vI x3)] [] G σ2 cs ss) ∧
  (r1 ≠ r2 →
    ((0 : Int) = 0 ∨ (0 : Int) = 1) ∧ RT 0 G σ2))))) :
  jwp C d mc ms RT k_law j0 q_law P 27 838 [some (vS), some (vR x1), some (vR x2), some (vI x3)] [] G σ cs ss := h
set_option maxRecDepth 20000 in
theorem b_law_871 {C : jC} {d mc ms : Nat} {RT : Int → jG → jH → Prop} {P : jK} {G : jG} {σ : jH} {cs ss : Nat} {x1 : Int} {x2 : Int} {x3 : Int} (h :
  0 ≤ (w32 (x3 + 1)) ∧ (w32 (x3 + 1)) < C.2.2 ∧
  0 ≤ (w32 (x3 + 2)) ∧ (w32 (x3 + 2)) < C.2.2 ∧
  (G.2.1 x1).1 = 19 ∧
  cN C.1 d m_WordPlaces_copied [vR x1, vI (C.2.1 (w32 (x3 + 1))), vI (C.2.1 (w32 (x3 + 2)))] G σ (fun (r1 : Int) (σ1 : jH) =>
  0 ≤ (w32 (x3 + 1)) ∧ (w32 (x3 + 1)) < C.2.2 ∧
  0 ≤ (w32 (x3 + 2)) ∧ (w32 (x3 + 2)) < C.2.2 ∧
  (G.2.1 x2).1 = 20 ∧
  cN C.1 d m_Model_copied [vR x2, vI (C.2.1 (w32 (x3 + 1))), vI (C.2.1 (w32 (x3 + 2)))] G σ1 (fun (r2 : Int) (σ2 : jH) =>
  ((r1 = r2 →
    P 1300 [some (vS), some (vR x1), some (vR x2), some (vI x3)] [] G σ2 cs ss) ∧
  (r1 ≠ r2 →
    ((0 : Int) = 0 ∨ (0 : Int) = 1) ∧ RT 0 G σ2))))) :
  jwp C d mc ms RT k_law j0 q_law P 27 871 [some (vS), some (vR x1), some (vR x2), some (vI x3)] [] G σ cs ss := h
set_option maxRecDepth 20000 in
theorem b_law_904 {C : jC} {d mc ms : Nat} {RT : Int → jG → jH → Prop} {P : jK} {G : jG} {σ : jH} {cs ss : Nat} {x1 : Int} {x2 : Int} {x3 : Int} (h :
  0 ≤ (w32 (x3 + 1)) ∧ (w32 (x3 + 1)) < C.2.2 ∧
  (G.2.1 x1).1 = 19 ∧
  cN C.1 d m_WordPlaces_rank [vR x1, vI (C.2.1 (w32 (x3 + 1)))] G σ (fun (r1 : Int) (σ1 : jH) =>
  0 ≤ (w32 (x3 + 1)) ∧ (w32 (x3 + 1)) < C.2.2 ∧
  (G.2.1 x2).1 = 20 ∧
  cN C.1 d m_Model_rank [vR x2, vI (C.2.1 (w32 (x3 + 1)))] G σ1 (fun (r2 : Int) (σ2 : jH) =>
  ((r1 = r2 →
    P 1300 [some (vS), some (vR x1), some (vR x2), some (vI x3)] [] G σ2 cs ss) ∧
  (r1 ≠ r2 →
    ((0 : Int) = 0 ∨ (0 : Int) = 1) ∧ RT 0 G σ2))))) :
  jwp C d mc ms RT k_law j0 q_law P 17 904 [some (vS), some (vR x1), some (vR x2), some (vI x3)] [] G σ cs ss := h
set_option maxRecDepth 20000 in
theorem b_law_927 {C : jC} {d mc ms : Nat} {RT : Int → jG → jH → Prop} {P : jK} {G : jG} {σ : jH} {cs ss : Nat} {x1 : Int} {x2 : Int} {x3 : Int} (h :
  0 ≤ (w32 (x3 + 1)) ∧ (w32 (x3 + 1)) < C.2.2 ∧
  0 ≤ (w32 (x3 + 2)) ∧ (w32 (x3 + 2)) < C.2.2 ∧
  (G.2.1 x1).1 = 19 ∧
  cN C.1 d m_WordPlaces_ranked [vR x1, vI (C.2.1 (w32 (x3 + 1))), vI (C.2.1 (w32 (x3 + 2)))] G σ (fun (r1 : Int) (σ1 : jH) =>
  0 ≤ (w32 (x3 + 1)) ∧ (w32 (x3 + 1)) < C.2.2 ∧
  0 ≤ (w32 (x3 + 2)) ∧ (w32 (x3 + 2)) < C.2.2 ∧
  (G.2.1 x2).1 = 20 ∧
  cN C.1 d m_Model_ranked [vR x2, vI (C.2.1 (w32 (x3 + 1))), vI (C.2.1 (w32 (x3 + 2)))] G σ1 (fun (r2 : Int) (σ2 : jH) =>
  ((r1 = r2 →
    P 1300 [some (vS), some (vR x1), some (vR x2), some (vI x3)] [] G σ2 cs ss) ∧
  (r1 ≠ r2 →
    ((0 : Int) = 0 ∨ (0 : Int) = 1) ∧ RT 0 G σ2))))) :
  jwp C d mc ms RT k_law j0 q_law P 27 927 [some (vS), some (vR x1), some (vR x2), some (vI x3)] [] G σ cs ss := h
set_option maxRecDepth 20000 in
theorem b_law_960 {C : jC} {d mc ms : Nat} {RT : Int → jG → jH → Prop} {P : jK} {G : jG} {σ : jH} {cs ss : Nat} {x1 : Int} {x2 : Int} {x3 : Int} (h :
  (G.2.1 x1).1 = 19 ∧
  cN C.1 d m_WordPlaces_begins [vR x1] G σ (fun (r1 : Int) (σ1 : jH) =>
  (G.2.1 x2).1 = 20 ∧
  cN C.1 d m_Model_begins [vR x2] G σ1 (fun (r2 : Int) (σ2 : jH) =>
  ((r1 = r2 →
    P 1300 [some (vS), some (vR x1), some (vR x2), some (vI x3)] [] G σ2 cs ss) ∧
  (r1 ≠ r2 →
    ((0 : Int) = 0 ∨ (0 : Int) = 1) ∧ RT 0 G σ2))))) :
  jwp C d mc ms RT k_law j0 q_law P 7 960 [some (vS), some (vR x1), some (vR x2), some (vI x3)] [] G σ cs ss := h
set_option maxRecDepth 20000 in
theorem b_law_973 {C : jC} {d mc ms : Nat} {RT : Int → jG → jH → Prop} {P : jK} {G : jG} {σ : jH} {cs ss : Nat} {x1 : Int} {x2 : Int} {x3 : Int} (h :
  0 ≤ (w32 (x3 + 1)) ∧ (w32 (x3 + 1)) < C.2.2 ∧
  (G.2.1 x1).1 = 19 ∧
  cN C.1 d m_WordPlaces_begun [vR x1, vI (C.2.1 (w32 (x3 + 1)))] G σ (fun (r1 : Int) (σ1 : jH) =>
  0 ≤ (w32 (x3 + 1)) ∧ (w32 (x3 + 1)) < C.2.2 ∧
  (G.2.1 x2).1 = 20 ∧
  cN C.1 d m_Model_begun [vR x2, vI (C.2.1 (w32 (x3 + 1)))] G σ1 (fun (r2 : Int) (σ2 : jH) =>
  ((r1 = r2 →
    P 1300 [some (vS), some (vR x1), some (vR x2), some (vI x3)] [] G σ2 cs ss) ∧
  (r1 ≠ r2 →
    ((0 : Int) = 0 ∨ (0 : Int) = 1) ∧ RT 0 G σ2))))) :
  jwp C d mc ms RT k_law j0 q_law P 17 973 [some (vS), some (vR x1), some (vR x2), some (vI x3)] [] G σ cs ss := h
set_option maxRecDepth 20000 in
theorem b_law_996 {C : jC} {d mc ms : Nat} {RT : Int → jG → jH → Prop} {P : jK} {G : jG} {σ : jH} {cs ss : Nat} {x1 : Int} {x2 : Int} {x3 : Int} (h :
  0 ≤ (w32 (x3 + 1)) ∧ (w32 (x3 + 1)) < C.2.2 ∧
  0 ≤ (w32 (x3 + 2)) ∧ (w32 (x3 + 2)) < C.2.2 ∧
  (G.2.1 x1).1 = 19 ∧
  cN C.1 d m_WordPlaces_print [vR x1, vI (C.2.1 (w32 (x3 + 1))), vI (C.2.1 (w32 (x3 + 2)))] G σ (fun (r1 : Int) (σ1 : jH) =>
  0 ≤ (w32 (x3 + 1)) ∧ (w32 (x3 + 1)) < C.2.2 ∧
  0 ≤ (w32 (x3 + 2)) ∧ (w32 (x3 + 2)) < C.2.2 ∧
  (G.2.1 x2).1 = 20 ∧
  cN C.1 d m_Model_print [vR x2, vI (C.2.1 (w32 (x3 + 1))), vI (C.2.1 (w32 (x3 + 2)))] G σ1 (fun (r2 : Int) (σ2 : jH) =>
  ((r1 = r2 →
    P 1300 [some (vS), some (vR x1), some (vR x2), some (vI x3)] [] G σ2 cs ss) ∧
  (r1 ≠ r2 →
    ((0 : Int) = 0 ∨ (0 : Int) = 1) ∧ RT 0 G σ2))))) :
  jwp C d mc ms RT k_law j0 q_law P 27 996 [some (vS), some (vR x1), some (vR x2), some (vI x3)] [] G σ cs ss := h
set_option maxRecDepth 20000 in
theorem b_law_1029 {C : jC} {d mc ms : Nat} {RT : Int → jG → jH → Prop} {P : jK} {G : jG} {σ : jH} {cs ss : Nat} {x1 : Int} {x2 : Int} {x3 : Int} (h :
  0 ≤ (w32 (x3 + 1)) ∧ (w32 (x3 + 1)) < C.2.2 ∧
  (G.2.1 x1).1 = 19 ∧
  cN C.1 d m_WordPlaces_page [vR x1, vI (C.2.1 (w32 (x3 + 1)))] G σ (fun (r1 : Int) (σ1 : jH) =>
  0 ≤ (w32 (x3 + 1)) ∧ (w32 (x3 + 1)) < C.2.2 ∧
  (G.2.1 x2).1 = 20 ∧
  cN C.1 d m_Model_page [vR x2, vI (C.2.1 (w32 (x3 + 1)))] G σ1 (fun (r2 : Int) (σ2 : jH) =>
  ((r1 = r2 →
    P 1300 [some (vS), some (vR x1), some (vR x2), some (vI x3)] [] G σ2 cs ss) ∧
  (r1 ≠ r2 →
    ((0 : Int) = 0 ∨ (0 : Int) = 1) ∧ RT 0 G σ2))))) :
  jwp C d mc ms RT k_law j0 q_law P 17 1029 [some (vS), some (vR x1), some (vR x2), some (vI x3)] [] G σ cs ss := h
set_option maxRecDepth 20000 in
theorem b_law_1052 {C : jC} {d mc ms : Nat} {RT : Int → jG → jH → Prop} {P : jK} {G : jG} {σ : jH} {cs ss : Nat} {x1 : Int} {x2 : Int} {x3 : Int} (h :
  0 ≤ (w32 (x3 + 1)) ∧ (w32 (x3 + 1)) < C.2.2 ∧
  (G.2.1 x1).1 = 19 ∧
  cN C.1 d m_WordPlaces_count [vR x1, vI (C.2.1 (w32 (x3 + 1)))] G σ (fun (r1 : Int) (σ1 : jH) =>
  0 ≤ (w32 (x3 + 1)) ∧ (w32 (x3 + 1)) < C.2.2 ∧
  (G.2.1 x2).1 = 20 ∧
  cN C.1 d m_Model_count [vR x2, vI (C.2.1 (w32 (x3 + 1)))] G σ1 (fun (r2 : Int) (σ2 : jH) =>
  ((r1 = r2 →
    P 1300 [some (vS), some (vR x1), some (vR x2), some (vI x3)] [] G σ2 cs ss) ∧
  (r1 ≠ r2 →
    ((0 : Int) = 0 ∨ (0 : Int) = 1) ∧ RT 0 G σ2))))) :
  jwp C d mc ms RT k_law j0 q_law P 17 1052 [some (vS), some (vR x1), some (vR x2), some (vI x3)] [] G σ cs ss := h
set_option maxRecDepth 20000 in
theorem b_law_1075 {C : jC} {d mc ms : Nat} {RT : Int → jG → jH → Prop} {P : jK} {G : jG} {σ : jH} {cs ss : Nat} {x1 : Int} {x2 : Int} {x3 : Int} (h :
  0 ≤ (w32 (x3 + 1)) ∧ (w32 (x3 + 1)) < C.2.2 ∧
  (G.2.1 x1).1 = 19 ∧
  cN C.1 d m_WordPlaces_keep [vR x1, vI (C.2.1 (w32 (x3 + 1)))] G σ (fun (r1 : Int) (σ1 : jH) =>
  0 ≤ (w32 (x3 + 1)) ∧ (w32 (x3 + 1)) < C.2.2 ∧
  (G.2.1 x2).1 = 20 ∧
  cN C.1 d m_Model_keep [vR x2, vI (C.2.1 (w32 (x3 + 1)))] G σ1 (fun (r2 : Int) (σ2 : jH) =>
  ((r1 = r2 →
    P 1300 [some (vS), some (vR x1), some (vR x2), some (vI x3)] [] G σ2 cs ss) ∧
  (r1 ≠ r2 →
    ((0 : Int) = 0 ∨ (0 : Int) = 1) ∧ RT 0 G σ2))))) :
  jwp C d mc ms RT k_law j0 q_law P 17 1075 [some (vS), some (vR x1), some (vR x2), some (vI x3)] [] G σ cs ss := h
set_option maxRecDepth 20000 in
theorem b_law_1098 {C : jC} {d mc ms : Nat} {RT : Int → jG → jH → Prop} {P : jK} {G : jG} {σ : jH} {cs ss : Nat} {x1 : Int} {x2 : Int} {x3 : Int} (h :
  0 ≤ (w32 (x3 + 1)) ∧ (w32 (x3 + 1)) < C.2.2 ∧
  (G.2.1 x1).1 = 19 ∧
  cN C.1 d m_WordPlaces_back [vR x1, vI (C.2.1 (w32 (x3 + 1)))] G σ (fun (r1 : Int) (σ1 : jH) =>
  0 ≤ (w32 (x3 + 1)) ∧ (w32 (x3 + 1)) < C.2.2 ∧
  (G.2.1 x2).1 = 20 ∧
  cN C.1 d m_Model_back [vR x2, vI (C.2.1 (w32 (x3 + 1)))] G σ1 (fun (r2 : Int) (σ2 : jH) =>
  ((r1 = r2 →
    P 1300 [some (vS), some (vR x1), some (vR x2), some (vI x3)] [] G σ2 cs ss) ∧
  (r1 ≠ r2 →
    ((0 : Int) = 0 ∨ (0 : Int) = 1) ∧ RT 0 G σ2))))) :
  jwp C d mc ms RT k_law j0 q_law P 17 1098 [some (vS), some (vR x1), some (vR x2), some (vI x3)] [] G σ cs ss := h
set_option maxRecDepth 20000 in
theorem b_law_1121 {C : jC} {d mc ms : Nat} {RT : Int → jG → jH → Prop} {P : jK} {G : jG} {σ : jH} {cs ss : Nat} {x1 : Int} {x2 : Int} {x3 : Int} (h :
  0 ≤ (w32 (x3 + 1)) ∧ (w32 (x3 + 1)) < C.2.2 ∧
  0 ≤ (w32 (x3 + 2)) ∧ (w32 (x3 + 2)) < C.2.2 ∧
  0 ≤ (w32 (x3 + 3)) ∧ (w32 (x3 + 3)) < C.2.2 ∧
  (G.2.1 x1).1 = 19 ∧
  cN C.1 d m_WordPlaces_row [vR x1, vI (C.2.1 (w32 (x3 + 1))), vI (C.2.1 (w32 (x3 + 2))), vI (C.2.1 (w32 (x3 + 3)))] G σ (fun (r1 : Int) (σ1 : jH) =>
  0 ≤ (w32 (x3 + 1)) ∧ (w32 (x3 + 1)) < C.2.2 ∧
  0 ≤ (w32 (x3 + 2)) ∧ (w32 (x3 + 2)) < C.2.2 ∧
  0 ≤ (w32 (x3 + 3)) ∧ (w32 (x3 + 3)) < C.2.2 ∧
  (G.2.1 x2).1 = 20 ∧
  cN C.1 d m_Model_row [vR x2, vI (C.2.1 (w32 (x3 + 1))), vI (C.2.1 (w32 (x3 + 2))), vI (C.2.1 (w32 (x3 + 3)))] G σ1 (fun (r2 : Int) (σ2 : jH) =>
  ((r1 = r2 →
    P 1300 [some (vS), some (vR x1), some (vR x2), some (vI x3)] [] G σ2 cs ss) ∧
  (r1 ≠ r2 →
    ((0 : Int) = 0 ∨ (0 : Int) = 1) ∧ RT 0 G σ2))))) :
  jwp C d mc ms RT k_law j0 q_law P 37 1121 [some (vS), some (vR x1), some (vR x2), some (vI x3)] [] G σ cs ss := h
set_option maxRecDepth 20000 in
theorem b_law_1164 {C : jC} {d mc ms : Nat} {RT : Int → jG → jH → Prop} {P : jK} {G : jG} {σ : jH} {cs ss : Nat} {x1 : Int} {x2 : Int} {x3 : Int} (h :
  0 ≤ (w32 (x3 + 1)) ∧ (w32 (x3 + 1)) < C.2.2 ∧
  0 ≤ (w32 (x3 + 2)) ∧ (w32 (x3 + 2)) < C.2.2 ∧
  0 ≤ (w32 (x3 + 3)) ∧ (w32 (x3 + 3)) < C.2.2 ∧
  0 ≤ (w32 (x3 + 4)) ∧ (w32 (x3 + 4)) < C.2.2 ∧
  (G.2.1 x1).1 = 19 ∧
  cN C.1 d m_WordPlaces_write [vR x1, vI (C.2.1 (w32 (x3 + 1))), vI (C.2.1 (w32 (x3 + 2))), vL (jor64 (jshl64 (C.2.1 (w32 (x3 + 3))) 32) (jand64 (C.2.1 (w32 (x3 + 4))) 4294967295))] G σ (fun (r1 : Int) (σ1 : jH) =>
  0 ≤ (w32 (x3 + 1)) ∧ (w32 (x3 + 1)) < C.2.2 ∧
  0 ≤ (w32 (x3 + 2)) ∧ (w32 (x3 + 2)) < C.2.2 ∧
  0 ≤ (w32 (x3 + 3)) ∧ (w32 (x3 + 3)) < C.2.2 ∧
  0 ≤ (w32 (x3 + 4)) ∧ (w32 (x3 + 4)) < C.2.2 ∧
  (G.2.1 x2).1 = 20 ∧
  cN C.1 d m_Model_write [vR x2, vI (C.2.1 (w32 (x3 + 1))), vI (C.2.1 (w32 (x3 + 2))), vL (jor64 (jshl64 (C.2.1 (w32 (x3 + 3))) 32) (jand64 (C.2.1 (w32 (x3 + 4))) 4294967295))] G σ1 (fun (r2 : Int) (σ2 : jH) =>
  ((r1 = r2 →
    P 1300 [some (vS), some (vR x1), some (vR x2), some (vI x3)] [] G σ2 cs ss) ∧
  (r1 ≠ r2 →
    ((0 : Int) = 0 ∨ (0 : Int) = 1) ∧ RT 0 G σ2))))) :
  jwp C d mc ms RT k_law j0 q_law P 61 1164 [some (vS), some (vR x1), some (vR x2), some (vI x3)] [] G σ cs ss := h
set_option maxRecDepth 20000 in
theorem b_law_1237 {C : jC} {d mc ms : Nat} {RT : Int → jG → jH → Prop} {P : jK} {G : jG} {σ : jH} {cs ss : Nat} {x1 : Int} {x2 : Int} {x3 : Int} (h :
  0 ≤ (w32 (x3 + 1)) ∧ (w32 (x3 + 1)) < C.2.2 ∧
  0 ≤ (w32 (x3 + 2)) ∧ (w32 (x3 + 2)) < C.2.2 ∧
  0 ≤ (w32 (x3 + 3)) ∧ (w32 (x3 + 3)) < C.2.2 ∧
  0 ≤ (w32 (x3 + 4)) ∧ (w32 (x3 + 4)) < C.2.2 ∧
  0 ≤ (w32 (x3 + 5)) ∧ (w32 (x3 + 5)) < C.2.2 ∧
  (G.2.1 x1).1 = 19 ∧
  cN C.1 d m_WordPlaces_paste [vR x1, vI (C.2.1 (w32 (x3 + 1))), vI (C.2.1 (w32 (x3 + 2))), vI (C.2.1 (w32 (x3 + 3))), vI (C.2.1 (w32 (x3 + 4))), vI (C.2.1 (w32 (x3 + 5)))] G σ (fun (r1 : Int) (σ1 : jH) =>
  0 ≤ (w32 (x3 + 1)) ∧ (w32 (x3 + 1)) < C.2.2 ∧
  0 ≤ (w32 (x3 + 2)) ∧ (w32 (x3 + 2)) < C.2.2 ∧
  0 ≤ (w32 (x3 + 3)) ∧ (w32 (x3 + 3)) < C.2.2 ∧
  0 ≤ (w32 (x3 + 4)) ∧ (w32 (x3 + 4)) < C.2.2 ∧
  0 ≤ (w32 (x3 + 5)) ∧ (w32 (x3 + 5)) < C.2.2 ∧
  (G.2.1 x2).1 = 20 ∧
  cN C.1 d m_Model_paste [vR x2, vI (C.2.1 (w32 (x3 + 1))), vI (C.2.1 (w32 (x3 + 2))), vI (C.2.1 (w32 (x3 + 3))), vI (C.2.1 (w32 (x3 + 4))), vI (C.2.1 (w32 (x3 + 5)))] G σ1 (fun (r2 : Int) (σ2 : jH) =>
  ((r1 = r2 →
    P 1300 [some (vS), some (vR x1), some (vR x2), some (vI x3)] [] G σ2 cs ss) ∧
  (r1 ≠ r2 →
    ((0 : Int) = 0 ∨ (0 : Int) = 1) ∧ RT 0 G σ2))))) :
  jwp C d mc ms RT k_law j0 q_law P 57 1237 [some (vS), some (vR x1), some (vR x2), some (vI x3)] [] G σ cs ss := h
set_option maxRecDepth 20000 in
theorem b_law_1300 {C : jC} {d mc ms : Nat} {RT : Int → jG → jH → Prop} {P : jK} {G : jG} {σ : jH} {cs ss : Nat} {x1 : Int} {x2 : Int} {x3 : Int} (h :
  P 18 [some (vS), some (vR x1), some (vR x2), some (vI (w32 (x3 + 6)))] [] G σ cs ss) :
  jwp C d mc ms RT k_law j0 q_law P 2 1300 [some (vS), some (vR x1), some (vR x2), some (vI x3)] [] G σ cs ss := h

