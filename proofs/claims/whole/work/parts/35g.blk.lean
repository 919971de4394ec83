/-! Blocks: what must hold ahead of each piece of a method -/
def q_Model_forms : List (Nat × List Bool) := []
set_option maxRecDepth 20000 in
theorem b_Model_forms_0 {C : jC} {d mc ms : Nat} {RT : Int → jG → jH → Prop} {P : jK} {G : jG} {σ : jH} {cs ss : Nat} {x0 : Int} (h :
  (G.2.1 x0).1 = 20 ∧
  RT (σ x0 10) G σ) :
  jwp C d mc ms RT k_Model_forms j0 q_Model_forms P 3 0 [some (vR x0)] [] G σ cs ss := h

def q_Model_form : List (Nat × List Bool) := []
set_option maxRecDepth 20000 in
theorem b_Model_form_0 {C : jC} {d mc ms : Nat} {RT : Int → jG → jH → Prop} {P : jK} {G : jG} {σ : jH} {cs ss : Nat} {x0 : Int} {x1 : Int} {x2 : Int} (h :
  (G.2.1 x0).1 = 20 ∧
  cN C.1 d m_Model_isForm [vR x0, vI x1] G σ (fun (r1 : Int) (σ1 : jH) =>
  ((r1 ≠ 0 →
    ((x2 < 0 ∨ 4 < x2 →
      (((10 : Int) ≤ x2 →
        (G.2.1 x0).1 = 20 ∧
        (G.2.1 (G.2.2 x0 9)).1 = 1 ∧ (0 : Int) ≤ (w32 (21 * x1)) ∧ (w32 (21 * x1)) < (G.2.1 (G.2.2 x0 9)).2 ∧
        (((σ1 (G.2.2 x0 9) (w32 (21 * x1))) ≤ (w32 (x2 - 10)) →
          RT (-1) G σ1) ∧
        ((w32 (x2 - 10)) < (σ1 (G.2.2 x0 9) (w32 (21 * x1))) →
          (G.2.1 x0).1 = 20 ∧
          (G.2.1 (G.2.2 x0 9)).1 = 1 ∧ (0 : Int) ≤ (w32 ((w32 ((w32 ((w32 (21 * x1)) + 1)) + x2)) - 10)) ∧ (w32 ((w32 ((w32 ((w32 (21 * x1)) + 1)) + x2)) - 10)) < (G.2.1 (G.2.2 x0 9)).2 ∧
          RT (w32 (97 + (σ1 (G.2.2 x0 9) (w32 ((w32 ((w32 ((w32 (21 * x1)) + 1)) + x2)) - 10))))) G σ1))) ∧
      (x2 < 10 →
        RT (-2000000000) G σ1))) ∧
    (x2 = 0 →
      (G.2.1 x0).1 = 20 ∧
      (G.2.1 (G.2.2 x0 9)).1 = 1 ∧ (0 : Int) ≤ (w32 (21 * x1)) ∧ (w32 (21 * x1)) < (G.2.1 (G.2.2 x0 9)).2 ∧
      RT (σ1 (G.2.2 x0 9) (w32 (21 * x1))) G σ1) ∧
    (x2 = 1 →
      (G.2.1 x0).1 = 20 ∧
      cN C.1 d m_Model_manyOf [vR x0, vI (w32 (x2 - 1)), vI x1] G σ1 (fun (r2 : Int) (σ2 : jH) =>
      RT r2 G σ2)) ∧
    (x2 = 2 →
      (G.2.1 x0).1 = 20 ∧
      cN C.1 d m_Model_manyOf [vR x0, vI (w32 (x2 - 1)), vI x1] G σ1 (fun (r3 : Int) (σ3 : jH) =>
      RT r3 G σ3)) ∧
    (x2 = 3 →
      (G.2.1 x0).1 = 20 ∧
      cN C.1 d m_Model_isStop [vR x0, vI x1] G σ1 (fun (r4 : Int) (σ4 : jH) =>
      ((r4 = 0 →
        RT 0 G σ4) ∧
      (r4 ≠ 0 →
        RT 1 G σ4)))) ∧
    (x2 = 4 →
      (G.2.1 x0).1 = 20 ∧
      cN C.1 d m_Model_rootOf [vR x0, vI x1] G σ1 (fun (r5 : Int) (σ5 : jH) =>
      RT r5 G σ5)) ∧ True)) ∧
  (r1 = 0 →
    RT (-2000000000) G σ1)))) :
  jwp C d mc ms RT k_Model_form j0 q_Model_form P 35 0 [some (vR x0), some (vI x1), some (vI x2), none] [] G σ cs ss := h

def q_Model_isForm : List (Nat × List Bool) := []
set_option maxRecDepth 20000 in
theorem b_Model_isForm_0 {C : jC} {d mc ms : Nat} {RT : Int → jG → jH → Prop} {P : jK} {G : jG} {σ : jH} {cs ss : Nat} {x0 : Int} {x1 : Int} (h :
  (G.2.1 x0).1 = 20 ∧
  cN C.1 d m_Model_in [vL x1, vL 0, vL (w32 ((σ x0 10) - 1))] G σ (fun (r1 : Int) (σ1 : jH) =>
  (r1 = 0 ∨ r1 = 1) ∧ RT r1 G σ1)) :
  jwp C d mc ms RT k_Model_isForm j0 q_Model_isForm P 10 0 [some (vR x0), some (vI x1)] [] G σ cs ss := h

def q_Model_isStop : List (Nat × List Bool) := [(2, [true, true, true])]
set_option maxRecDepth 20000 in
theorem b_Model_isStop_0 {C : jC} {d mc ms : Nat} {RT : Int → jG → jH → Prop} {P : jK} {G : jG} {σ : jH} {cs ss : Nat} {x0 : Int} {x1 : Int} (h :
  P 2 [some (vR x0), some (vI x1), some (vI 0)] [] G σ cs ss) :
  jwp C d mc ms RT k_Model_isStop j0 q_Model_isStop P 2 0 [some (vR x0), some (vI x1), none] [] G σ cs ss := h
set_option maxRecDepth 20000 in
theorem b_Model_isStop_2 {C : jC} {d mc ms : Nat} {RT : Int → jG → jH → Prop} {P : jK} {G : jG} {σ : jH} {cs ss : Nat} {x0 : Int} {x1 : Int} {x2 : Int} (h :
  (G.2.1 x0).1 = 20 ∧
  (G.2.1 (G.2.2 x0 1)).1 = 1 ∧ (0 : Int) ≤ 1 ∧ 1 < (G.2.1 (G.2.2 x0 1)).2 ∧
  (((σ (G.2.2 x0 1) 1) ≤ x2 →
    ((0 : Int) = 0 ∨ (0 : Int) = 1) ∧ RT 0 G σ) ∧
  (x2 < (σ (G.2.2 x0 1) 1) →
    ((x1 = (-1) →
      P 2 [some (vR x0), some (vI x1), some (vI (w32 (x2 + 1)))] [] G σ cs ss) ∧
    (x1 ≠ (-1) →
      (G.2.1 x0).1 = 20 ∧
      cN C.1 d m_Model_ruledForm [vR x0, vI (w32 (57 + (w32 (21 * x2))))] G σ (fun (r1 : Int) (σ1 : jH) =>
      ((r1 ≠ x1 →
        P 2 [some (vR x0), some (vI x1), some (vI (w32 (x2 + 1)))] [] G σ1 cs ss) ∧
      (r1 = x1 →
        ((1 : Int) = 0 ∨ (1 : Int) = 1) ∧ RT 1 G σ1)))))))) :
  jwp C d mc ms RT k_Model_isStop j0 q_Model_isStop P 20 2 [some (vR x0), some (vI x1), some (vI x2)] [] G σ cs ss := h

def q_Model_ruledForm : List (Nat × List Bool) := [(14, [true, true, true])]
set_option maxRecDepth 20000 in
theorem b_Model_ruledForm_0 {C : jC} {d mc ms : Nat} {RT : Int → jG → jH → Prop} {P : jK} {G : jG} {σ : jH} {cs ss : Nat} {x0 : Int} {x1 : Int} (h :
  (G.2.1 x0).1 = 20 ∧
  (G.2.1 x0).1 = 20 ∧
  (G.2.1 (G.2.2 x0 1)).1 = 1 ∧ (0 : Int) ≤ x1 ∧ x1 < (G.2.1 (G.2.2 x0 1)).2 ∧
  (G.2.1 (G.2.2 x0 13)).1 = 1 ∧ (0 : Int) ≤ 0 ∧ 0 < (G.2.1 (G.2.2 x0 13)).2 ∧
  P 14 [some (vR x0), some (vI x1), some (vI 1)] [] G (ju σ (G.2.2 x0 13) 0 (σ (G.2.2 x0 1) x1)) cs ss) :
  jwp C d mc ms RT k_Model_ruledForm j0 q_Model_ruledForm P 10 0 [some (vR x0), some (vI x1), none] [] G σ cs ss := h
set_option maxRecDepth 20000 in
theorem b_Model_ruledForm_14 {C : jC} {d mc ms : Nat} {RT : Int → jG → jH → Prop} {P : jK} {G : jG} {σ : jH} {cs ss : Nat} {x0 : Int} {x1 : Int} {x2 : Int} (h :
  (G.2.1 x0).1 = 20 ∧
  (G.2.1 (G.2.2 x0 1)).1 = 1 ∧ (0 : Int) ≤ x1 ∧ x1 < (G.2.1 (G.2.2 x0 1)).2 ∧
  (((σ (G.2.2 x0 1) x1) < x2 →
    (G.2.1 x0).1 = 20 ∧
    (G.2.1 x0).1 = 20 ∧
    cN C.1 d m_Model_find [vR x0, vR (G.2.2 x0 13), vI 0] G σ (fun (r1 : Int) (σ1 : jH) =>
    RT r1 G σ1)) ∧
  (x2 ≤ (σ (G.2.2 x0 1) x1) →
    (G.2.1 x0).1 = 20 ∧
    (G.2.1 x0).1 = 20 ∧
    (G.2.1 (G.2.2 x0 1)).1 = 1 ∧ (0 : Int) ≤ (w32 (x1 + x2)) ∧ (w32 (x1 + x2)) < (G.2.1 (G.2.2 x0 1)).2 ∧
    (G.2.1 x0).1 = 20 ∧
    cN C.1 d m_Model_folded [vR x0, vI (σ (G.2.2 x0 1) (w32 (x1 + x2)))] G σ (fun (r2 : Int) (σ2 : jH) =>
    (G.2.1 (G.2.2 x0 13)).1 = 1 ∧ (0 : Int) ≤ x2 ∧ x2 < (G.2.1 (G.2.2 x0 13)).2 ∧
    P 14 [some (vR x0), some (vI x1), some (vI (w32 (x2 + 1)))] [] G (ju σ2 (G.2.2 x0 13) x2 r2) cs ss)))) :
  jwp C d mc ms RT k_Model_ruledForm j0 q_Model_ruledForm P 20 14 [some (vR x0), some (vI x1), some (vI x2)] [] G σ cs ss := h

def q_Model_rootOf : List (Nat × List Bool) := [(2, [true, true, true, false, false]), (24, [true, true, true, true, true])]
set_option maxRecDepth 20000 in
theorem b_Model_rootOf_0 {C : jC} {d mc ms : Nat} {RT : Int → jG → jH → Prop} {P : jK} {G : jG} {σ : jH} {cs ss : Nat} {x0 : Int} {x1 : Int} (h :
  P 2 [some (vR x0), some (vI x1), some (vI 0), none, none] [] G σ cs ss) :
  jwp C d mc ms RT k_Model_rootOf j0 q_Model_rootOf P 2 0 [some (vR x0), some (vI x1), none, none, none] [] G σ cs ss := h
set_option maxRecDepth 20000 in
theorem b_Model_rootOf_2 {C : jC} {d mc ms : Nat} {RT : Int → jG → jH → Prop} {P : jK} {G : jG} {σ : jH} {cs ss : Nat} {x0 : Int} {x1 : Int} {x2 : Int} (h :
  (G.2.1 x0).1 = 20 ∧
  (G.2.1 (G.2.2 x0 1)).1 = 1 ∧ (0 : Int) ≤ 2 ∧ 2 < (G.2.1 (G.2.2 x0 1)).2 ∧
  (((σ (G.2.2 x0 1) 2) ≤ x2 →
    RT (-1) G σ) ∧
  (x2 < (σ (G.2.2 x0 1) 2) →
    P 24 [some (vR x0), some (vI x1), some (vI x2), some (vI (w32 (477 + (w32 (106 * x2))))), some (vI 1)] [] G σ cs ss))) :
  jwp C d mc ms RT k_Model_rootOf j0 q_Model_rootOf P 14 2 [some (vR x0), some (vI x1), some (vI x2), none, none] [] G σ cs ss := h
set_option maxRecDepth 20000 in
theorem b_Model_rootOf_24 {C : jC} {d mc ms : Nat} {RT : Int → jG → jH → Prop} {P : jK} {G : jG} {σ : jH} {cs ss : Nat} {x0 : Int} {x1 : Int} {x2 : Int} {x3 : Int} {x4 : Int} (h :
  (G.2.1 x0).1 = 20 ∧
  (G.2.1 (G.2.2 x0 1)).1 = 1 ∧ (0 : Int) ≤ x3 ∧ x3 < (G.2.1 (G.2.2 x0 1)).2 ∧
  (((σ (G.2.2 x0 1) x3) ≤ x4 →
    P 2 [some (vR x0), some (vI x1), some (vI (w32 (x2 + 1))), none, none] [] G σ cs ss) ∧
  (x4 < (σ (G.2.2 x0 1) x3) →
    (G.2.1 x0).1 = 20 ∧
    cN C.1 d m_Model_ruledForm [vR x0, vI (w32 ((w32 (x3 + 1)) + (w32 (21 * x4))))] G σ (fun (r1 : Int) (σ1 : jH) =>
    ((r1 ≠ x1 →
      P 24 [some (vR x0), some (vI x1), some (vI x2), some (vI x3), some (vI (w32 (x4 + 1)))] [] G σ1 cs ss) ∧
    (r1 = x1 →
      RT x2 G σ1)))))) :
  jwp C d mc ms RT k_Model_rootOf j0 q_Model_rootOf P 19 24 [some (vR x0), some (vI x1), some (vI x2), some (vI x3), some (vI x4)] [] G σ cs ss := h

def q_Model_ordered : List (Nat × List Bool) := []
set_option maxRecDepth 20000 in
theorem b_Model_ordered_0 {C : jC} {d mc ms : Nat} {RT : Int → jG → jH → Prop} {P : jK} {G : jG} {σ : jH} {cs ss : Nat} {x0 : Int} {x1 : Int} (h :
  (G.2.1 x0).1 = 20 ∧
  cN C.1 d m_Model_in [vL x1, vL 0, vL (w32 ((σ x0 10) - 1))] G σ (fun (r1 : Int) (σ1 : jH) =>
  ((r1 = 0 →
    RT (-1) G σ1) ∧
  (r1 ≠ 0 →
    (G.2.1 x0).1 = 20 ∧
    (G.2.1 (G.2.2 x0 11)).1 = 1 ∧ (0 : Int) ≤ x1 ∧ x1 < (G.2.1 (G.2.2 x0 11)).2 ∧
    RT (σ1 (G.2.2 x0 11) x1) G σ1)))) :
  jwp C d mc ms RT k_Model_ordered j0 q_Model_ordered P 16 0 [some (vR x0), some (vI x1)] [] G σ cs ss := h

def q_Model_ask : List (Nat × List Bool) := [(49, [true, true, false]), (66, [true, true, true])]
set_option maxRecDepth 20000 in
theorem b_Model_ask_0 {C : jC} {d mc ms : Nat} {RT : Int → jG → jH → Prop} {P : jK} {G : jG} {σ : jH} {cs ss : Nat} {x0 : Int} {x1 : Int} (h :
  cN C.1 d m_Model_isEdition [vI x1] G σ (fun (r1 : Int) (σ1 : jH) =>
  ((r1 ≠ 0 →
    (G.2.1 x0).1 = 20 ∧
    (G.2.1 x0).1 = 20 ∧
    cN C.1 d m_Model_begin [vR x0] G (ju σ1 x0 30 x1) (fun (r2 : Int) (σ2 : jH) =>
    (G.2.1 x0).1 = 20 ∧
    (G.2.1 x0).1 = 20 ∧
    cN C.1 d m_Model_readAsk [vR x0, vI 0, vI 0] G (ju σ2 x0 29 0) (fun (r3 : Int) (σ3 : jH) =>
    (G.2.1 x0).1 = 20 ∧
    cN C.1 d m_Model_good [vR x0] G σ3 (fun (r4 : Int) (σ4 : jH) =>
    ((r4 = 0 →
      P 49 [some (vR x0), some (vI x1), none] [] G σ4 cs ss) ∧
    (r4 ≠ 0 →
      (G.2.1 x0).1 = 20 ∧
      (((σ4 x0 20) = 0 →
        P 49 [some (vR x0), some (vI x1), none] [] G σ4 cs ss) ∧
      ((σ4 x0 20) ≠ 0 →
        (G.2.1 x0).1 = 20 ∧
        cN C.1 d m_Model_wrong [vR x0, vI 1] G σ4 (fun (r5 : Int) (σ5 : jH) =>
        P 49 [some (vR x0), some (vI x1), none] [] G σ5 cs ss))))))))) ∧
  (r1 = 0 →
    RT (-2) G σ1)))) :
  jwp C d mc ms RT k_Model_ask j0 q_Model_ask P 24 0 [some (vR x0), some (vI x1), none] [] G σ cs ss := h
set_option maxRecDepth 20000 in
theorem b_Model_ask_49 {C : jC} {d mc ms : Nat} {RT : Int → jG → jH → Prop} {P : jK} {G : jG} {σ : jH} {cs ss : Nat} {x0 : Int} {x1 : Int} (h :
  (G.2.1 x0).1 = 20 ∧
  cN C.1 d m_Model_good [vR x0] G σ (fun (r1 : Int) (σ1 : jH) =>
  ((r1 ≠ 0 →
    (G.2.1 x0).1 = 20 ∧
    P 66 [some (vR x0), some (vI x1), some (vI 0)] [] G (ju σ1 x0 33 0) cs ss) ∧
  (r1 = 0 →
    RT (-4) G σ1)))) :
  jwp C d mc ms RT k_Model_ask j0 q_Model_ask P 8 49 [some (vR x0), some (vI x1), none] [] G σ cs ss := h
set_option maxRecDepth 20000 in
theorem b_Model_ask_66 {C : jC} {d mc ms : Nat} {RT : Int → jG → jH → Prop} {P : jK} {G : jG} {σ : jH} {cs ss : Nat} {x0 : Int} {x1 : Int} {x2 : Int} (h :
  (G.2.1 x0).1 = 20 ∧
  (G.2.1 (G.2.2 x0 4)).1 = 1 ∧ (0 : Int) ≤ x1 ∧ x1 < (G.2.1 (G.2.2 x0 4)).2 ∧
  (((σ (G.2.2 x0 4) x1) ≤ x2 →
    (G.2.1 x0).1 = 20 ∧
    RT (σ x0 33) G σ) ∧
  (x2 < (σ (G.2.2 x0 4) x1) →
    (G.2.1 x0).1 = 20 ∧
    (G.2.1 (G.2.2 x0 28)).1 = 7 ∧ (0 : Int) ≤ 0 ∧ 0 < (G.2.1 (G.2.2 x0 28)).2 ∧
    (G.2.1 (G.2.2 (G.2.2 x0 28) 0)).1 = 3 ∧ (0 : Int) ≤ x2 ∧ x2 < (G.2.1 (G.2.2 (G.2.2 x0 28) 0)).2 ∧
    (((σ (G.2.2 (G.2.2 x0 28) 0) x2) ≠ 0 →
      (G.2.1 x0).1 = 20 ∧
      (G.2.1 x0).1 = 20 ∧
      (G.2.1 (G.2.2 x0 32)).1 = 1 ∧ (0 : Int) ≤ (w32 (3 * (σ x0 33))) ∧ (w32 (3 * (σ x0 33))) < (G.2.1 (G.2.2 x0 32)).2 ∧
      (G.2.1 x0).1 = 20 ∧
      (G.2.1 x0).1 = 20 ∧
      (G.2.1 x0).1 = 20 ∧
      (G.2.1 (G.2.2 x0 6)).1 = 1 ∧ (0 : Int) ≤ (w32 ((w32 (340 * x1)) + x2)) ∧ (w32 ((w32 (340 * x1)) + x2)) < (G.2.1 (G.2.2 x0 6)).2 ∧
      (G.2.1 (G.2.2 x0 32)).1 = 1 ∧ (0 : Int) ≤ (w32 ((w32 (3 * ((ju σ (G.2.2 x0 32) (w32 (3 * (σ x0 33))) x2) x0 33))) + 1)) ∧ (w32 ((w32 (3 * ((ju σ (G.2.2 x0 32) (w32 (3 * (σ x0 33))) x2) x0 33))) + 1)) < (G.2.1 (G.2.2 x0 32)).2 ∧
      (G.2.1 x0).1 = 20 ∧
      (G.2.1 x0).1 = 20 ∧
      (G.2.1 x0).1 = 20 ∧
      cN C.1 d m_Model_placeInLine [vR x0, vI x1, vI x2] G (ju (ju σ (G.2.2 x0 32) (w32 (3 * (σ x0 33))) x2) (G.2.2 x0 32) (w32 ((w32 (3 * ((ju σ (G.2.2 x0 32) (w32 (3 * (σ x0 33))) x2) x0 33))) + 1)) ((ju σ (G.2.2 x0 32) (w32 (3 * (σ x0 33))) x2) (G.2.2 x0 6) (w32 ((w32 (340 * x1)) + x2)))) (fun (r1 : Int) (σ1 : jH) =>
      (G.2.1 (G.2.2 x0 32)).1 = 1 ∧ (0 : Int) ≤ (w32 ((w32 (3 * ((ju (ju σ (G.2.2 x0 32) (w32 (3 * (σ x0 33))) x2) (G.2.2 x0 32) (w32 ((w32 (3 * ((ju σ (G.2.2 x0 32) (w32 (3 * (σ x0 33))) x2) x0 33))) + 1)) ((ju σ (G.2.2 x0 32) (w32 (3 * (σ x0 33))) x2) (G.2.2 x0 6) (w32 ((w32 (340 * x1)) + x2)))) x0 33))) + 2)) ∧ (w32 ((w32 (3 * ((ju (ju σ (G.2.2 x0 32) (w32 (3 * (σ x0 33))) x2) (G.2.2 x0 32) (w32 ((w32 (3 * ((ju σ (G.2.2 x0 32) (w32 (3 * (σ x0 33))) x2) x0 33))) + 1)) ((ju σ (G.2.2 x0 32) (w32 (3 * (σ x0 33))) x2) (G.2.2 x0 6) (w32 ((w32 (340 * x1)) + x2)))) x0 33))) + 2)) < (G.2.1 (G.2.2 x0 32)).2 ∧
      (G.2.1 x0).1 = 20 ∧
      (G.2.1 x0).1 = 20 ∧
      P 66 [some (vR x0), some (vI x1), some (vI (w32 (x2 + 1)))] [] G (ju (ju σ1 (G.2.2 x0 32) (w32 ((w32 (3 * ((ju (ju σ (G.2.2 x0 32) (w32 (3 * (σ x0 33))) x2) (G.2.2 x0 32) (w32 ((w32 (3 * ((ju σ (G.2.2 x0 32) (w32 (3 * (σ x0 33))) x2) x0 33))) + 1)) ((ju σ (G.2.2 x0 32) (w32 (3 * (σ x0 33))) x2) (G.2.2 x0 6) (w32 ((w32 (340 * x1)) + x2)))) x0 33))) + 2)) r1) x0 33 (w32 (((ju σ1 (G.2.2 x0 32) (w32 ((w32 (3 * ((ju (ju σ (G.2.2 x0 32) (w32 (3 * (σ x0 33))) x2) (G.2.2 x0 32) (w32 ((w32 (3 * ((ju σ (G.2.2 x0 32) (w32 (3 * (σ x0 33))) x2) x0 33))) + 1)) ((ju σ (G.2.2 x0 32) (w32 (3 * (σ x0 33))) x2) (G.2.2 x0 6) (w32 ((w32 (340 * x1)) + x2)))) x0 33))) + 2)) r1) x0 33) + 1))) cs ss)) ∧
    ((σ (G.2.2 (G.2.2 x0 28) 0) x2) = 0 →
      P 66 [some (vR x0), some (vI x1), some (vI (w32 (x2 + 1)))] [] G σ cs ss))))) :
  jwp C d mc ms RT k_Model_ask j0 q_Model_ask P 59 66 [some (vR x0), some (vI x1), some (vI x2)] [] G σ cs ss := h

def q_Model_readAsk : List (Nat × List Bool) := [(6, [true, true, true, false, false]), (66, [true, true, true, true, false]), (83, [true, true, true, true, true]), (98, [true, true, true, true, true])]
set_option maxRecDepth 20000 in
theorem b_Model_readAsk_0 {C : jC} {d mc ms : Nat} {RT : Int → jG → jH → Prop} {P : jK} {G : jG} {σ : jH} {cs ss : Nat} {x0 : Int} {x1 : Int} {x2 : Int} (h :
  (G.2.1 x0).1 = 20 ∧
  cN C.1 d m_Model_readUnit [vR x0, vI x1, vI x2] G σ (fun (r1 : Int) (σ1 : jH) =>
  P 6 [some (vR x0), some (vI x1), some (vI x2), none, none] [] G σ1 cs ss)) :
  jwp C d mc ms RT k_Model_readAsk j0 q_Model_readAsk P 4 0 [some (vR x0), some (vI x1), some (vI x2), none, none] [] G σ cs ss := h
set_option maxRecDepth 20000 in
theorem b_Model_readAsk_6 {C : jC} {d mc ms : Nat} {RT : Int → jG → jH → Prop} {P : jK} {G : jG} {σ : jH} {cs ss : Nat} {x0 : Int} {x1 : Int} {x2 : Int} (h :
  (G.2.1 x0).1 = 20 ∧
  cN C.1 d m_Model_isOp [vR x0] G σ (fun (r1 : Int) (σ1 : jH) =>
  ((r1 = 0 →
    RT 0 G σ1) ∧
  (r1 ≠ 0 →
    (G.2.1 x0).1 = 20 ∧
    cN C.1 d m_Model_opHere [vR x0] G σ1 (fun (r2 : Int) (σ2 : jH) =>
    (G.2.1 x0).1 = 20 ∧
    cN C.1 d m_Model_step [vR x0] G σ2 (fun (r3 : Int) (σ3 : jH) =>
    (((2 : Int) < r2 →
      P 83 [some (vR x0), some (vI x1), some (vI x2), some (vI r2), some (vI 0)] [] G σ3 cs ss) ∧
    (r2 ≤ 2 →
      (G.2.1 x0).1 = 20 ∧
      (((σ3 x0 20) = 2 →
        (G.2.1 x0).1 = 20 ∧
        cN C.1 d m_Model_in [vL (σ3 x0 21), vL 1, vL 50] G σ3 (fun (r4 : Int) (σ4 : jH) =>
        ((r4 ≠ 0 →
          P 66 [some (vR x0), some (vI x1), some (vI x2), some (vI r2), none] [] G σ4 cs ss) ∧
        (r4 = 0 →
          (G.2.1 x0).1 = 20 ∧
          cN C.1 d m_Model_wrong [vR x0, vI 2] G σ4 (fun (r5 : Int) (σ5 : jH) =>
          P 66 [some (vR x0), some (vI x1), some (vI x2), some (vI r2), none] [] G σ5 cs ss))))) ∧
      ((σ3 x0 20) ≠ 2 →
        (G.2.1 x0).1 = 20 ∧
        cN C.1 d m_Model_wrong [vR x0, vI 1] G σ3 (fun (r6 : Int) (σ6 : jH) =>
        P 66 [some (vR x0), some (vI x1), some (vI x2), some (vI r2), none] [] G σ6 cs ss))))))))))) :
  jwp C d mc ms RT k_Model_readAsk j0 q_Model_readAsk P 27 6 [some (vR x0), some (vI x1), some (vI x2), none, none] [] G σ cs ss := h
set_option maxRecDepth 20000 in
theorem b_Model_readAsk_66 {C : jC} {d mc ms : Nat} {RT : Int → jG → jH → Prop} {P : jK} {G : jG} {σ : jH} {cs ss : Nat} {x0 : Int} {x1 : Int} {x2 : Int} {x3 : Int} (h :
  (G.2.1 x0).1 = 20 ∧
  (G.2.1 x0).1 = 20 ∧
  cN C.1 d m_Model_good [vR x0] G σ (fun (r1 : Int) (σ1 : jH) =>
  ((r1 = 0 →
    P 83 [some (vR x0), some (vI x1), some (vI x2), some (vI x3), some (vI (σ x0 21))] [] G σ1 cs ss) ∧
  (r1 ≠ 0 →
    (G.2.1 x0).1 = 20 ∧
    cN C.1 d m_Model_step [vR x0] G σ1 (fun (r2 : Int) (σ2 : jH) =>
    P 83 [some (vR x0), some (vI x1), some (vI x2), some (vI x3), some (vI (σ x0 21))] [] G σ2 cs ss))))) :
  jwp C d mc ms RT k_Model_readAsk j0 q_Model_readAsk P 8 66 [some (vR x0), some (vI x1), some (vI x2), some (vI x3), none] [] G σ cs ss := h
set_option maxRecDepth 20000 in
theorem b_Model_readAsk_83 {C : jC} {d mc ms : Nat} {RT : Int → jG → jH → Prop} {P : jK} {G : jG} {σ : jH} {cs ss : Nat} {x0 : Int} {x1 : Int} {x2 : Int} {x3 : Int} {x4 : Int} (h :
  (G.2.1 x0).1 = 20 ∧
  cN C.1 d m_Model_good [vR x0] G σ (fun (r1 : Int) (σ1 : jH) =>
  ((r1 = 0 →
    P 98 [some (vR x0), some (vI x1), some (vI x2), some (vI x3), some (vI x4)] [] G σ1 cs ss) ∧
  (r1 ≠ 0 →
    (G.2.1 x0).1 = 20 ∧
    cN C.1 d m_Model_readUnit [vR x0, vI x1, vI (w32 (x2 + 1))] G σ1 (fun (r2 : Int) (σ2 : jH) =>
    P 98 [some (vR x0), some (vI x1), some (vI x2), some (vI x3), some (vI x4)] [] G σ2 cs ss))))) :
  jwp C d mc ms RT k_Model_readAsk j0 q_Model_readAsk P 9 83 [some (vR x0), some (vI x1), some (vI x2), some (vI x3), some (vI x4)] [] G σ cs ss := h
set_option maxRecDepth 20000 in
theorem b_Model_readAsk_98 {C : jC} {d mc ms : Nat} {RT : Int → jG → jH → Prop} {P : jK} {G : jG} {σ : jH} {cs ss : Nat} {x0 : Int} {x1 : Int} {x2 : Int} {x3 : Int} {x4 : Int} (h :
  (G.2.1 x0).1 = 20 ∧
  cN C.1 d m_Model_good [vR x0] G σ (fun (r1 : Int) (σ1 : jH) =>
  ((r1 = 0 →
    P 6 [some (vR x0), some (vI x1), some (vI x2), none, none] [] G σ1 cs ss) ∧
  (r1 ≠ 0 →
    (G.2.1 x0).1 = 20 ∧
    (G.2.1 (G.2.2 x0 28)).1 = 7 ∧ (0 : Int) ≤ x2 ∧ x2 < (G.2.1 (G.2.2 x0 28)).2 ∧
    (G.2.1 x0).1 = 20 ∧
    (G.2.1 (G.2.2 x0 28)).1 = 7 ∧ (0 : Int) ≤ (w32 (x2 + 1)) ∧ (w32 (x2 + 1)) < (G.2.1 (G.2.2 x0 28)).2 ∧
    (G.2.1 x0).1 = 20 ∧
    cN C.1 d m_Model_joins [vR x0, vI x3, vI x4, vR (G.2.2 (G.2.2 x0 28) x2), vR (G.2.2 (G.2.2 x0 28) (w32 (x2 + 1)))] G σ1 (fun (r2 : Int) (σ2 : jH) =>
    P 6 [some (vR x0), some (vI x1), some (vI x2), none, none] [] G σ2 cs ss))))) :
  jwp C d mc ms RT k_Model_readAsk j0 q_Model_readAsk P 18 98 [some (vR x0), some (vI x1), some (vI x2), some (vI x3), some (vI x4)] [] G σ cs ss := h

def q_Model_readUnit : List (Nat × List Bool) := [(20, [true, true, true, false, false, false, false, false]), (54, [true, true, true, false, false, false, false, false]), (193, [true, false, false, false, true, true, true, true])]
set_option maxRecDepth 20000 in
theorem b_Model_readUnit_0 {C : jC} {d mc ms : Nat} {RT : Int → jG → jH → Prop} {P : jK} {G : jG} {σ : jH} {cs ss : Nat} {x0 : Int} {x1 : Int} {x2 : Int} (h :
  (G.2.1 x0).1 = 20 ∧
  cN C.1 d m_Model_isSign [vR x0, vI 40] G σ (fun (r1 : Int) (σ1 : jH) =>
  ((r1 = 0 →
    P 20 [some (vR x0), some (vI x1), some (vI x2), none, none, none, none, none] [vI 0] G σ1 cs ss) ∧
  (r1 ≠ 0 →
    ((x1 ≠ 6 →
      P 20 [some (vR x0), some (vI x1), some (vI x2), none, none, none, none, none] [vI 0] G σ1 cs ss) ∧
    (x1 = 6 →
      P 20 [some (vR x0), some (vI x1), some (vI x2), none, none, none, none, none] [vI 1] G σ1 cs ss)))))) :
  jwp C d mc ms RT k_Model_readUnit j0 q_Model_readUnit P 9 0 [some (vR x0), some (vI x1), some (vI x2), none, none, none, none, none] [] G σ cs ss := h
set_option maxRecDepth 20000 in
theorem b_Model_readUnit_20 {C : jC} {d mc ms : Nat} {RT : Int → jG → jH → Prop} {P : jK} {G : jG} {σ : jH} {cs ss : Nat} {x0 : Int} {x1 : Int} {x2 : Int} {s0 : Int} (h :
  (G.2.1 x0).1 = 20 ∧
  cN C.1 d m_Model_beginsUnit [vR x0] G σ (fun (r1 : Int) (σ1 : jH) =>
  ((r1 ≠ 0 →
    (G.2.1 x0).1 = 20 ∧
    (((σ1 x0 29) = 30 →
      (G.2.1 x0).1 = 20 ∧
      cN C.1 d m_Model_wrong [vR x0, vI 3] G σ1 (fun (r2 : Int) (σ2 : jH) =>
      P 54 [some (vR x0), some (vI x1), some (vI x2), none, none, none, none, none] [] G σ2 cs ss)) ∧
    ((σ1 x0 29) ≠ 30 →
      ((s0 = 0 →
        P 54 [some (vR x0), some (vI x1), some (vI x2), none, none, none, none, none] [] G σ1 cs ss) ∧
      (s0 ≠ 0 →
        (G.2.1 x0).1 = 20 ∧
        cN C.1 d m_Model_wrong [vR x0, vI 3] G σ1 (fun (r3 : Int) (σ3 : jH) =>
        P 54 [some (vR x0), some (vI x1), some (vI x2), none, none, none, none, none] [] G σ3 cs ss)))))) ∧
  (r1 = 0 →
    (G.2.1 x0).1 = 20 ∧
    cN C.1 d m_Model_wrong [vR x0, vI 1] G σ1 (fun (r4 : Int) (σ4 : jH) =>
    P 54 [some (vR x0), some (vI x1), some (vI x2), none, none, none, none, none] [] G σ4 cs ss))))) :
  jwp C d mc ms RT k_Model_readUnit j0 q_Model_readUnit P 13 20 [some (vR x0), some (vI x1), some (vI x2), none, none, none, none, none] [vI s0] G σ cs ss := h
set_option maxRecDepth 20000 in
theorem b_Model_readUnit_54 {C : jC} {d mc ms : Nat} {RT : Int → jG → jH → Prop} {P : jK} {G : jG} {σ : jH} {cs ss : Nat} {x0 : Int} {x1 : Int} {x2 : Int} (h :
  (G.2.1 x0).1 = 20 ∧
  cN C.1 d m_Model_good [vR x0] G σ (fun (r1 : Int) (σ1 : jH) =>
  ((r1 ≠ 0 →
    (G.2.1 x0).1 = 20 ∧
    (G.2.1 x0).1 = 20 ∧
    (G.2.1 x0).1 = 20 ∧
    (G.2.1 (G.2.2 x0 28)).1 = 7 ∧ (0 : Int) ≤ x2 ∧ x2 < (G.2.1 (G.2.2 x0 28)).2 ∧
    (G.2.1 x0).1 = 20 ∧
    cN C.1 d m_Model_isSign [vR x0, vI 40] G (ju σ1 x0 29 (w32 ((σ1 x0 29) + 1))) (fun (r2 : Int) (σ2 : jH) =>
    ((r2 = 0 →
      (G.2.1 x0).1 = 20 ∧
      cN C.1 d m_Model_isSign [vR x0, vI 34] G σ2 (fun (r3 : Int) (σ3 : jH) =>
      ((r3 = 0 →
        (G.2.1 x0).1 = 20 ∧
        cN C.1 d m_Model_is [vR x0, vT 3] G σ3 (fun (r4 : Int) (σ4 : jH) =>
        ((r4 = 0 →
          (G.2.1 x0).1 = 20 ∧
          cN C.1 d m_Model_formHere [vR x0] G σ4 (fun (r5 : Int) (σ5 : jH) =>
          ((r5 = (-1) →
            P 193 [some (vR x0), none, none, none, some (vR (G.2.2 (G.2.2 x0 28) x2)), some (vI r5), some (vI 1), some (vI 0)] [] G σ5 cs ss) ∧
          (r5 ≠ (-1) →
            (G.2.1 x0).1 = 20 ∧
            cN C.1 d m_Model_isStop [vR x0, vI r5] G σ5 (fun (r6 : Int) (σ6 : jH) =>
            ((r6 = 0 →
              P 193 [some (vR x0), none, none, none, some (vR (G.2.2 (G.2.2 x0 28) x2)), some (vI r5), some (vI 0), some (vI 0)] [] G σ6 cs ss) ∧
            (r6 ≠ 0 →
              P 193 [some (vR x0), none, none, none, some (vR (G.2.2 (G.2.2 x0 28) x2)), some (vI r5), some (vI 1), some (vI 0)] [] G σ6 cs ss))))))) ∧
        (r4 ≠ 0 →
          (G.2.1 x0).1 = 20 ∧
          cN C.1 d m_Model_readRootWord [vR x0, vR (G.2.2 (G.2.2 x0 28) x2)] G σ4 (fun (r7 : Int) (σ7 : jH) =>
          RT 0 G σ7))))) ∧
      (r3 ≠ 0 →
        (G.2.1 x0).1 = 20 ∧
        cN C.1 d m_Model_readRow [vR x0, vR (G.2.2 (G.2.2 x0 28) x2)] G σ3 (fun (r8 : Int) (σ8 : jH) =>
        RT 0 G σ8))))) ∧
    (r2 ≠ 0 →
      (G.2.1 x0).1 = 20 ∧
      cN C.1 d m_Model_step [vR x0] G σ2 (fun (r9 : Int) (σ9 : jH) =>
      (G.2.1 x0).1 = 20 ∧
      cN C.1 d m_Model_readAsk [vR x0, vI (w32 (x1 + 1)), vI x2] G σ9 (fun (r10 : Int) (σ10 : jH) =>
      (G.2.1 x0).1 = 20 ∧
      cN C.1 d m_Model_isSign [vR x0, vI 41] G σ10 (fun (r11 : Int) (σ11 : jH) =>
      ((r11 ≠ 0 →
        (G.2.1 x0).1 = 20 ∧
        cN C.1 d m_Model_step [vR x0] G σ11 (fun (r12 : Int) (σ12 : jH) =>
        RT 0 G σ12)) ∧
      (r11 = 0 →
        (G.2.1 x0).1 = 20 ∧
        cN C.1 d m_Model_wrong [vR x0, vI 1] G σ11 (fun (r13 : Int) (σ13 : jH) =>
        RT 0 G σ13)))))))))) ∧
  (r1 = 0 →
    RT 0 G σ1)))) :
  jwp C d mc ms RT k_Model_readUnit j0 q_Model_readUnit P 41 54 [some (vR x0), some (vI x1), some (vI x2), none, none, none, none, none] [] G σ cs ss := h
set_option maxRecDepth 20000 in
theorem b_Model_readUnit_193 {C : jC} {d mc ms : Nat} {RT : Int → jG → jH → Prop} {P : jK} {G : jG} {σ : jH} {cs ss : Nat} {x0 : Int} {x4 : Int} {x5 : Int} {x6 : Int} {x7 : Int} (h :
  (G.2.1 x0).1 = 20 ∧
  (G.2.1 x0).1 = 20 ∧
  (G.2.1 (G.2.2 x0 4)).1 = 1 ∧ (0 : Int) ≤ (σ x0 30) ∧ (σ x0 30) < (G.2.1 (G.2.2 x0 4)).2 ∧
  (((σ (G.2.2 x0 4) (σ x0 30)) ≤ x7 →
    RT 0 G σ) ∧
  (x7 < (σ (G.2.2 x0 4) (σ x0 30)) →
    ((x6 ≠ 0 →
      (G.2.1 x4).1 = 3 ∧ (0 : Int) ≤ x7 ∧ x7 < (G.2.1 x4).2 ∧
      ((0 : Int) = 0 ∨ (0 : Int) = 1) ∧
      P 193 [some (vR x0), none, none, none, some (vR x4), some (vI x5), some (vI x6), some (vI (w32 (x7 + 1)))] [] G (ju σ x4 x7 0) cs ss) ∧
    (x6 = 0 →
      (G.2.1 x0).1 = 20 ∧
      (G.2.1 x0).1 = 20 ∧
      (G.2.1 (G.2.2 x0 5)).1 = 1 ∧ (0 : Int) ≤ (w32 ((w32 (340 * (σ x0 30))) + x7)) ∧ (w32 ((w32 (340 * (σ x0 30))) + x7)) < (G.2.1 (G.2.2 x0 5)).2 ∧
      (((σ (G.2.2 x0 5) (w32 ((w32 (340 * (σ x0 30))) + x7))) ≠ x5 →
        (G.2.1 x4).1 = 3 ∧ (0 : Int) ≤ x7 ∧ x7 < (G.2.1 x4).2 ∧
        ((0 : Int) = 0 ∨ (0 : Int) = 1) ∧
        P 193 [some (vR x0), none, none, none, some (vR x4), some (vI x5), some (vI x6), some (vI (w32 (x7 + 1)))] [] G (ju σ x4 x7 0) cs ss) ∧
      ((σ (G.2.2 x0 5) (w32 ((w32 (340 * (σ x0 30))) + x7))) = x5 →
        (G.2.1 x4).1 = 3 ∧ (0 : Int) ≤ x7 ∧ x7 < (G.2.1 x4).2 ∧
        ((1 : Int) = 0 ∨ (1 : Int) = 1) ∧
        P 193 [some (vR x0), none, none, none, some (vR x4), some (vI x5), some (vI x6), some (vI (w32 (x7 + 1)))] [] G (ju σ x4 x7 1) cs ss))))))) :
  jwp C d mc ms RT k_Model_readUnit j0 q_Model_readUnit P 27 193 [some (vR x0), none, none, none, some (vR x4), some (vI x5), some (vI x6), some (vI x7)] [] G σ cs ss := h

def q_Model_beginsUnit : List (Nat × List Bool) := [(22, [true])]
set_option maxRecDepth 20000 in
theorem b_Model_beginsUnit_0 {C : jC} {d mc ms : Nat} {RT : Int → jG → jH → Prop} {P : jK} {G : jG} {σ : jH} {cs ss : Nat} {x0 : Int} (h :
  (G.2.1 x0).1 = 20 ∧
  cN C.1 d m_Model_good [vR x0] G σ (fun (r1 : Int) (σ1 : jH) =>
  ((r1 = 0 →
    ((0 : Int) = 0 ∨ (0 : Int) = 1) ∧ RT 0 G σ1) ∧
  (r1 ≠ 0 →
    (G.2.1 x0).1 = 20 ∧
    (((σ1 x0 20) ≠ 1 →
      P 22 [some (vR x0)] [] G σ1 cs ss) ∧
    ((σ1 x0 20) = 1 →
      (G.2.1 x0).1 = 20 ∧
      cN C.1 d m_Model_isOp [vR x0] G σ1 (fun (r2 : Int) (σ2 : jH) =>
      ((r2 = 0 →
        ((1 : Int) = 0 ∨ (1 : Int) = 1) ∧ RT 1 G σ2) ∧
      (r2 ≠ 0 →
        P 22 [some (vR x0)] [] G σ2 cs ss))))))))) :
  jwp C d mc ms RT k_Model_beginsUnit j0 q_Model_beginsUnit P 13 0 [some (vR x0)] [] G σ cs ss := h
set_option maxRecDepth 20000 in
theorem b_Model_beginsUnit_22 {C : jC} {d mc ms : Nat} {RT : Int → jG → jH → Prop} {P : jK} {G : jG} {σ : jH} {cs ss : Nat} {x0 : Int} (h :
  (G.2.1 x0).1 = 20 ∧
  cN C.1 d m_Model_isSign [vR x0, vI 40] G σ (fun (r1 : Int) (σ1 : jH) =>
  ((r1 ≠ 0 →
    ((1 : Int) = 0 ∨ (1 : Int) = 1) ∧ RT 1 G σ1) ∧
  (r1 = 0 →
    (G.2.1 x0).1 = 20 ∧
    cN C.1 d m_Model_isSign [vR x0, vI 34] G σ1 (fun (r2 : Int) (σ2 : jH) =>
    ((r2 = 0 →
      ((0 : Int) = 0 ∨ (0 : Int) = 1) ∧ RT 0 G σ2) ∧
    (r2 ≠ 0 →
      ((1 : Int) = 0 ∨ (1 : Int) = 1) ∧ RT 1 G σ2))))))) :
  jwp C d mc ms RT k_Model_beginsUnit j0 q_Model_beginsUnit P 11 22 [some (vR x0)] [] G σ cs ss := h

def q_Model_isOp : List (Nat × List Bool) := []
set_option maxRecDepth 20000 in
theorem b_Model_isOp_0 {C : jC} {d mc ms : Nat} {RT : Int → jG → jH → Prop} {P : jK} {G : jG} {σ : jH} {cs ss : Nat} {x0 : Int} (h :
  (G.2.1 x0).1 = 20 ∧
  cN C.1 d m_Model_is [vR x0, vT 6] G σ (fun (r1 : Int) (σ1 : jH) =>
  ((r1 ≠ 0 →
    ((1 : Int) = 0 ∨ (1 : Int) = 1) ∧ RT 1 G σ1) ∧
  (r1 = 0 →
    (G.2.1 x0).1 = 20 ∧
    cN C.1 d m_Model_is [vR x0, vT 7] G σ1 (fun (r2 : Int) (σ2 : jH) =>
    ((r2 ≠ 0 →
      ((1 : Int) = 0 ∨ (1 : Int) = 1) ∧ RT 1 G σ2) ∧
    (r2 = 0 →
      (G.2.1 x0).1 = 20 ∧
      cN C.1 d m_Model_is [vR x0, vT 8] G σ2 (fun (r3 : Int) (σ3 : jH) =>
      ((r3 ≠ 0 →
        ((1 : Int) = 0 ∨ (1 : Int) = 1) ∧ RT 1 G σ3) ∧
      (r3 = 0 →
        (G.2.1 x0).1 = 20 ∧
        cN C.1 d m_Model_is [vR x0, vT 9] G σ3 (fun (r4 : Int) (σ4 : jH) =>
        ((r4 ≠ 0 →
          ((1 : Int) = 0 ∨ (1 : Int) = 1) ∧ RT 1 G σ4) ∧
        (r4 = 0 →
          (G.2.1 x0).1 = 20 ∧
          cN C.1 d m_Model_is [vR x0, vT 10] G σ4 (fun (r5 : Int) (σ5 : jH) =>
          ((r5 ≠ 0 →
            ((1 : Int) = 0 ∨ (1 : Int) = 1) ∧ RT 1 G σ5) ∧
          (r5 = 0 →
            (G.2.1 x0).1 = 20 ∧
            cN C.1 d m_Model_is [vR x0, vT 11] G σ5 (fun (r6 : Int) (σ6 : jH) =>
            ((r6 = 0 →
              ((0 : Int) = 0 ∨ (0 : Int) = 1) ∧ RT 0 G σ6) ∧
            (r6 ≠ 0 →
              ((1 : Int) = 0 ∨ (1 : Int) = 1) ∧ RT 1 G σ6))))))))))))))))))) :
  jwp C d mc ms RT k_Model_isOp j0 q_Model_isOp P 27 0 [some (vR x0)] [] G σ cs ss := h

def q_Model_readRow : List (Nat × List Bool) := [(6, [true, true, true, false, false]), (31, [true, true, true, false, false]), (54, [true, true, true, true, true]), (134, [true, false, true, false, false])]
set_option maxRecDepth 20000 in
theorem b_Model_readRow_0 {C : jC} {d mc ms : Nat} {RT : Int → jG → jH → Prop} {P : jK} {G : jG} {σ : jH} {cs ss : Nat} {x0 : Int} {x1 : Int} (h :
  (G.2.1 x0).1 = 20 ∧
  cN C.1 d m_Model_step [vR x0] G σ (fun (r1 : Int) (σ1 : jH) =>
  P 6 [some (vR x0), some (vR x1), some (vI 0), none, none] [] G σ1 cs ss)) :
  jwp C d mc ms RT k_Model_readRow j0 q_Model_readRow P 4 0 [some (vR x0), some (vR x1), none, none, none] [] G σ cs ss := h
set_option maxRecDepth 20000 in
theorem b_Model_readRow_6 {C : jC} {d mc ms : Nat} {RT : Int → jG → jH → Prop} {P : jK} {G : jG} {σ : jH} {cs ss : Nat} {x0 : Int} {x1 : Int} {x2 : Int} (h :
  (G.2.1 x0).1 = 20 ∧
  (G.2.1 x0).1 = 20 ∧
  (G.2.1 (G.2.2 x0 4)).1 = 1 ∧ (0 : Int) ≤ (σ x0 30) ∧ (σ x0 30) < (G.2.1 (G.2.2 x0 4)).2 ∧
  (((σ (G.2.2 x0 4) (σ x0 30)) ≤ x2 →
    P 31 [some (vR x0), some (vR x1), some (vI 0), none, none] [] G σ cs ss) ∧
  (x2 < (σ (G.2.2 x0 4) (σ x0 30)) →
    (G.2.1 x1).1 = 3 ∧ (0 : Int) ≤ x2 ∧ x2 < (G.2.1 x1).2 ∧
    ((1 : Int) = 0 ∨ (1 : Int) = 1) ∧
    P 6 [some (vR x0), some (vR x1), some (vI (w32 (x2 + 1))), none, none] [] G (ju σ x1 x2 1) cs ss))) :
  jwp C d mc ms RT k_Model_readRow j0 q_Model_readRow P 13 6 [some (vR x0), some (vR x1), some (vI x2), none, none] [] G σ cs ss := h
set_option maxRecDepth 20000 in
theorem b_Model_readRow_31 {C : jC} {d mc ms : Nat} {RT : Int → jG → jH → Prop} {P : jK} {G : jG} {σ : jH} {cs ss : Nat} {x0 : Int} {x1 : Int} {x2 : Int} (h :
  (G.2.1 x0).1 = 20 ∧
  cN C.1 d m_Model_good [vR x0] G σ (fun (r1 : Int) (σ1 : jH) =>
  ((r1 = 0 →
    P 134 [some (vR x0), none, some (vI x2), none, none] [] G σ1 cs ss) ∧
  (r1 ≠ 0 →
    (G.2.1 x0).1 = 20 ∧
    (((σ1 x0 20) ≠ 1 →
      P 134 [some (vR x0), none, some (vI x2), none, none] [] G σ1 cs ss) ∧
    ((σ1 x0 20) = 1 →
      (G.2.1 x0).1 = 20 ∧
      cN C.1 d m_Model_formHere [vR x0] G σ1 (fun (r2 : Int) (σ2 : jH) =>
      P 54 [some (vR x0), some (vR x1), some (vI x2), some (vI r2), some (vI 0)] [] G σ2 cs ss))))))) :
  jwp C d mc ms RT k_Model_readRow j0 q_Model_readRow P 12 31 [some (vR x0), some (vR x1), some (vI x2), none, none] [] G σ cs ss := h
set_option maxRecDepth 20000 in
theorem b_Model_readRow_54 {C : jC} {d mc ms : Nat} {RT : Int → jG → jH → Prop} {P : jK} {G : jG} {σ : jH} {cs ss : Nat} {x0 : Int} {x1 : Int} {x2 : Int} {x3 : Int} {x4 : Int} (h :
  (G.2.1 x0).1 = 20 ∧
  (G.2.1 x0).1 = 20 ∧
  (G.2.1 (G.2.2 x0 4)).1 = 1 ∧ (0 : Int) ≤ (σ x0 30) ∧ (σ x0 30) < (G.2.1 (G.2.2 x0 4)).2 ∧
  (((σ (G.2.2 x0 4) (σ x0 30)) ≤ x4 →
    P 31 [some (vR x0), some (vR x1), some (vI (w32 (x2 + 1))), none, none] [] G σ cs ss) ∧
  (x4 < (σ (G.2.2 x0 4) (σ x0 30)) →
    (G.2.1 x1).1 = 3 ∧ (0 : Int) ≤ x4 ∧ x4 < (G.2.1 x1).2 ∧
    (((σ x1 x4) = 0 →
      (G.2.1 x1).1 = 3 ∧ (0 : Int) ≤ x4 ∧ x4 < (G.2.1 x1).2 ∧
      ((0 : Int) = 0 ∨ (0 : Int) = 1) ∧
      P 54 [some (vR x0), some (vR x1), some (vI x2), some (vI x3), some (vI (w32 (x4 + 1)))] [] G (ju σ x1 x4 0) cs ss) ∧
    ((σ x1 x4) ≠ 0 →
      (G.2.1 x0).1 = 20 ∧
      (G.2.1 x0).1 = 20 ∧
      (G.2.1 (G.2.2 x0 4)).1 = 1 ∧ (0 : Int) ≤ (σ x0 30) ∧ (σ x0 30) < (G.2.1 (G.2.2 x0 4)).2 ∧
      (((σ (G.2.2 x0 4) (σ x0 30)) ≤ (w32 (x4 + x2)) →
        (G.2.1 x1).1 = 3 ∧ (0 : Int) ≤ x4 ∧ x4 < (G.2.1 x1).2 ∧
        ((0 : Int) = 0 ∨ (0 : Int) = 1) ∧
        P 54 [some (vR x0), some (vR x1), some (vI x2), some (vI x3), some (vI (w32 (x4 + 1)))] [] G (ju σ x1 x4 0) cs ss) ∧
      ((w32 (x4 + x2)) < (σ (G.2.2 x0 4) (σ x0 30)) →
        (G.2.1 x0).1 = 20 ∧
        (G.2.1 x0).1 = 20 ∧
        (G.2.1 (G.2.2 x0 5)).1 = 1 ∧ (0 : Int) ≤ (w32 ((w32 ((w32 (340 * (σ x0 30))) + x4)) + x2)) ∧ (w32 ((w32 ((w32 (340 * (σ x0 30))) + x4)) + x2)) < (G.2.1 (G.2.2 x0 5)).2 ∧
        (((σ (G.2.2 x0 5) (w32 ((w32 ((w32 (340 * (σ x0 30))) + x4)) + x2))) ≠ x3 →
          (G.2.1 x1).1 = 3 ∧ (0 : Int) ≤ x4 ∧ x4 < (G.2.1 x1).2 ∧
          ((0 : Int) = 0 ∨ (0 : Int) = 1) ∧
          P 54 [some (vR x0), some (vR x1), some (vI x2), some (vI x3), some (vI (w32 (x4 + 1)))] [] G (ju σ x1 x4 0) cs ss) ∧
        ((σ (G.2.2 x0 5) (w32 ((w32 ((w32 (340 * (σ x0 30))) + x4)) + x2))) = x3 →
          (G.2.1 x1).1 = 3 ∧ (0 : Int) ≤ x4 ∧ x4 < (G.2.1 x1).2 ∧
          ((1 : Int) = 0 ∨ (1 : Int) = 1) ∧
          P 54 [some (vR x0), some (vR x1), some (vI x2), some (vI x3), some (vI (w32 (x4 + 1)))] [] G (ju σ x1 x4 1) cs ss))))))))) :
  jwp C d mc ms RT k_Model_readRow j0 q_Model_readRow P 40 54 [some (vR x0), some (vR x1), some (vI x2), some (vI x3), some (vI x4)] [] G σ cs ss := h
set_option maxRecDepth 20000 in
theorem b_Model_readRow_134 {C : jC} {d mc ms : Nat} {RT : Int → jG → jH → Prop} {P : jK} {G : jG} {σ : jH} {cs ss : Nat} {x0 : Int} {x2 : Int} (h :
  ((x2 = 0 →
    (G.2.1 x0).1 = 20 ∧
    cN C.1 d m_Model_wrong [vR x0, vI 1] G σ (fun (r1 : Int) (σ1 : jH) =>
    RT 0 G σ1)) ∧
  (x2 ≠ 0 →
    (G.2.1 x0).1 = 20 ∧
    cN C.1 d m_Model_isSign [vR x0, vI 34] G σ (fun (r2 : Int) (σ2 : jH) =>
    ((r2 ≠ 0 →
      (G.2.1 x0).1 = 20 ∧
      cN C.1 d m_Model_step [vR x0] G σ2 (fun (r3 : Int) (σ3 : jH) =>
      RT 0 G σ3)) ∧
    (r2 = 0 →
      (G.2.1 x0).1 = 20 ∧
      cN C.1 d m_Model_wrong [vR x0, vI 1] G σ2 (fun (r4 : Int) (σ4 : jH) =>
      RT 0 G σ4))))))) :
  jwp C d mc ms RT k_Model_readRow j0 q_Model_readRow P 11 134 [some (vR x0), none, some (vI x2), none, none] [] G σ cs ss := h

def q_Model_formHere : List (Nat × List Bool) := [(13, [true, false]), (33, [true, true])]
set_option maxRecDepth 20000 in
theorem b_Model_formHere_0 {C : jC} {d mc ms : Nat} {RT : Int → jG → jH → Prop} {P : jK} {G : jG} {σ : jH} {cs ss : Nat} {x0 : Int} (h :
  (G.2.1 x0).1 = 20 ∧
  (((σ x0 20) = 1 →
    P 13 [some (vR x0), none] [] G σ cs ss) ∧
  ((σ x0 20) ≠ 1 →
    (G.2.1 x0).1 = 20 ∧
    cN C.1 d m_Model_wrong [vR x0, vI 1] G σ (fun (r1 : Int) (σ1 : jH) =>
    P 13 [some (vR x0), none] [] G σ1 cs ss)))) :
  jwp C d mc ms RT k_Model_formHere j0 q_Model_formHere P 7 0 [some (vR x0), none] [] G σ cs ss := h
set_option maxRecDepth 20000 in
theorem b_Model_formHere_13 {C : jC} {d mc ms : Nat} {RT : Int → jG → jH → Prop} {P : jK} {G : jG} {σ : jH} {cs ss : Nat} {x0 : Int} (h :
  (G.2.1 x0).1 = 20 ∧
  cN C.1 d m_Model_good [vR x0] G σ (fun (r1 : Int) (σ1 : jH) =>
  ((r1 ≠ 0 →
    (G.2.1 x0).1 = 20 ∧
    (G.2.1 x0).1 = 20 ∧
    cN C.1 d m_Model_wordTo [vR x0, vR (G.2.2 x0 31), vI 0] G σ1 (fun (r2 : Int) (σ2 : jH) =>
    P 33 [some (vR x0), some (vI 1)] [] G σ2 cs ss)) ∧
  (r1 = 0 →
    RT (-1) G σ1)))) :
  jwp C d mc ms RT k_Model_formHere j0 q_Model_formHere P 10 13 [some (vR x0), none] [] G σ cs ss := h
set_option maxRecDepth 20000 in
theorem b_Model_formHere_33 {C : jC} {d mc ms : Nat} {RT : Int → jG → jH → Prop} {P : jK} {G : jG} {σ : jH} {cs ss : Nat} {x0 : Int} {x1 : Int} (h :
  (G.2.1 x0).1 = 20 ∧
  (G.2.1 (G.2.2 x0 31)).1 = 1 ∧ (0 : Int) ≤ 0 ∧ 0 < (G.2.1 (G.2.2 x0 31)).2 ∧
  (((σ (G.2.2 x0 31) 0) < x1 →
    (G.2.1 x0).1 = 20 ∧
    (G.2.1 x0).1 = 20 ∧
    cN C.1 d m_Model_find [vR x0, vR (G.2.2 x0 31), vI 0] G σ (fun (r1 : Int) (σ1 : jH) =>
    RT r1 G σ1)) ∧
  (x1 ≤ (σ (G.2.2 x0 31) 0) →
    (G.2.1 x0).1 = 20 ∧
    (G.2.1 x0).1 = 20 ∧
    (G.2.1 (G.2.2 x0 31)).1 = 1 ∧ (0 : Int) ≤ x1 ∧ x1 < (G.2.1 (G.2.2 x0 31)).2 ∧
    (G.2.1 x0).1 = 20 ∧
    cN C.1 d m_Model_folded [vR x0, vI (σ (G.2.2 x0 31) x1)] G σ (fun (r2 : Int) (σ2 : jH) =>
    (G.2.1 (G.2.2 x0 31)).1 = 1 ∧ (0 : Int) ≤ x1 ∧ x1 < (G.2.1 (G.2.2 x0 31)).2 ∧
    P 33 [some (vR x0), some (vI (w32 (x1 + 1)))] [] G (ju σ2 (G.2.2 x0 31) x1 r2) cs ss)))) :
  jwp C d mc ms RT k_Model_formHere j0 q_Model_formHere P 18 33 [some (vR x0), some (vI x1)] [] G σ cs ss := h

def q_Model_readRootWord : List (Nat × List Bool) := [(26, [true, true, false, false]), (39, [true, true, false, false]), (58, [true, true, true, false]), (101, [true, true, true, true]), (136, [true, true, true, true])]
set_option maxRecDepth 20000 in
theorem b_Model_readRootWord_0 {C : jC} {d mc ms : Nat} {RT : Int → jG → jH → Prop} {P : jK} {G : jG} {σ : jH} {cs ss : Nat} {x0 : Int} {x1 : Int} (h :
  (G.2.1 x0).1 = 20 ∧
  cN C.1 d m_Model_step [vR x0] G σ (fun (r1 : Int) (σ1 : jH) =>
  (G.2.1 x0).1 = 20 ∧
  cN C.1 d m_Model_isOp [vR x0] G σ1 (fun (r2 : Int) (σ2 : jH) =>
  ((r2 ≠ 0 →
    (G.2.1 x0).1 = 20 ∧
    cN C.1 d m_Model_wrong [vR x0, vI 1] G σ2 (fun (r3 : Int) (σ3 : jH) =>
    P 26 [some (vR x0), some (vR x1), none, none] [] G σ3 cs ss)) ∧
  (r2 = 0 →
    (G.2.1 x0).1 = 20 ∧
    cN C.1 d m_Model_is [vR x0, vT 3] G σ2 (fun (r4 : Int) (σ4 : jH) =>
    ((r4 = 0 →
      P 26 [some (vR x0), some (vR x1), none, none] [] G σ4 cs ss) ∧
    (r4 ≠ 0 →
      (G.2.1 x0).1 = 20 ∧
      cN C.1 d m_Model_wrong [vR x0, vI 1] G σ4 (fun (r5 : Int) (σ5 : jH) =>
      P 26 [some (vR x0), some (vR x1), none, none] [] G σ5 cs ss))))))))) :
  jwp C d mc ms RT k_Model_readRootWord j0 q_Model_readRootWord P 12 0 [some (vR x0), some (vR x1), none, none] [] G σ cs ss := h
set_option maxRecDepth 20000 in
theorem b_Model_readRootWord_26 {C : jC} {d mc ms : Nat} {RT : Int → jG → jH → Prop} {P : jK} {G : jG} {σ : jH} {cs ss : Nat} {x0 : Int} {x1 : Int} (h :
  (G.2.1 x0).1 = 20 ∧
  (((σ x0 20) = 1 →
    P 39 [some (vR x0), some (vR x1), none, none] [] G σ cs ss) ∧
  ((σ x0 20) ≠ 1 →
    (G.2.1 x0).1 = 20 ∧
    cN C.1 d m_Model_wrong [vR x0, vI 1] G σ (fun (r1 : Int) (σ1 : jH) =>
    P 39 [some (vR x0), some (vR x1), none, none] [] G σ1 cs ss)))) :
  jwp C d mc ms RT k_Model_readRootWord j0 q_Model_readRootWord P 7 26 [some (vR x0), some (vR x1), none, none] [] G σ cs ss := h
set_option maxRecDepth 20000 in
theorem b_Model_readRootWord_39 {C : jC} {d mc ms : Nat} {RT : Int → jG → jH → Prop} {P : jK} {G : jG} {σ : jH} {cs ss : Nat} {x0 : Int} {x1 : Int} (h :
  (G.2.1 x0).1 = 20 ∧
  cN C.1 d m_Model_good [vR x0] G σ (fun (r1 : Int) (σ1 : jH) =>
  ((r1 ≠ 0 →
    (G.2.1 x0).1 = 20 ∧
    (G.2.1 x0).1 = 20 ∧
    cN C.1 d m_Model_wordTo [vR x0, vR (G.2.2 x0 31), vI 0] G σ1 (fun (r2 : Int) (σ2 : jH) =>
    P 58 [some (vR x0), some (vR x1), some (vI 1), none] [] G σ2 cs ss)) ∧
  (r1 = 0 →
    RT 0 G σ1)))) :
  jwp C d mc ms RT k_Model_readRootWord j0 q_Model_readRootWord P 10 39 [some (vR x0), some (vR x1), none, none] [] G σ cs ss := h
set_option maxRecDepth 20000 in
theorem b_Model_readRootWord_58 {C : jC} {d mc ms : Nat} {RT : Int → jG → jH → Prop} {P : jK} {G : jG} {σ : jH} {cs ss : Nat} {x0 : Int} {x1 : Int} {x2 : Int} (h :
  (G.2.1 x0).1 = 20 ∧
  (G.2.1 (G.2.2 x0 31)).1 = 1 ∧ (0 : Int) ≤ 0 ∧ 0 < (G.2.1 (G.2.2 x0 31)).2 ∧
  (((σ (G.2.2 x0 31) 0) < x2 →
    (G.2.1 x0).1 = 20 ∧
    (G.2.1 (G.2.2 x0 1)).1 = 1 ∧ (0 : Int) ≤ 2 ∧ 2 < (G.2.1 (G.2.2 x0 1)).2 ∧
    P 101 [some (vR x0), some (vR x1), some (vI (-1)), some (vI (w32 ((σ (G.2.2 x0 1) 2) - 1)))] [] G σ cs ss) ∧
  (x2 ≤ (σ (G.2.2 x0 31) 0) →
    (G.2.1 x0).1 = 20 ∧
    (G.2.1 x0).1 = 20 ∧
    (G.2.1 (G.2.2 x0 31)).1 = 1 ∧ (0 : Int) ≤ x2 ∧ x2 < (G.2.1 (G.2.2 x0 31)).2 ∧
    (G.2.1 x0).1 = 20 ∧
    cN C.1 d m_Model_folded [vR x0, vI (σ (G.2.2 x0 31) x2)] G σ (fun (r1 : Int) (σ1 : jH) =>
    (G.2.1 (G.2.2 x0 31)).1 = 1 ∧ (0 : Int) ≤ x2 ∧ x2 < (G.2.1 (G.2.2 x0 31)).2 ∧
    P 58 [some (vR x0), some (vR x1), some (vI (w32 (x2 + 1))), none] [] G (ju σ1 (G.2.2 x0 31) x2 r1) cs ss)))) :
  jwp C d mc ms RT k_Model_readRootWord j0 q_Model_readRootWord P 18 58 [some (vR x0), some (vR x1), some (vI x2), none] [] G σ cs ss := h
set_option maxRecDepth 20000 in
theorem b_Model_readRootWord_101 {C : jC} {d mc ms : Nat} {RT : Int → jG → jH → Prop} {P : jK} {G : jG} {σ : jH} {cs ss : Nat} {x0 : Int} {x1 : Int} {x2 : Int} {x3 : Int} (h :
  ((x3 < 0 →
    P 136 [some (vR x0), some (vR x1), some (vI x2), some (vI 0)] [] G σ cs ss) ∧
  ((0 : Int) ≤ x3 →
    (G.2.1 x0).1 = 20 ∧
    cN C.1 d m_Model_isTold [vR x0, vI (w32 ((w32 (477 + (w32 (106 * x3)))) + 1))] G σ (fun (r1 : Int) (σ1 : jH) =>
    ((r1 = 0 →
      P 101 [some (vR x0), some (vR x1), some (vI x2), some (vI (w32 (x3 + (-1))))] [] G σ1 cs ss) ∧
    (r1 ≠ 0 →
      P 101 [some (vR x0), some (vR x1), some (vI x3), some (vI (w32 (x3 + (-1))))] [] G σ1 cs ss)))))) :
  jwp C d mc ms RT k_Model_readRootWord j0 q_Model_readRootWord P 17 101 [some (vR x0), some (vR x1), some (vI x2), some (vI x3)] [] G σ cs ss := h
set_option maxRecDepth 20000 in
theorem b_Model_readRootWord_136 {C : jC} {d mc ms : Nat} {RT : Int → jG → jH → Prop} {P : jK} {G : jG} {σ : jH} {cs ss : Nat} {x0 : Int} {x1 : Int} {x2 : Int} {x3 : Int} (h :
  (G.2.1 x0).1 = 20 ∧
  (G.2.1 x0).1 = 20 ∧
  (G.2.1 (G.2.2 x0 4)).1 = 1 ∧ (0 : Int) ≤ (σ x0 30) ∧ (σ x0 30) < (G.2.1 (G.2.2 x0 4)).2 ∧
  (((σ (G.2.2 x0 4) (σ x0 30)) ≤ x3 →
    RT 0 G σ) ∧
  (x3 < (σ (G.2.2 x0 4) (σ x0 30)) →
    ((x2 = (-1) →
      (G.2.1 x1).1 = 3 ∧ (0 : Int) ≤ x3 ∧ x3 < (G.2.1 x1).2 ∧
      ((0 : Int) = 0 ∨ (0 : Int) = 1) ∧
      P 136 [some (vR x0), some (vR x1), some (vI x2), some (vI (w32 (x3 + 1)))] [] G (ju σ x1 x3 0) cs ss) ∧
    (x2 ≠ (-1) →
      (G.2.1 x0).1 = 20 ∧
      (G.2.1 x0).1 = 20 ∧
      (G.2.1 (G.2.2 x0 5)).1 = 1 ∧ (0 : Int) ≤ (w32 ((w32 (340 * (σ x0 30))) + x3)) ∧ (w32 ((w32 (340 * (σ x0 30))) + x3)) < (G.2.1 (G.2.2 x0 5)).2 ∧
      (G.2.1 x0).1 = 20 ∧
      cN C.1 d m_Model_isOfRoot [vR x0, vI x2, vI (σ (G.2.2 x0 5) (w32 ((w32 (340 * (σ x0 30))) + x3)))] G σ (fun (r1 : Int) (σ1 : jH) =>
      ((r1 = 0 →
        (G.2.1 x1).1 = 3 ∧ (0 : Int) ≤ x3 ∧ x3 < (G.2.1 x1).2 ∧
        ((0 : Int) = 0 ∨ (0 : Int) = 1) ∧
        P 136 [some (vR x0), some (vR x1), some (vI x2), some (vI (w32 (x3 + 1)))] [] G (ju σ1 x1 x3 0) cs ss) ∧
      (r1 ≠ 0 →
        (G.2.1 x1).1 = 3 ∧ (0 : Int) ≤ x3 ∧ x3 < (G.2.1 x1).2 ∧
        ((1 : Int) = 0 ∨ (1 : Int) = 1) ∧
        P 136 [some (vR x0), some (vR x1), some (vI x2), some (vI (w32 (x3 + 1)))] [] G (ju σ1 x1 x3 1) cs ss)))))))) :
  jwp C d mc ms RT k_Model_readRootWord j0 q_Model_readRootWord P 30 136 [some (vR x0), some (vR x1), some (vI x2), some (vI x3)] [] G σ cs ss := h

def q_Model_isTold : List (Nat × List Bool) := [(23, [true, true, true, true])]
set_option maxRecDepth 20000 in
theorem b_Model_isTold_0 {C : jC} {d mc ms : Nat} {RT : Int → jG → jH → Prop} {P : jK} {G : jG} {σ : jH} {cs ss : Nat} {x0 : Int} {x1 : Int} (h :
  (G.2.1 x0).1 = 20 ∧
  (G.2.1 (G.2.2 x0 1)).1 = 1 ∧ (0 : Int) ≤ x1 ∧ x1 < (G.2.1 (G.2.2 x0 1)).2 ∧
  (G.2.1 x0).1 = 20 ∧
  (G.2.1 (G.2.2 x0 31)).1 = 1 ∧ (0 : Int) ≤ 0 ∧ 0 < (G.2.1 (G.2.2 x0 31)).2 ∧
  (((σ (G.2.2 x0 1) x1) ≠ (σ (G.2.2 x0 31) 0) →
    P 23 [some (vR x0), some (vI x1), some (vI 0), some (vI 1)] [] G σ cs ss) ∧
  ((σ (G.2.2 x0 1) x1) = (σ (G.2.2 x0 31) 0) →
    P 23 [some (vR x0), some (vI x1), some (vI 1), some (vI 1)] [] G σ cs ss))) :
  jwp C d mc ms RT k_Model_isTold j0 q_Model_isTold P 14 0 [some (vR x0), some (vI x1), none, none] [] G σ cs ss := h
set_option maxRecDepth 20000 in
theorem b_Model_isTold_23 {C : jC} {d mc ms : Nat} {RT : Int → jG → jH → Prop} {P : jK} {G : jG} {σ : jH} {cs ss : Nat} {x0 : Int} {x1 : Int} {x2 : Int} {x3 : Int} (h :
  (G.2.1 x0).1 = 20 ∧
  (G.2.1 (G.2.2 x0 1)).1 = 1 ∧ (0 : Int) ≤ x1 ∧ x1 < (G.2.1 (G.2.2 x0 1)).2 ∧
  (((σ (G.2.2 x0 1) x1) < x3 →
    (x2 = 0 ∨ x2 = 1) ∧ RT x2 G σ) ∧
  (x3 ≤ (σ (G.2.2 x0 1) x1) →
    ((x2 = 0 →
      (x2 = 0 ∨ x2 = 1) ∧ RT x2 G σ) ∧
    (x2 ≠ 0 →
      (G.2.1 x0).1 = 20 ∧
      (G.2.1 (G.2.2 x0 1)).1 = 1 ∧ (0 : Int) ≤ (w32 (x1 + x3)) ∧ (w32 (x1 + x3)) < (G.2.1 (G.2.2 x0 1)).2 ∧
      (G.2.1 x0).1 = 20 ∧
      cN C.1 d m_Model_folded [vR x0, vI (σ (G.2.2 x0 1) (w32 (x1 + x3)))] G σ (fun (r1 : Int) (σ1 : jH) =>
      (G.2.1 x0).1 = 20 ∧
      (G.2.1 (G.2.2 x0 31)).1 = 1 ∧ (0 : Int) ≤ x3 ∧ x3 < (G.2.1 (G.2.2 x0 31)).2 ∧
      ((r1 ≠ (σ1 (G.2.2 x0 31) x3) →
        P 23 [some (vR x0), some (vI x1), some (vI 0), some (vI (w32 (x3 + 1)))] [] G σ1 cs ss) ∧
      (r1 = (σ1 (G.2.2 x0 31) x3) →
        P 23 [some (vR x0), some (vI x1), some (vI 1), some (vI (w32 (x3 + 1)))] [] G σ1 cs ss)))))))) :
  jwp C d mc ms RT k_Model_isTold j0 q_Model_isTold P 26 23 [some (vR x0), some (vI x1), some (vI x2), some (vI x3)] [] G σ cs ss := h

def q_Model_isOfRoot : List (Nat × List Bool) := [(12, [true, false, true, true, true])]
set_option maxRecDepth 20000 in
theorem b_Model_isOfRoot_0 {C : jC} {d mc ms : Nat} {RT : Int → jG → jH → Prop} {P : jK} {G : jG} {σ : jH} {cs ss : Nat} {x0 : Int} {x1 : Int} {x2 : Int} (h :
  P 12 [some (vR x0), none, some (vI x2), some (vI (w32 (477 + (w32 (106 * x1))))), some (vI 0)] [] G σ cs ss) :
  jwp C d mc ms RT k_Model_isOfRoot j0 q_Model_isOfRoot P 8 0 [some (vR x0), some (vI x1), some (vI x2), none, none] [] G σ cs ss := h
set_option maxRecDepth 20000 in
theorem b_Model_isOfRoot_12 {C : jC} {d mc ms : Nat} {RT : Int → jG → jH → Prop} {P : jK} {G : jG} {σ : jH} {cs ss : Nat} {x0 : Int} {x2 : Int} {x3 : Int} {x4 : Int} (h :
  (G.2.1 x0).1 = 20 ∧
  (G.2.1 (G.2.2 x0 1)).1 = 1 ∧ (0 : Int) ≤ x3 ∧ x3 < (G.2.1 (G.2.2 x0 1)).2 ∧
  (((σ (G.2.2 x0 1) x3) ≤ x4 →
    ((0 : Int) = 0 ∨ (0 : Int) = 1) ∧ RT 0 G σ) ∧
  (x4 < (σ (G.2.2 x0 1) x3) →
    (G.2.1 x0).1 = 20 ∧
    cN C.1 d m_Model_ruledForm [vR x0, vI (w32 ((w32 (x3 + 1)) + (w32 (21 * x4))))] G σ (fun (r1 : Int) (σ1 : jH) =>
    ((r1 ≠ x2 →
      P 12 [some (vR x0), none, some (vI x2), some (vI x3), some (vI (w32 (x4 + 1)))] [] G σ1 cs ss) ∧
    (r1 = x2 →
      ((1 : Int) = 0 ∨ (1 : Int) = 1) ∧ RT 1 G σ1)))))) :
  jwp C d mc ms RT k_Model_isOfRoot j0 q_Model_isOfRoot P 19 12 [some (vR x0), none, some (vI x2), some (vI x3), some (vI x4)] [] G σ cs ss := h

def q_Model_opHere : List (Nat × List Bool) := []
set_option maxRecDepth 20000 in
theorem b_Model_opHere_0 {C : jC} {d mc ms : Nat} {RT : Int → jG → jH → Prop} {P : jK} {G : jG} {σ : jH} {cs ss : Nat} {x0 : Int} (h :
  (G.2.1 x0).1 = 20 ∧
  cN C.1 d m_Model_is [vR x0, vT 6] G σ (fun (r1 : Int) (σ1 : jH) =>
  ((r1 = 0 →
    (G.2.1 x0).1 = 20 ∧
    cN C.1 d m_Model_is [vR x0, vT 7] G σ1 (fun (r2 : Int) (σ2 : jH) =>
    ((r2 = 0 →
      (G.2.1 x0).1 = 20 ∧
      cN C.1 d m_Model_is [vR x0, vT 8] G σ2 (fun (r3 : Int) (σ3 : jH) =>
      ((r3 = 0 →
        (G.2.1 x0).1 = 20 ∧
        cN C.1 d m_Model_is [vR x0, vT 9] G σ3 (fun (r4 : Int) (σ4 : jH) =>
        ((r4 = 0 →
          (G.2.1 x0).1 = 20 ∧
          cN C.1 d m_Model_is [vR x0, vT 10] G σ4 (fun (r5 : Int) (σ5 : jH) =>
          ((r5 = 0 →
            RT 5 G σ5) ∧
          (r5 ≠ 0 →
            RT 4 G σ5)))) ∧
        (r4 ≠ 0 →
          RT 3 G σ4)))) ∧
      (r3 ≠ 0 →
        RT 2 G σ3)))) ∧
    (r2 ≠ 0 →
      RT 1 G σ2)))) ∧
  (r1 ≠ 0 →
    RT 0 G σ1)))) :
  jwp C d mc ms RT k_Model_opHere j0 q_Model_opHere P 23 0 [some (vR x0)] [] G σ cs ss := h

def q_Model_joins : List (Nat × List Bool) := [(3, [true, true, true, true, true, true])]
set_option maxRecDepth 20000 in
theorem b_Model_joins_0 {C : jC} {d mc ms : Nat} {RT : Int → jG → jH → Prop} {P : jK} {G : jG} {σ : jH} {cs ss : Nat} {x0 : Int} {x1 : Int} {x2 : Int} {x3 : Int} {x4 : Int} (h :
  P 3 [some (vR x0), some (vI x1), some (vI x2), some (vR x3), some (vR x4), some (vI 0)] [] G σ cs ss) :
  jwp C d mc ms RT k_Model_joins j0 q_Model_joins P 2 0 [some (vR x0), some (vI x1), some (vI x2), some (vR x3), some (vR x4), none] [] G σ cs ss := h
set_option maxRecDepth 20000 in
theorem b_Model_joins_3 {C : jC} {d mc ms : Nat} {RT : Int → jG → jH → Prop} {P : jK} {G : jG} {σ : jH} {cs ss : Nat} {x0 : Int} {x1 : Int} {x2 : Int} {x3 : Int} {x4 : Int} {x5 : Int} (h :
  (G.2.1 x0).1 = 20 ∧
  (G.2.1 x0).1 = 20 ∧
  (G.2.1 (G.2.2 x0 4)).1 = 1 ∧ (0 : Int) ≤ (σ x0 30) ∧ (σ x0 30) < (G.2.1 (G.2.2 x0 4)).2 ∧
  (((σ (G.2.2 x0 4) (σ x0 30)) ≤ x5 →
    RT 0 G σ) ∧
  (x5 < (σ (G.2.2 x0 4) (σ x0 30)) →
    ((x1 < 0 ∨ 4 < x1 →
      (G.2.1 x3).1 = 3 ∧ (0 : Int) ≤ x5 ∧ x5 < (G.2.1 x3).2 ∧
      (((σ x3 x5) ≠ 0 →
        (G.2.1 x3).1 = 3 ∧ (0 : Int) ≤ x5 ∧ x5 < (G.2.1 x3).2 ∧
        ((1 : Int) = 0 ∨ (1 : Int) = 1) ∧
        P 3 [some (vR x0), some (vI x1), some (vI x2), some (vR x3), some (vR x4), some (vI (w32 (x5 + 1)))] [] G (ju σ x3 x5 1) cs ss) ∧
      ((σ x3 x5) = 0 →
        (G.2.1 x4).1 = 3 ∧ (0 : Int) ≤ x5 ∧ x5 < (G.2.1 x4).2 ∧
        (((σ x4 x5) = 0 →
          (G.2.1 x3).1 = 3 ∧ (0 : Int) ≤ x5 ∧ x5 < (G.2.1 x3).2 ∧
          ((0 : Int) = 0 ∨ (0 : Int) = 1) ∧
          P 3 [some (vR x0), some (vI x1), some (vI x2), some (vR x3), some (vR x4), some (vI (w32 (x5 + 1)))] [] G (ju σ x3 x5 0) cs ss) ∧
        ((σ x4 x5) ≠ 0 →
          (G.2.1 x3).1 = 3 ∧ (0 : Int) ≤ x5 ∧ x5 < (G.2.1 x3).2 ∧
          ((1 : Int) = 0 ∨ (1 : Int) = 1) ∧
          P 3 [some (vR x0), some (vI x1), some (vI x2), some (vR x3), some (vR x4), some (vI (w32 (x5 + 1)))] [] G (ju σ x3 x5 1) cs ss))))) ∧
    (x1 = 0 →
      (G.2.1 x3).1 = 3 ∧ (0 : Int) ≤ x5 ∧ x5 < (G.2.1 x3).2 ∧
      (((σ x3 x5) = 0 →
        (G.2.1 x3).1 = 3 ∧ (0 : Int) ≤ x5 ∧ x5 < (G.2.1 x3).2 ∧
        ((0 : Int) = 0 ∨ (0 : Int) = 1) ∧
        P 3 [some (vR x0), some (vI x1), some (vI x2), some (vR x3), some (vR x4), some (vI (w32 (x5 + 1)))] [] G (ju σ x3 x5 0) cs ss) ∧
      ((σ x3 x5) ≠ 0 →
        (G.2.1 x0).1 = 20 ∧
        cN C.1 d m_Model_isNear [vR x0, vI x5, vI x2, vR x4, vI 0] G σ (fun (r1 : Int) (σ1 : jH) =>
        ((r1 = 0 →
          (G.2.1 x3).1 = 3 ∧ (0 : Int) ≤ x5 ∧ x5 < (G.2.1 x3).2 ∧
          ((0 : Int) = 0 ∨ (0 : Int) = 1) ∧
          P 3 [some (vR x0), some (vI x1), some (vI x2), some (vR x3), some (vR x4), some (vI (w32 (x5 + 1)))] [] G (ju σ1 x3 x5 0) cs ss) ∧
        (r1 ≠ 0 →
          (G.2.1 x3).1 = 3 ∧ (0 : Int) ≤ x5 ∧ x5 < (G.2.1 x3).2 ∧
          ((1 : Int) = 0 ∨ (1 : Int) = 1) ∧
          P 3 [some (vR x0), some (vI x1), some (vI x2), some (vR x3), some (vR x4), some (vI (w32 (x5 + 1)))] [] G (ju σ1 x3 x5 1) cs ss)))))) ∧
    (x1 = 1 →
      (G.2.1 x3).1 = 3 ∧ (0 : Int) ≤ x5 ∧ x5 < (G.2.1 x3).2 ∧
      (((σ x3 x5) = 0 →
        (G.2.1 x3).1 = 3 ∧ (0 : Int) ≤ x5 ∧ x5 < (G.2.1 x3).2 ∧
        ((0 : Int) = 0 ∨ (0 : Int) = 1) ∧
        P 3 [some (vR x0), some (vI x1), some (vI x2), some (vR x3), some (vR x4), some (vI (w32 (x5 + 1)))] [] G (ju σ x3 x5 0) cs ss) ∧
      ((σ x3 x5) ≠ 0 →
        (G.2.1 x0).1 = 20 ∧
        cN C.1 d m_Model_isNear [vR x0, vI x5, vI x2, vR x4, vI 1] G σ (fun (r2 : Int) (σ2 : jH) =>
        ((r2 = 0 →
          (G.2.1 x3).1 = 3 ∧ (0 : Int) ≤ x5 ∧ x5 < (G.2.1 x3).2 ∧
          ((0 : Int) = 0 ∨ (0 : Int) = 1) ∧
          P 3 [some (vR x0), some (vI x1), some (vI x2), some (vR x3), some (vR x4), some (vI (w32 (x5 + 1)))] [] G (ju σ2 x3 x5 0) cs ss) ∧
        (r2 ≠ 0 →
          (G.2.1 x3).1 = 3 ∧ (0 : Int) ≤ x5 ∧ x5 < (G.2.1 x3).2 ∧
          ((1 : Int) = 0 ∨ (1 : Int) = 1) ∧
          P 3 [some (vR x0), some (vI x1), some (vI x2), some (vR x3), some (vR x4), some (vI (w32 (x5 + 1)))] [] G (ju σ2 x3 x5 1) cs ss)))))) ∧
    (x1 = 2 →
      (G.2.1 x3).1 = 3 ∧ (0 : Int) ≤ x5 ∧ x5 < (G.2.1 x3).2 ∧
      (((σ x3 x5) = 0 →
        (G.2.1 x3).1 = 3 ∧ (0 : Int) ≤ x5 ∧ x5 < (G.2.1 x3).2 ∧
        ((0 : Int) = 0 ∨ (0 : Int) = 1) ∧
        P 3 [some (vR x0), some (vI x1), some (vI x2), some (vR x3), some (vR x4), some (vI (w32 (x5 + 1)))] [] G (ju σ x3 x5 0) cs ss) ∧
      ((σ x3 x5) ≠ 0 →
        (G.2.1 x0).1 = 20 ∧
        cN C.1 d m_Model_isNear [vR x0, vI x5, vI x2, vR x4, vI 0] G σ (fun (r3 : Int) (σ3 : jH) =>
        ((r3 ≠ 0 →
          (G.2.1 x3).1 = 3 ∧ (0 : Int) ≤ x5 ∧ x5 < (G.2.1 x3).2 ∧
          ((0 : Int) = 0 ∨ (0 : Int) = 1) ∧
          P 3 [some (vR x0), some (vI x1), some (vI x2), some (vR x3), some (vR x4), some (vI (w32 (x5 + 1)))] [] G (ju σ3 x3 x5 0) cs ss) ∧
        (r3 = 0 →
          (G.2.1 x3).1 = 3 ∧ (0 : Int) ≤ x5 ∧ x5 < (G.2.1 x3).2 ∧
          ((1 : Int) = 0 ∨ (1 : Int) = 1) ∧
          P 3 [some (vR x0), some (vI x1), some (vI x2), some (vR x3), some (vR x4), some (vI (w32 (x5 + 1)))] [] G (ju σ3 x3 x5 1) cs ss)))))) ∧
    (x1 = 3 →
      (G.2.1 x3).1 = 3 ∧ (0 : Int) ≤ x5 ∧ x5 < (G.2.1 x3).2 ∧
      (((σ x3 x5) = 0 →
        (G.2.1 x3).1 = 3 ∧ (0 : Int) ≤ x5 ∧ x5 < (G.2.1 x3).2 ∧
        ((0 : Int) = 0 ∨ (0 : Int) = 1) ∧
        P 3 [some (vR x0), some (vI x1), some (vI x2), some (vR x3), some (vR x4), some (vI (w32 (x5 + 1)))] [] G (ju σ x3 x5 0) cs ss) ∧
      ((σ x3 x5) ≠ 0 →
        (G.2.1 x0).1 = 20 ∧
        cN C.1 d m_Model_hasInLine [vR x0, vI x5, vR x4] G σ (fun (r4 : Int) (σ4 : jH) =>
        ((r4 = 0 →
          (G.2.1 x3).1 = 3 ∧ (0 : Int) ≤ x5 ∧ x5 < (G.2.1 x3).2 ∧
          ((0 : Int) = 0 ∨ (0 : Int) = 1) ∧
          P 3 [some (vR x0), some (vI x1), some (vI x2), some (vR x3), some (vR x4), some (vI (w32 (x5 + 1)))] [] G (ju σ4 x3 x5 0) cs ss) ∧
        (r4 ≠ 0 →
          (G.2.1 x3).1 = 3 ∧ (0 : Int) ≤ x5 ∧ x5 < (G.2.1 x3).2 ∧
          ((1 : Int) = 0 ∨ (1 : Int) = 1) ∧
          P 3 [some (vR x0), some (vI x1), some (vI x2), some (vR x3), some (vR x4), some (vI (w32 (x5 + 1)))] [] G (ju σ4 x3 x5 1) cs ss)))))) ∧
    (x1 = 4 →
      (G.2.1 x3).1 = 3 ∧ (0 : Int) ≤ x5 ∧ x5 < (G.2.1 x3).2 ∧
      (((σ x3 x5) = 0 →
        (G.2.1 x3).1 = 3 ∧ (0 : Int) ≤ x5 ∧ x5 < (G.2.1 x3).2 ∧
        ((0 : Int) = 0 ∨ (0 : Int) = 1) ∧
        P 3 [some (vR x0), some (vI x1), some (vI x2), some (vR x3), some (vR x4), some (vI (w32 (x5 + 1)))] [] G (ju σ x3 x5 0) cs ss) ∧
      ((σ x3 x5) ≠ 0 →
        (G.2.1 x0).1 = 20 ∧
        cN C.1 d m_Model_hasInLine [vR x0, vI x5, vR x4] G σ (fun (r5 : Int) (σ5 : jH) =>
        ((r5 ≠ 0 →
          (G.2.1 x3).1 = 3 ∧ (0 : Int) ≤ x5 ∧ x5 < (G.2.1 x3).2 ∧
          ((0 : Int) = 0 ∨ (0 : Int) = 1) ∧
          P 3 [some (vR x0), some (vI x1), some (vI x2), some (vR x3), some (vR x4), some (vI (w32 (x5 + 1)))] [] G (ju σ5 x3 x5 0) cs ss) ∧
        (r5 = 0 →
          (G.2.1 x3).1 = 3 ∧ (0 : Int) ≤ x5 ∧ x5 < (G.2.1 x3).2 ∧
          ((1 : Int) = 0 ∨ (1 : Int) = 1) ∧
          P 3 [some (vR x0), some (vI x1), some (vI x2), some (vR x3), some (vR x4), some (vI (w32 (x5 + 1)))] [] G (ju σ5 x3 x5 1) cs ss)))))) ∧ True)))) :
  jwp C d mc ms RT k_Model_joins j0 q_Model_joins P 28 3 [some (vR x0), some (vI x1), some (vI x2), some (vR x3), some (vR x4), some (vI x5)] [] G σ cs ss := h

def q_Model_isNear : List (Nat × List Bool) := [(20, [true, true, true, true, false, true])]
set_option maxRecDepth 20000 in
theorem b_Model_isNear_0 {C : jC} {d mc ms : Nat} {RT : Int → jG → jH → Prop} {P : jK} {G : jG} {σ : jH} {cs ss : Nat} {x0 : Int} {x1 : Int} {x2 : Int} {x3 : Int} {x4 : Int} (h :
  ((x4 = 0 →
    1 ≤ d ∧
    P 20 [some (vR x0), some (vI x1), some (vI x2), some (vR x3), none, some (vI (max 0 (w32 (x1 - x2))))] [] G σ cs ss) ∧
  (x4 ≠ 0 →
    1 ≤ d ∧
    P 20 [some (vR x0), some (vI x1), some (vI x2), some (vR x3), none, some (vI (max 0 (w32 (x1 + 1))))] [] G σ cs ss))) :
  jwp C d mc ms RT k_Model_isNear j0 q_Model_isNear P 9 0 [some (vR x0), some (vI x1), some (vI x2), some (vR x3), some (vI x4), none] [] G σ cs ss := h
set_option maxRecDepth 20000 in
theorem b_Model_isNear_20 {C : jC} {d mc ms : Nat} {RT : Int → jG → jH → Prop} {P : jK} {G : jG} {σ : jH} {cs ss : Nat} {x0 : Int} {x1 : Int} {x2 : Int} {x3 : Int} {x5 : Int} (h :
  (((w32 (x1 + x2)) < x5 →
    ((0 : Int) = 0 ∨ (0 : Int) = 1) ∧ RT 0 G σ) ∧
  (x5 ≤ (w32 (x1 + x2)) →
    (G.2.1 x0).1 = 20 ∧
    (G.2.1 x0).1 = 20 ∧
    (G.2.1 (G.2.2 x0 4)).1 = 1 ∧ (0 : Int) ≤ (σ x0 30) ∧ (σ x0 30) < (G.2.1 (G.2.2 x0 4)).2 ∧
    (((σ (G.2.2 x0 4) (σ x0 30)) ≤ x5 →
      ((0 : Int) = 0 ∨ (0 : Int) = 1) ∧ RT 0 G σ) ∧
    (x5 < (σ (G.2.2 x0 4) (σ x0 30)) →
      ((x5 = x1 →
        P 20 [some (vR x0), some (vI x1), some (vI x2), some (vR x3), none, some (vI (w32 (x5 + 1)))] [] G σ cs ss) ∧
      (x5 ≠ x1 →
        (G.2.1 x3).1 = 3 ∧ (0 : Int) ≤ x5 ∧ x5 < (G.2.1 x3).2 ∧
        (((σ x3 x5) = 0 →
          P 20 [some (vR x0), some (vI x1), some (vI x2), some (vR x3), none, some (vI (w32 (x5 + 1)))] [] G σ cs ss) ∧
        ((σ x3 x5) ≠ 0 →
          ((1 : Int) = 0 ∨ (1 : Int) = 1) ∧ RT 1 G σ))))))))) :
  jwp C d mc ms RT k_Model_isNear j0 q_Model_isNear P 21 20 [some (vR x0), some (vI x1), some (vI x2), some (vR x3), none, some (vI x5)] [] G σ cs ss := h

def q_Model_hasInLine : List (Nat × List Bool) := [(2, [true, true, true, true])]
set_option maxRecDepth 20000 in
theorem b_Model_hasInLine_0 {C : jC} {d mc ms : Nat} {RT : Int → jG → jH → Prop} {P : jK} {G : jG} {σ : jH} {cs ss : Nat} {x0 : Int} {x1 : Int} {x2 : Int} (h :
  P 2 [some (vR x0), some (vI x1), some (vR x2), some (vI 0)] [] G σ cs ss) :
  jwp C d mc ms RT k_Model_hasInLine j0 q_Model_hasInLine P 2 0 [some (vR x0), some (vI x1), some (vR x2), none] [] G σ cs ss := h
set_option maxRecDepth 20000 in
theorem b_Model_hasInLine_2 {C : jC} {d mc ms : Nat} {RT : Int → jG → jH → Prop} {P : jK} {G : jG} {σ : jH} {cs ss : Nat} {x0 : Int} {x1 : Int} {x2 : Int} {x3 : Int} (h :
  (G.2.1 x0).1 = 20 ∧
  (G.2.1 x0).1 = 20 ∧
  (G.2.1 (G.2.2 x0 4)).1 = 1 ∧ (0 : Int) ≤ (σ x0 30) ∧ (σ x0 30) < (G.2.1 (G.2.2 x0 4)).2 ∧
  (((σ (G.2.2 x0 4) (σ x0 30)) ≤ x3 →
    ((0 : Int) = 0 ∨ (0 : Int) = 1) ∧ RT 0 G σ) ∧
  (x3 < (σ (G.2.2 x0 4) (σ x0 30)) →
    (G.2.1 x2).1 = 3 ∧ (0 : Int) ≤ x3 ∧ x3 < (G.2.1 x2).2 ∧
    (((σ x2 x3) = 0 →
      P 2 [some (vR x0), some (vI x1), some (vR x2), some (vI (w32 (x3 + 1)))] [] G σ cs ss) ∧
    ((σ x2 x3) ≠ 0 →
      (G.2.1 x0).1 = 20 ∧
      (G.2.1 x0).1 = 20 ∧
      (G.2.1 (G.2.2 x0 6)).1 = 1 ∧ (0 : Int) ≤ (w32 ((w32 (340 * (σ x0 30))) + x3)) ∧ (w32 ((w32 (340 * (σ x0 30))) + x3)) < (G.2.1 (G.2.2 x0 6)).2 ∧
      (G.2.1 x0).1 = 20 ∧
      (G.2.1 x0).1 = 20 ∧
      (G.2.1 (G.2.2 x0 6)).1 = 1 ∧ (0 : Int) ≤ (w32 ((w32 (340 * (σ x0 30))) + x1)) ∧ (w32 ((w32 (340 * (σ x0 30))) + x1)) < (G.2.1 (G.2.2 x0 6)).2 ∧
      (((σ (G.2.2 x0 6) (w32 ((w32 (340 * (σ x0 30))) + x3))) ≠ (σ (G.2.2 x0 6) (w32 ((w32 (340 * (σ x0 30))) + x1))) →
        P 2 [some (vR x0), some (vI x1), some (vR x2), some (vI (w32 (x3 + 1)))] [] G σ cs ss) ∧
      ((σ (G.2.2 x0 6) (w32 ((w32 (340 * (σ x0 30))) + x3))) = (σ (G.2.2 x0 6) (w32 ((w32 (340 * (σ x0 30))) + x1))) →
        ((1 : Int) = 0 ∨ (1 : Int) = 1) ∧ RT 1 G σ))))))) :
  jwp C d mc ms RT k_Model_hasInLine j0 q_Model_hasInLine P 32 2 [some (vR x0), some (vI x1), some (vR x2), some (vI x3)] [] G σ cs ss := h

def q_Model_answer : List (Nat × List Bool) := []
set_option maxRecDepth 20000 in
theorem b_Model_answer_0 {C : jC} {d mc ms : Nat} {RT : Int → jG → jH → Prop} {P : jK} {G : jG} {σ : jH} {cs ss : Nat} {x0 : Int} {x1 : Int} {x2 : Int} (h :
  (G.2.1 x0).1 = 20 ∧
  cN C.1 d m_Model_in [vL x1, vL 0, vL (w32 ((σ x0 33) - 1))] G σ (fun (r1 : Int) (σ1 : jH) =>
  ((r1 = 0 →
    RT (-2000000000) G σ1) ∧
  (r1 ≠ 0 →
    cN C.1 d m_Model_in [vL x2, vL 0, vL 2] G σ1 (fun (r2 : Int) (σ2 : jH) =>
    ((r2 = 0 →
      RT (-2000000000) G σ2) ∧
    (r2 ≠ 0 →
      (G.2.1 x0).1 = 20 ∧
      (G.2.1 (G.2.2 x0 32)).1 = 1 ∧ (0 : Int) ≤ (w32 ((w32 (3 * x1)) + x2)) ∧ (w32 ((w32 (3 * x1)) + x2)) < (G.2.1 (G.2.2 x0 32)).2 ∧
      RT (σ2 (G.2.2 x0 32) (w32 ((w32 (3 * x1)) + x2))) G σ2))))))) :
  jwp C d mc ms RT k_Model_answer j0 q_Model_answer P 26 0 [some (vR x0), some (vI x1), some (vI x2)] [] G σ cs ss := h

def q_Model_stands : List (Nat × List Bool) := [(27, [true, true, true, false, true, true])]
set_option maxRecDepth 20000 in
theorem b_Model_stands_0 {C : jC} {d mc ms : Nat} {RT : Int → jG → jH → Prop} {P : jK} {G : jG} {σ : jH} {cs ss : Nat} {x0 : Int} {x1 : Int} {x2 : Int} {x3 : Int} (h :
  cN C.1 d m_Model_isEdition [vI x1] G σ (fun (r1 : Int) (σ1 : jH) =>
  ((r1 = 0 →
    RT (-1) G σ1) ∧
  (r1 ≠ 0 →
    (G.2.1 x0).1 = 20 ∧
    cN C.1 d m_Model_isForm [vR x0, vI x2] G σ1 (fun (r2 : Int) (σ2 : jH) =>
    ((r2 = 0 →
      RT (-1) G σ2) ∧
    (r2 ≠ 0 →
      (((0 : Int) ≤ x3 →
        P 27 [some (vR x0), some (vI x1), some (vI x2), none, some (vI x3), some (vI 0)] [] G σ2 cs ss) ∧
      (x3 < 0 →
        RT (-1) G σ2))))))))) :
  jwp C d mc ms RT k_Model_stands j0 q_Model_stands P 13 0 [some (vR x0), some (vI x1), some (vI x2), some (vI x3), none, none] [] G σ cs ss := h
set_option maxRecDepth 20000 in
theorem b_Model_stands_27 {C : jC} {d mc ms : Nat} {RT : Int → jG → jH → Prop} {P : jK} {G : jG} {σ : jH} {cs ss : Nat} {x0 : Int} {x1 : Int} {x2 : Int} {x4 : Int} {x5 : Int} (h :
  (G.2.1 x0).1 = 20 ∧
  (G.2.1 (G.2.2 x0 4)).1 = 1 ∧ (0 : Int) ≤ x1 ∧ x1 < (G.2.1 (G.2.2 x0 4)).2 ∧
  (((σ (G.2.2 x0 4) x1) ≤ x5 →
    RT (-1) G σ) ∧
  (x5 < (σ (G.2.2 x0 4) x1) →
    (G.2.1 x0).1 = 20 ∧
    (G.2.1 (G.2.2 x0 5)).1 = 1 ∧ (0 : Int) ≤ (w32 ((w32 (340 * x1)) + x5)) ∧ (w32 ((w32 (340 * x1)) + x5)) < (G.2.1 (G.2.2 x0 5)).2 ∧
    (((σ (G.2.2 x0 5) (w32 ((w32 (340 * x1)) + x5))) = x2 →
      ((x4 ≠ 0 →
        P 27 [some (vR x0), some (vI x1), some (vI x2), none, some (vI (w32 (x4 + (-1)))), some (vI (w32 (x5 + 1)))] [] G σ cs ss) ∧
      (x4 = 0 →
        RT x5 G σ))) ∧
    ((σ (G.2.2 x0 5) (w32 ((w32 (340 * x1)) + x5))) ≠ x2 →
      P 27 [some (vR x0), some (vI x1), some (vI x2), none, some (vI x4), some (vI (w32 (x5 + 1)))] [] G σ cs ss))))) :
  jwp C d mc ms RT k_Model_stands j0 q_Model_stands P 21 27 [some (vR x0), some (vI x1), some (vI x2), none, some (vI x4), some (vI x5)] [] G σ cs ss := h

def q_Model_pack : List (Nat × List Bool) := []
set_option maxRecDepth 20000 in
theorem b_Model_pack_0 {C : jC} {d mc ms : Nat} {RT : Int → jG → jH → Prop} {P : jK} {G : jG} {σ : jH} {cs ss : Nat} {x0 : Int} {x1 : Int} {x2 : Int} {x3 : Int} (h :
  cN C.1 d m_Model_isEdition [vI x1] G σ (fun (r1 : Int) (σ1 : jH) =>
  ((r1 = 0 →
    RT (-2) G σ1) ∧
  (r1 ≠ 0 →
    (G.2.1 x0).1 = 20 ∧
    cN C.1 d m_Model_isForm [vR x0, vI x2] G σ1 (fun (r2 : Int) (σ2 : jH) =>
    ((r2 = 0 →
      RT (-2) G σ2) ∧
    (r2 ≠ 0 →
      cN C.1 d m_Model_in [vL x3, vL (-1), vL 10] G σ2 (fun (r3 : Int) (σ3 : jH) =>
      ((r3 ≠ 0 →
        ((x3 ≠ (-1) →
          (G.2.1 x0).1 = 20 ∧
          cN C.1 d m_Model_packed [vR x0, vI x1, vI x2, vI x3] G σ3 (fun (r4 : Int) (σ4 : jH) =>
          RT r4 G σ4)) ∧
        (x3 = (-1) →
          (G.2.1 x0).1 = 20 ∧
          cN C.1 d m_Model_bestPacked [vR x0, vI x1, vI x2] G σ3 (fun (r5 : Int) (σ5 : jH) =>
          RT r5 G σ5)))) ∧
      (r3 = 0 →
        RT (-2) G σ3)))))))))) :
  jwp C d mc ms RT k_Model_pack j0 q_Model_pack P 22 0 [some (vR x0), some (vI x1), some (vI x2), some (vI x3)] [] G σ cs ss := h

def q_Model_bestPacked : List (Nat × List Bool) := [(11, [true, true, true, true, true])]
set_option maxRecDepth 20000 in
theorem b_Model_bestPacked_0 {C : jC} {d mc ms : Nat} {RT : Int → jG → jH → Prop} {P : jK} {G : jG} {σ : jH} {cs ss : Nat} {x0 : Int} {x1 : Int} {x2 : Int} (h :
  (G.2.1 x0).1 = 20 ∧
  cN C.1 d m_Model_packed [vR x0, vI x1, vI x2, vI 0] G σ (fun (r1 : Int) (σ1 : jH) =>
  P 11 [some (vR x0), some (vI x1), some (vI x2), some (vI r1), some (vI 1)] [] G σ1 cs ss)) :
  jwp C d mc ms RT k_Model_bestPacked j0 q_Model_bestPacked P 8 0 [some (vR x0), some (vI x1), some (vI x2), none, none] [] G σ cs ss := h
set_option maxRecDepth 20000 in
theorem b_Model_bestPacked_11 {C : jC} {d mc ms : Nat} {RT : Int → jG → jH → Prop} {P : jK} {G : jG} {σ : jH} {cs ss : Nat} {x0 : Int} {x1 : Int} {x2 : Int} {x3 : Int} {x4 : Int} (h :
  (((10 : Int) < x4 →
    RT x3 G σ) ∧
  (x4 ≤ 10 →
    (G.2.1 x0).1 = 20 ∧
    cN C.1 d m_Model_packed [vR x0, vI x1, vI x2, vI x4] G σ (fun (r1 : Int) (σ1 : jH) =>
    1 ≤ d ∧
    P 11 [some (vR x0), some (vI x1), some (vI x2), some (vI (min x3 r1)), some (vI (w32 (x4 + 1)))] [] G σ1 cs ss)))) :
  jwp C d mc ms RT k_Model_bestPacked j0 q_Model_bestPacked P 13 11 [some (vR x0), some (vI x1), some (vI x2), some (vI x3), some (vI x4)] [] G σ cs ss := h

def q_Model_packed : List (Nat × List Bool) := [(9, [true, true, true, true, true, true, true])]
set_option maxRecDepth 20000 in
theorem b_Model_packed_0 {C : jC} {d mc ms : Nat} {RT : Int → jG → jH → Prop} {P : jK} {G : jG} {σ : jH} {cs ss : Nat} {x0 : Int} {x1 : Int} {x2 : Int} {x3 : Int} (h :
  P 9 [some (vR x0), some (vI x1), some (vI x2), some (vI x3), some (vI 0), some (vI (-1)), some (vI 0)] [] G σ cs ss) :
  jwp C d mc ms RT k_Model_packed j0 q_Model_packed P 6 0 [some (vR x0), some (vI x1), some (vI x2), some (vI x3), none, none, none] [] G σ cs ss := h
set_option maxRecDepth 20000 in
theorem b_Model_packed_9 {C : jC} {d mc ms : Nat} {RT : Int → jG → jH → Prop} {P : jK} {G : jG} {σ : jH} {cs ss : Nat} {x0 : Int} {x1 : Int} {x2 : Int} {x3 : Int} {x4 : Int} {x5 : Int} {x6 : Int} (h :
  (G.2.1 x0).1 = 20 ∧
  (G.2.1 (G.2.2 x0 4)).1 = 1 ∧ (0 : Int) ≤ x1 ∧ x1 < (G.2.1 (G.2.2 x0 4)).2 ∧
  (((σ (G.2.2 x0 4) x1) ≤ x6 →
    RT x4 G σ) ∧
  (x6 < (σ (G.2.2 x0 4) x1) →
    (G.2.1 x0).1 = 20 ∧
    (G.2.1 (G.2.2 x0 5)).1 = 1 ∧ (0 : Int) ≤ (w32 ((w32 (340 * x1)) + x6)) ∧ (w32 ((w32 (340 * x1)) + x6)) < (G.2.1 (G.2.2 x0 5)).2 ∧
    (((σ (G.2.2 x0 5) (w32 ((w32 (340 * x1)) + x6))) = x2 →
      P 9 [some (vR x0), some (vI x1), some (vI x2), some (vI x3), some (vI (w32 (x4 + (w32 ((w32 ((jshr32 (w32 ((w32 (x6 - x5)) - 1)) x3) + 1)) + x3))))), some (vI x6), some (vI (w32 (x6 + 1)))] [] G σ cs ss) ∧
    ((σ (G.2.2 x0 5) (w32 ((w32 (340 * x1)) + x6))) ≠ x2 →
      P 9 [some (vR x0), some (vI x1), some (vI x2), some (vI x3), some (vI x4), some (vI x5), some (vI (w32 (x6 + 1)))] [] G σ cs ss))))) :
  jwp C d mc ms RT k_Model_packed j0 q_Model_packed P 34 9 [some (vR x0), some (vI x1), some (vI x2), some (vI x3), some (vI x4), some (vI x5), some (vI x6)] [] G σ cs ss := h

def q_Model_room : List (Nat × List Bool) := [(14, [true, true, true, true])]
set_option maxRecDepth 20000 in
theorem b_Model_room_0 {C : jC} {d mc ms : Nat} {RT : Int → jG → jH → Prop} {P : jK} {G : jG} {σ : jH} {cs ss : Nat} {x0 : Int} {x1 : Int} (h :
  cN C.1 d m_Model_isEdition [vI x1] G σ (fun (r1 : Int) (σ1 : jH) =>
  ((r1 ≠ 0 →
    P 14 [some (vR x0), some (vI x1), some (vI 0), some (vI 0)] [] G σ1 cs ss) ∧
  (r1 = 0 →
    RT (-2) G σ1)))) :
  jwp C d mc ms RT k_Model_room j0 q_Model_room P 7 0 [some (vR x0), some (vI x1), none, none] [] G σ cs ss := h
set_option maxRecDepth 20000 in
theorem b_Model_room_14 {C : jC} {d mc ms : Nat} {RT : Int → jG → jH → Prop} {P : jK} {G : jG} {σ : jH} {cs ss : Nat} {x0 : Int} {x1 : Int} {x2 : Int} {x3 : Int} (h :
  (G.2.1 x0).1 = 20 ∧
  (((σ x0 10) ≤ x3 →
    RT x2 G σ) ∧
  (x3 < (σ x0 10) →
    (G.2.1 x0).1 = 20 ∧
    cN C.1 d m_Model_bestPacked [vR x0, vI x1, vI x3] G σ (fun (r1 : Int) (σ1 : jH) =>
    P 14 [some (vR x0), some (vI x1), some (vI (w32 (x2 + r1))), some (vI (w32 (x3 + 1)))] [] G σ1 cs ss)))) :
  jwp C d mc ms RT k_Model_room j0 q_Model_room P 13 14 [some (vR x0), some (vI x1), some (vI x2), some (vI x3)] [] G σ cs ss := h

def q_Model_shares : List (Nat × List Bool) := [(24, [true, true, true, true, false, false]), (45, [true, true, true, true, false, false]), (87, [true, true, true, true, true, false]), (115, [true, true, true, true, false, false]), (138, [true, true, true, true, true, true]), (153, [true, true, true, true, true, true])]
set_option maxRecDepth 20000 in
theorem b_Model_shares_0 {C : jC} {d mc ms : Nat} {RT : Int → jG → jH → Prop} {P : jK} {G : jG} {σ : jH} {cs ss : Nat} {x0 : Int} {x1 : Int} {x2 : Int} (h :
  cN C.1 d m_Model_isEdition [vI x1] G σ (fun (r1 : Int) (σ1 : jH) =>
  ((r1 = 0 →
    RT (-2) G σ1) ∧
  (r1 ≠ 0 →
    cN C.1 d m_Model_in [vL x2, vL 1, vL 8] G σ1 (fun (r2 : Int) (σ2 : jH) =>
    ((r2 ≠ 0 →
      P 24 [some (vR x0), some (vI x1), some (vI x2), some (vI 0), none, none] [] G σ2 cs ss) ∧
    (r2 = 0 →
      RT (-2) G σ2))))))) :
  jwp C d mc ms RT k_Model_shares j0 q_Model_shares P 11 0 [some (vR x0), some (vI x1), some (vI x2), none, none, none] [] G σ cs ss := h
set_option maxRecDepth 20000 in
theorem b_Model_shares_24 {C : jC} {d mc ms : Nat} {RT : Int → jG → jH → Prop} {P : jK} {G : jG} {σ : jH} {cs ss : Nat} {x0 : Int} {x1 : Int} {x2 : Int} {x3 : Int} (h :
  (((40 : Int) ≤ x3 →
    P 45 [some (vR x0), some (vI x1), some (vI x2), some (vI 0), none, none] [] G σ cs ss) ∧
  (x3 < 40 →
    (G.2.1 x0).1 = 20 ∧
    (G.2.1 (G.2.2 x0 34)).1 = 1 ∧ (0 : Int) ≤ x3 ∧ x3 < (G.2.1 (G.2.2 x0 34)).2 ∧
    P 24 [some (vR x0), some (vI x1), some (vI x2), some (vI (w32 (x3 + 1))), none, none] [] G (ju σ (G.2.2 x0 34) x3 0) cs ss))) :
  jwp C d mc ms RT k_Model_shares j0 q_Model_shares P 10 24 [some (vR x0), some (vI x1), some (vI x2), some (vI x3), none, none] [] G σ cs ss := h
set_option maxRecDepth 20000 in
theorem b_Model_shares_45 {C : jC} {d mc ms : Nat} {RT : Int → jG → jH → Prop} {P : jK} {G : jG} {σ : jH} {cs ss : Nat} {x0 : Int} {x1 : Int} {x2 : Int} {x3 : Int} (h :
  (G.2.1 x0).1 = 20 ∧
  (G.2.1 (G.2.2 x0 4)).1 = 1 ∧ (0 : Int) ≤ x1 ∧ x1 < (G.2.1 (G.2.2 x0 4)).2 ∧
  (((σ (G.2.2 x0 4) x1) ≤ x3 →
    P 87 [some (vR x0), some (vI x1), some (vI x2), some (vI 0), some (vI 0), none] [] G σ cs ss) ∧
  (x3 < (σ (G.2.2 x0 4) x1) →
    (G.2.1 x0).1 = 20 ∧
    (G.2.1 x0).1 = 20 ∧
    (G.2.1 (G.2.2 x0 6)).1 = 1 ∧ (0 : Int) ≤ (w32 ((w32 (340 * x1)) + x3)) ∧ (w32 ((w32 (340 * x1)) + x3)) < (G.2.1 (G.2.2 x0 6)).2 ∧
    (G.2.1 (G.2.2 x0 34)).1 = 1 ∧ (0 : Int) ≤ (σ (G.2.2 x0 6) (w32 ((w32 (340 * x1)) + x3))) ∧ (σ (G.2.2 x0 6) (w32 ((w32 (340 * x1)) + x3))) < (G.2.1 (G.2.2 x0 34)).2 ∧
    (G.2.1 (G.2.2 x0 34)).1 = 1 ∧ (0 : Int) ≤ (σ (G.2.2 x0 6) (w32 ((w32 (340 * x1)) + x3))) ∧ (σ (G.2.2 x0 6) (w32 ((w32 (340 * x1)) + x3))) < (G.2.1 (G.2.2 x0 34)).2 ∧
    P 45 [some (vR x0), some (vI x1), some (vI x2), some (vI (w32 (x3 + 1))), none, none] [] G (ju σ (G.2.2 x0 34) (σ (G.2.2 x0 6) (w32 ((w32 (340 * x1)) + x3))) (w32 ((σ (G.2.2 x0 34) (σ (G.2.2 x0 6) (w32 ((w32 (340 * x1)) + x3)))) + 1))) cs ss))) :
  jwp C d mc ms RT k_Model_shares j0 q_Model_shares P 23 45 [some (vR x0), some (vI x1), some (vI x2), some (vI x3), none, none] [] G σ cs ss := h
set_option maxRecDepth 20000 in
theorem b_Model_shares_87 {C : jC} {d mc ms : Nat} {RT : Int → jG → jH → Prop} {P : jK} {G : jG} {σ : jH} {cs ss : Nat} {x0 : Int} {x1 : Int} {x2 : Int} {x3 : Int} {x4 : Int} (h :
  (G.2.1 x0).1 = 20 ∧
  cN C.1 d m_Model_linesOf [vR x0, vI x1] G σ (fun (r1 : Int) (σ1 : jH) =>
  ((r1 ≤ x4 →
    P 115 [some (vR x0), some (vI x1), some (vI x2), some (vI x3), none, none] [] G σ1 cs ss) ∧
  (x4 < r1 →
    (G.2.1 x0).1 = 20 ∧
    (G.2.1 (G.2.2 x0 34)).1 = 1 ∧ (0 : Int) ≤ x4 ∧ x4 < (G.2.1 (G.2.2 x0 34)).2 ∧
    1 ≤ d ∧
    P 87 [some (vR x0), some (vI x1), some (vI x2), some (vI (max x3 (σ1 (G.2.2 x0 34) x4))), some (vI (w32 (x4 + 1))), none] [] G σ1 cs ss)))) :
  jwp C d mc ms RT k_Model_shares j0 q_Model_shares P 14 87 [some (vR x0), some (vI x1), some (vI x2), some (vI x3), some (vI x4), none] [] G σ cs ss := h
set_option maxRecDepth 20000 in
theorem b_Model_shares_115 {C : jC} {d mc ms : Nat} {RT : Int → jG → jH → Prop} {P : jK} {G : jG} {σ : jH} {cs ss : Nat} {x0 : Int} {x1 : Int} {x2 : Int} {x3 : Int} (h :
  (G.2.1 x0).1 = 20 ∧
  cN C.1 d m_Model_handsFor [vR x0, vI x1, vI 0, vI x3] G σ (fun (r1 : Int) (σ1 : jH) =>
  ((r1 ≤ x2 →
    P 138 [some (vR x0), some (vI x1), some (vI x2), some (vI x3), some (vI 0), some (vI 0)] [] G σ1 cs ss) ∧
  (x2 < r1 →
    P 115 [some (vR x0), some (vI x1), some (vI x2), some (vI (w32 (x3 + 1))), none, none] [] G σ1 cs ss)))) :
  jwp C d mc ms RT k_Model_shares j0 q_Model_shares P 11 115 [some (vR x0), some (vI x1), some (vI x2), some (vI x3), none, none] [] G σ cs ss := h
set_option maxRecDepth 20000 in
theorem b_Model_shares_138 {C : jC} {d mc ms : Nat} {RT : Int → jG → jH → Prop} {P : jK} {G : jG} {σ : jH} {cs ss : Nat} {x0 : Int} {x1 : Int} {x2 : Int} {x3 : Int} {x4 : Int} {x5 : Int} (h :
  ((x2 ≤ x5 →
    (G.2.1 x0).1 = 20 ∧
    RT x3 G (ju σ x0 36 x2)) ∧
  (x5 < x2 →
    (G.2.1 x0).1 = 20 ∧
    (G.2.1 (G.2.2 x0 35)).1 = 1 ∧ (0 : Int) ≤ x5 ∧ x5 < (G.2.1 (G.2.2 x0 35)).2 ∧
    P 153 [some (vR x0), some (vI x1), some (vI x2), some (vI x3), some (vI x4), some (vI x5)] [] G (ju σ (G.2.2 x0 35) x5 x4) cs ss))) :
  jwp C d mc ms RT k_Model_shares j0 q_Model_shares P 8 138 [some (vR x0), some (vI x1), some (vI x2), some (vI x3), some (vI x4), some (vI x5)] [] G σ cs ss := h
set_option maxRecDepth 20000 in
theorem b_Model_shares_153 {C : jC} {d mc ms : Nat} {RT : Int → jG → jH → Prop} {P : jK} {G : jG} {σ : jH} {cs ss : Nat} {x0 : Int} {x1 : Int} {x2 : Int} {x3 : Int} {x4 : Int} {x5 : Int} (h :
  (G.2.1 x0).1 = 20 ∧
  cN C.1 d m_Model_handsFor [vR x0, vI x1, vI x4, vI x3] G σ (fun (r1 : Int) (σ1 : jH) =>
  ((r1 ≤ (w32 ((w32 (x2 - 1)) - x5)) →
    P 138 [some (vR x0), some (vI x1), some (vI x2), some (vI x3), some (vI x4), some (vI (w32 (x5 + 1)))] [] G σ1 cs ss) ∧
  ((w32 ((w32 (x2 - 1)) - x5)) < r1 →
    P 153 [some (vR x0), some (vI x1), some (vI x2), some (vI x3), some (vI (w32 (x4 + 1))), some (vI x5)] [] G σ1 cs ss)))) :
  jwp C d mc ms RT k_Model_shares j0 q_Model_shares P 13 153 [some (vR x0), some (vI x1), some (vI x2), some (vI x3), some (vI x4), some (vI x5)] [] G σ cs ss := h

def q_Model_handsFor : List (Nat × List Bool) := [(6, [true, true, false, true, true, true, false]), (19, [true, true, false, true, true, true, true])]
set_option maxRecDepth 20000 in
theorem b_Model_handsFor_0 {C : jC} {d mc ms : Nat} {RT : Int → jG → jH → Prop} {P : jK} {G : jG} {σ : jH} {cs ss : Nat} {x0 : Int} {x1 : Int} {x2 : Int} {x3 : Int} (h :
  P 6 [some (vR x0), some (vI x1), none, some (vI x3), some (vI 0), some (vI x2), none] [] G σ cs ss) :
  jwp C d mc ms RT k_Model_handsFor j0 q_Model_handsFor P 4 0 [some (vR x0), some (vI x1), some (vI x2), some (vI x3), none, none, none] [] G σ cs ss := h
set_option maxRecDepth 20000 in
theorem b_Model_handsFor_6 {C : jC} {d mc ms : Nat} {RT : Int → jG → jH → Prop} {P : jK} {G : jG} {σ : jH} {cs ss : Nat} {x0 : Int} {x1 : Int} {x3 : Int} {x4 : Int} {x5 : Int} (h :
  (G.2.1 x0).1 = 20 ∧
  cN C.1 d m_Model_linesOf [vR x0, vI x1] G σ (fun (r1 : Int) (σ1 : jH) =>
  ((r1 ≤ x5 →
    RT x4 G σ1) ∧
  (x5 < r1 →
    P 19 [some (vR x0), some (vI x1), none, some (vI x3), some (vI x4), some (vI x5), some (vI x3)] [] G σ1 cs ss)))) :
  jwp C d mc ms RT k_Model_handsFor j0 q_Model_handsFor P 7 6 [some (vR x0), some (vI x1), none, some (vI x3), some (vI x4), some (vI x5), none] [] G σ cs ss := h
set_option maxRecDepth 20000 in
theorem b_Model_handsFor_19 {C : jC} {d mc ms : Nat} {RT : Int → jG → jH → Prop} {P : jK} {G : jG} {σ : jH} {cs ss : Nat} {x0 : Int} {x1 : Int} {x3 : Int} {x4 : Int} {x5 : Int} {x6 : Int} (h :
  (G.2.1 x0).1 = 20 ∧
  cN C.1 d m_Model_linesOf [vR x0, vI x1] G σ (fun (r1 : Int) (σ1 : jH) =>
  ((r1 ≤ x5 →
    P 6 [some (vR x0), some (vI x1), none, some (vI x3), some (vI (w32 (x4 + 1))), some (vI x5), none] [] G σ1 cs ss) ∧
  (x5 < r1 →
    (G.2.1 x0).1 = 20 ∧
    (G.2.1 (G.2.2 x0 34)).1 = 1 ∧ (0 : Int) ≤ x5 ∧ x5 < (G.2.1 (G.2.2 x0 34)).2 ∧
    ((x6 < (σ1 (G.2.2 x0 34) x5) →
      P 6 [some (vR x0), some (vI x1), none, some (vI x3), some (vI (w32 (x4 + 1))), some (vI x5), none] [] G σ1 cs ss) ∧
    ((σ1 (G.2.2 x0 34) x5) ≤ x6 →
      (G.2.1 x0).1 = 20 ∧
      (G.2.1 (G.2.2 x0 34)).1 = 1 ∧ (0 : Int) ≤ x5 ∧ x5 < (G.2.1 (G.2.2 x0 34)).2 ∧
      P 19 [some (vR x0), some (vI x1), none, some (vI x3), some (vI x4), some (vI (w32 (x5 + 1))), some (vI (w32 (x6 - (σ1 (G.2.2 x0 34) x5))))] [] G σ1 cs ss)))))) :
  jwp C d mc ms RT k_Model_handsFor j0 q_Model_handsFor P 20 19 [some (vR x0), some (vI x1), none, some (vI x3), some (vI x4), some (vI x5), some (vI x6)] [] G σ cs ss := h

def q_Model_share : List (Nat × List Bool) := []
set_option maxRecDepth 20000 in
theorem b_Model_share_0 {C : jC} {d mc ms : Nat} {RT : Int → jG → jH → Prop} {P : jK} {G : jG} {σ : jH} {cs ss : Nat} {x0 : Int} {x1 : Int} (h :
  (G.2.1 x0).1 = 20 ∧
  cN C.1 d m_Model_in [vL x1, vL 0, vL (w32 ((σ x0 36) - 1))] G σ (fun (r1 : Int) (σ1 : jH) =>
  ((r1 = 0 →
    RT (-1) G σ1) ∧
  (r1 ≠ 0 →
    (G.2.1 x0).1 = 20 ∧
    (G.2.1 (G.2.2 x0 35)).1 = 1 ∧ (0 : Int) ≤ x1 ∧ x1 < (G.2.1 (G.2.2 x0 35)).2 ∧
    RT (σ1 (G.2.2 x0 35) x1) G σ1)))) :
  jwp C d mc ms RT k_Model_share j0 q_Model_share P 16 0 [some (vR x0), some (vI x1)] [] G σ cs ss := h

def q_Model_alike : List (Nat × List Bool) := []
set_option maxRecDepth 20000 in
theorem b_Model_alike_0 {C : jC} {d mc ms : Nat} {RT : Int → jG → jH → Prop} {P : jK} {G : jG} {σ : jH} {cs ss : Nat} {x0 : Int} (h :
  (G.2.1 x0).1 = 20 ∧
  cN C.1 d m_Model_likes [vR x0] G σ (fun (r1 : Int) (σ1 : jH) =>
  (G.2.1 x0).1 = 20 ∧
  (G.2.1 (G.2.2 x0 37)).1 = 1 ∧ (0 : Int) ≤ 0 ∧ 0 < (G.2.1 (G.2.2 x0 37)).2 ∧
  RT (σ1 (G.2.2 x0 37) 0) G σ1)) :
  jwp C d mc ms RT k_Model_alike j0 q_Model_alike P 7 0 [some (vR x0)] [] G σ cs ss := h

def q_Model_likes : List (Nat × List Bool) := [(7, [true, true, false, false]), (18, [true, true, true, false]), (116, [true, true, true, true])]
set_option maxRecDepth 20000 in
theorem b_Model_likes_0 {C : jC} {d mc ms : Nat} {RT : Int → jG → jH → Prop} {P : jK} {G : jG} {σ : jH} {cs ss : Nat} {x0 : Int} (h :
  (G.2.1 x0).1 = 20 ∧
  (G.2.1 (G.2.2 x0 4)).1 = 1 ∧ (0 : Int) ≤ 0 ∧ 0 < (G.2.1 (G.2.2 x0 4)).2 ∧
  P 7 [some (vR x0), some (vI (σ (G.2.2 x0 4) 0)), none, none] [] G σ cs ss) :
  jwp C d mc ms RT k_Model_likes j0 q_Model_likes P 5 0 [some (vR x0), none, none, none] [] G σ cs ss := h
set_option maxRecDepth 20000 in
theorem b_Model_likes_7 {C : jC} {d mc ms : Nat} {RT : Int → jG → jH → Prop} {P : jK} {G : jG} {σ : jH} {cs ss : Nat} {x0 : Int} {x1 : Int} (h :
  ((x1 < 0 →
    RT 0 G σ) ∧
  ((0 : Int) ≤ x1 →
    (G.2.1 x0).1 = 20 ∧
    (G.2.1 (G.2.2 x0 4)).1 = 1 ∧ (0 : Int) ≤ 1 ∧ 1 < (G.2.1 (G.2.2 x0 4)).2 ∧
    P 18 [some (vR x0), some (vI x1), some (vI (σ (G.2.2 x0 4) 1)), none] [] G σ cs ss))) :
  jwp C d mc ms RT k_Model_likes j0 q_Model_likes P 7 7 [some (vR x0), some (vI x1), none, none] [] G σ cs ss := h
set_option maxRecDepth 20000 in
theorem b_Model_likes_18 {C : jC} {d mc ms : Nat} {RT : Int → jG → jH → Prop} {P : jK} {G : jG} {σ : jH} {cs ss : Nat} {x0 : Int} {x1 : Int} {x2 : Int} (h :
  ((x2 < 0 →
    P 7 [some (vR x0), some (vI (w32 (x1 + (-1)))), none, none] [] G σ cs ss) ∧
  ((0 : Int) ≤ x2 →
    (G.2.1 x0).1 = 20 ∧
    (G.2.1 (G.2.2 x0 4)).1 = 1 ∧ (0 : Int) ≤ 0 ∧ 0 < (G.2.1 (G.2.2 x0 4)).2 ∧
    (((σ (G.2.2 x0 4) 0) ≤ x1 →
      P 116 [some (vR x0), some (vI x1), some (vI x2), some (vI 0)] [] G σ cs ss) ∧
    (x1 < (σ (G.2.2 x0 4) 0) →
      (G.2.1 x0).1 = 20 ∧
      (G.2.1 (G.2.2 x0 4)).1 = 1 ∧ (0 : Int) ≤ 1 ∧ 1 < (G.2.1 (G.2.2 x0 4)).2 ∧
      (((σ (G.2.2 x0 4) 1) ≤ x2 →
        P 116 [some (vR x0), some (vI x1), some (vI x2), some (vI 0)] [] G σ cs ss) ∧
      (x2 < (σ (G.2.2 x0 4) 1) →
        (G.2.1 x0).1 = 20 ∧
        (G.2.1 (G.2.2 x0 5)).1 = 1 ∧ (0 : Int) ≤ x1 ∧ x1 < (G.2.1 (G.2.2 x0 5)).2 ∧
        (G.2.1 x0).1 = 20 ∧
        (G.2.1 (G.2.2 x0 5)).1 = 1 ∧ (0 : Int) ≤ (w32 (340 + x2)) ∧ (w32 (340 + x2)) < (G.2.1 (G.2.2 x0 5)).2 ∧
        (((σ (G.2.2 x0 5) x1) ≠ (σ (G.2.2 x0 5) (w32 (340 + x2))) →
          (G.2.1 x0).1 = 20 ∧
          (G.2.1 (G.2.2 x0 37)).1 = 1 ∧ (0 : Int) ≤ (w32 ((w32 (301 * (w32 (x1 + 1)))) + x2)) ∧ (w32 ((w32 (301 * (w32 (x1 + 1)))) + x2)) < (G.2.1 (G.2.2 x0 37)).2 ∧
          (G.2.1 x0).1 = 20 ∧
          (G.2.1 (G.2.2 x0 37)).1 = 1 ∧ (0 : Int) ≤ (w32 ((w32 ((w32 (301 * x1)) + x2)) + 1)) ∧ (w32 ((w32 ((w32 (301 * x1)) + x2)) + 1)) < (G.2.1 (G.2.2 x0 37)).2 ∧
          1 ≤ d ∧
          P 116 [some (vR x0), some (vI x1), some (vI x2), some (vI (max (σ (G.2.2 x0 37) (w32 ((w32 (301 * (w32 (x1 + 1)))) + x2))) (σ (G.2.2 x0 37) (w32 ((w32 ((w32 (301 * x1)) + x2)) + 1)))))] [] G σ cs ss) ∧
        ((σ (G.2.2 x0 5) x1) = (σ (G.2.2 x0 5) (w32 (340 + x2))) →
          (G.2.1 x0).1 = 20 ∧
          (G.2.1 (G.2.2 x0 37)).1 = 1 ∧ (0 : Int) ≤ (w32 ((w32 ((w32 (301 * (w32 (x1 + 1)))) + x2)) + 1)) ∧ (w32 ((w32 ((w32 (301 * (w32 (x1 + 1)))) + x2)) + 1)) < (G.2.1 (G.2.2 x0 37)).2 ∧
          P 116 [some (vR x0), some (vI x1), some (vI x2), some (vI (w32 (1 + (σ (G.2.2 x0 37) (w32 ((w32 ((w32 (301 * (w32 (x1 + 1)))) + x2)) + 1))))))] [] G σ cs ss))))))))) :
  jwp C d mc ms RT k_Model_likes j0 q_Model_likes P 49 18 [some (vR x0), some (vI x1), some (vI x2), none] [] G σ cs ss := h
set_option maxRecDepth 20000 in
theorem b_Model_likes_116 {C : jC} {d mc ms : Nat} {RT : Int → jG → jH → Prop} {P : jK} {G : jG} {σ : jH} {cs ss : Nat} {x0 : Int} {x1 : Int} {x2 : Int} {x3 : Int} (h :
  (G.2.1 x0).1 = 20 ∧
  (G.2.1 (G.2.2 x0 37)).1 = 1 ∧ (0 : Int) ≤ (w32 ((w32 (301 * x1)) + x2)) ∧ (w32 ((w32 (301 * x1)) + x2)) < (G.2.1 (G.2.2 x0 37)).2 ∧
  P 18 [some (vR x0), some (vI x1), some (vI (w32 (x2 + (-1)))), none] [] G (ju σ (G.2.2 x0 37) (w32 ((w32 (301 * x1)) + x2)) x3) cs ss) :
  jwp C d mc ms RT k_Model_likes j0 q_Model_likes P 11 116 [some (vR x0), some (vI x1), some (vI x2), some (vI x3)] [] G σ cs ss := h

def q_Model_matched : List (Nat × List Bool) := [(19, [true, true, true, true, false]), (72, [true, true, true, true, true])]
set_option maxRecDepth 20000 in
theorem b_Model_matched_0 {C : jC} {d mc ms : Nat} {RT : Int → jG → jH → Prop} {P : jK} {G : jG} {σ : jH} {cs ss : Nat} {x0 : Int} {x1 : Int} (h :
  (G.2.1 x0).1 = 20 ∧
  cN C.1 d m_Model_isWord [vR x0, vI 0, vI x1] G σ (fun (r1 : Int) (σ1 : jH) =>
  ((r1 ≠ 0 →
    (G.2.1 x0).1 = 20 ∧
    cN C.1 d m_Model_likes [vR x0] G σ1 (fun (r2 : Int) (σ2 : jH) =>
    P 19 [some (vR x0), some (vI x1), some (vI 0), some (vI 0), none] [] G σ2 cs ss)) ∧
  (r1 = 0 →
    RT (-1) G σ1)))) :
  jwp C d mc ms RT k_Model_matched j0 q_Model_matched P 11 0 [some (vR x0), some (vI x1), none, none, none] [] G σ cs ss := h
set_option maxRecDepth 20000 in
theorem b_Model_matched_19 {C : jC} {d mc ms : Nat} {RT : Int → jG → jH → Prop} {P : jK} {G : jG} {σ : jH} {cs ss : Nat} {x0 : Int} {x1 : Int} {x2 : Int} {x3 : Int} (h :
  ((x1 < x2 →
    RT (-1) G σ) ∧
  (x2 ≤ x1 →
    (G.2.1 x0).1 = 20 ∧
    (G.2.1 (G.2.2 x0 4)).1 = 1 ∧ (0 : Int) ≤ 1 ∧ 1 < (G.2.1 (G.2.2 x0 4)).2 ∧
    (((σ (G.2.2 x0 4) 1) ≤ x3 →
      RT (-1) G σ) ∧
    (x3 < (σ (G.2.2 x0 4) 1) →
      (G.2.1 x0).1 = 20 ∧
      (G.2.1 (G.2.2 x0 5)).1 = 1 ∧ (0 : Int) ≤ x2 ∧ x2 < (G.2.1 (G.2.2 x0 5)).2 ∧
      (G.2.1 x0).1 = 20 ∧
      (G.2.1 (G.2.2 x0 5)).1 = 1 ∧ (0 : Int) ≤ (w32 (340 + x3)) ∧ (w32 (340 + x3)) < (G.2.1 (G.2.2 x0 5)).2 ∧
      (((σ (G.2.2 x0 5) x2) ≠ (σ (G.2.2 x0 5) (w32 (340 + x3))) →
        (((0 : Int) = 0 →
          P 72 [some (vR x0), some (vI x1), some (vI x2), some (vI x3), some (vI 0)] [] G σ cs ss) ∧
        ((0 : Int) ≠ 0 →
          ((x2 ≠ x1 →
            P 72 [some (vR x0), some (vI x1), some (vI x2), some (vI x3), some (vI 0)] [] G σ cs ss) ∧
          (x2 = x1 →
            RT x3 G σ))))) ∧
      ((σ (G.2.2 x0 5) x2) = (σ (G.2.2 x0 5) (w32 (340 + x3))) →
        (((1 : Int) = 0 →
          P 72 [some (vR x0), some (vI x1), some (vI x2), some (vI x3), some (vI 1)] [] G σ cs ss) ∧
        ((1 : Int) ≠ 0 →
          ((x2 ≠ x1 →
            P 72 [some (vR x0), some (vI x1), some (vI x2), some (vI x3), some (vI 1)] [] G σ cs ss) ∧
          (x2 = x1 →
            RT x3 G σ))))))))))) :
  jwp C d mc ms RT k_Model_matched j0 q_Model_matched P 30 19 [some (vR x0), some (vI x1), some (vI x2), some (vI x3), none] [] G σ cs ss := h
set_option maxRecDepth 20000 in
theorem b_Model_matched_72 {C : jC} {d mc ms : Nat} {RT : Int → jG → jH → Prop} {P : jK} {G : jG} {σ : jH} {cs ss : Nat} {x0 : Int} {x1 : Int} {x2 : Int} {x3 : Int} {x4 : Int} (h :
  ((x4 = 0 →
    (G.2.1 x0).1 = 20 ∧
    (G.2.1 (G.2.2 x0 37)).1 = 1 ∧ (0 : Int) ≤ (w32 ((w32 (301 * (w32 (x2 + 1)))) + x3)) ∧ (w32 ((w32 (301 * (w32 (x2 + 1)))) + x3)) < (G.2.1 (G.2.2 x0 37)).2 ∧
    (G.2.1 x0).1 = 20 ∧
    (G.2.1 (G.2.2 x0 37)).1 = 1 ∧ (0 : Int) ≤ (w32 ((w32 (301 * x2)) + x3)) ∧ (w32 ((w32 (301 * x2)) + x3)) < (G.2.1 (G.2.2 x0 37)).2 ∧
    (((σ (G.2.2 x0 37) (w32 ((w32 (301 * (w32 (x2 + 1)))) + x3))) ≠ (σ (G.2.2 x0 37) (w32 ((w32 (301 * x2)) + x3))) →
      P 19 [some (vR x0), some (vI x1), some (vI x2), some (vI (w32 (x3 + 1))), none] [] G σ cs ss) ∧
    ((σ (G.2.2 x0 37) (w32 ((w32 (301 * (w32 (x2 + 1)))) + x3))) = (σ (G.2.2 x0 37) (w32 ((w32 (301 * x2)) + x3))) →
      P 19 [some (vR x0), some (vI x1), some (vI (w32 (x2 + 1))), some (vI x3), none] [] G σ cs ss))) ∧
  (x4 ≠ 0 →
    P 19 [some (vR x0), some (vI x1), some (vI (w32 (x2 + 1))), some (vI (w32 (x3 + 1))), none] [] G σ cs ss))) :
  jwp C d mc ms RT k_Model_matched j0 q_Model_matched P 24 72 [some (vR x0), some (vI x1), some (vI x2), some (vI x3), some (vI x4)] [] G σ cs ss := h

def q_Model_slip : List (Nat × List Bool) := [(48, [true, true, true, true, true, true, false]), (77, [true, true, true, true, true, false, false]), (103, [true, true, true, true, false, true, true])]
set_option maxRecDepth 20000 in
theorem b_Model_slip_0 {C : jC} {d mc ms : Nat} {RT : Int → jG → jH → Prop} {P : jK} {G : jG} {σ : jH} {cs ss : Nat} {x0 : Int} {x1 : Int} {x2 : Int} (h :
  cN C.1 d m_Model_in [vL x1, vL 0, vL 3] G σ (fun (r1 : Int) (σ1 : jH) =>
  ((r1 = 0 →
    RT (-2) G σ1) ∧
  (r1 ≠ 0 →
    (G.2.1 x0).1 = 20 ∧
    cN C.1 d m_Model_isWord [vR x0, vI 0, vI x2] G σ1 (fun (r2 : Int) (σ2 : jH) =>
    ((r2 ≠ 0 →
      (G.2.1 x0).1 = 20 ∧
      (G.2.1 x0).1 = 20 ∧
      cN C.1 d m_Model_in [vL (σ2 x0 15), vL 1, vL 20] G (ju σ2 x0 15 0) (fun (r3 : Int) (σ3 : jH) =>
      P 48 [some (vR x0), some (vI x1), some (vI x2), some (vI (σ2 x0 15)), some (vI r3), some (vI 0), none] [] G σ3 cs ss)) ∧
    (r2 = 0 →
      RT (-2) G σ2))))))) :
  jwp C d mc ms RT k_Model_slip j0 q_Model_slip P 25 0 [some (vR x0), some (vI x1), some (vI x2), none, none, none, none] [] G σ cs ss := h
set_option maxRecDepth 20000 in
theorem b_Model_slip_48 {C : jC} {d mc ms : Nat} {RT : Int → jG → jH → Prop} {P : jK} {G : jG} {σ : jH} {cs ss : Nat} {x0 : Int} {x1 : Int} {x2 : Int} {x3 : Int} {x4 : Int} {x5 : Int} (h :
  ((x3 ≤ x5 →
    P 77 [some (vR x0), some (vI x1), some (vI x2), some (vI x3), some (vI x4), none, none] [] G σ cs ss) ∧
  (x5 < x3 →
    ((x4 = 0 →
      P 77 [some (vR x0), some (vI x1), some (vI x2), some (vI x3), some (vI x4), none, none] [] G σ cs ss) ∧
    (x4 ≠ 0 →
      (G.2.1 x0).1 = 20 ∧
      (G.2.1 (G.2.2 x0 14)).1 = 2 ∧ (0 : Int) ≤ x5 ∧ x5 < (G.2.1 (G.2.2 x0 14)).2 ∧
      cN C.1 d m_Model_isLetter [vI (σ (G.2.2 x0 14) x5)] G σ (fun (r1 : Int) (σ1 : jH) =>
      P 48 [some (vR x0), some (vI x1), some (vI x2), some (vI x3), some (vI r1), some (vI (w32 (x5 + 1))), none] [] G σ1 cs ss)))))) :
  jwp C d mc ms RT k_Model_slip j0 q_Model_slip P 13 48 [some (vR x0), some (vI x1), some (vI x2), some (vI x3), some (vI x4), some (vI x5), none] [] G σ cs ss := h
set_option maxRecDepth 20000 in
theorem b_Model_slip_77 {C : jC} {d mc ms : Nat} {RT : Int → jG → jH → Prop} {P : jK} {G : jG} {σ : jH} {cs ss : Nat} {x0 : Int} {x1 : Int} {x2 : Int} {x3 : Int} {x4 : Int} (h :
  ((x4 ≠ 0 →
    cN C.1 d m_Model_slipAt [vI x1, vI x2] G σ (fun (r1 : Int) (σ1 : jH) =>
    (G.2.1 x0).1 = 20 ∧
    (G.2.1 (G.2.2 x0 1)).1 = 1 ∧ (0 : Int) ≤ r1 ∧ r1 < (G.2.1 (G.2.2 x0 1)).2 ∧
    P 103 [some (vR x0), some (vI x1), some (vI x2), some (vI x3), none, some (vI r1), some (vI 0)] [] G (ju σ1 (G.2.2 x0 1) r1 x3) cs ss)) ∧
  (x4 = 0 →
    RT (-4) G σ))) :
  jwp C d mc ms RT k_Model_slip j0 q_Model_slip P 13 77 [some (vR x0), some (vI x1), some (vI x2), some (vI x3), some (vI x4), none, none] [] G σ cs ss := h
set_option maxRecDepth 20000 in
theorem b_Model_slip_103 {C : jC} {d mc ms : Nat} {RT : Int → jG → jH → Prop} {P : jK} {G : jG} {σ : jH} {cs ss : Nat} {x0 : Int} {x1 : Int} {x2 : Int} {x3 : Int} {x5 : Int} {x6 : Int} (h :
  ((x3 ≤ x6 →
    (G.2.1 x0).1 = 20 ∧
    cN C.1 d m_Model_isRight [vR x0, vI x1, vI x2] G σ (fun (r1 : Int) (σ1 : jH) =>
    ((r1 = 0 →
      RT 0 G σ1) ∧
    (r1 ≠ 0 →
      RT 1 G σ1)))) ∧
  (x6 < x3 →
    (G.2.1 x0).1 = 20 ∧
    (G.2.1 x0).1 = 20 ∧
    (G.2.1 (G.2.2 x0 14)).1 = 2 ∧ (0 : Int) ≤ x6 ∧ x6 < (G.2.1 (G.2.2 x0 14)).2 ∧
    (G.2.1 (G.2.2 x0 1)).1 = 1 ∧ (0 : Int) ≤ (w32 ((w32 (x5 + 1)) + x6)) ∧ (w32 ((w32 (x5 + 1)) + x6)) < (G.2.1 (G.2.2 x0 1)).2 ∧
    P 103 [some (vR x0), some (vI x1), some (vI x2), some (vI x3), none, some (vI x5), some (vI (w32 (x6 + 1)))] [] G (ju σ (G.2.2 x0 1) (w32 ((w32 (x5 + 1)) + x6)) (w32 ((σ (G.2.2 x0 14) x6) - 97))) cs ss))) :
  jwp C d mc ms RT k_Model_slip j0 q_Model_slip P 19 103 [some (vR x0), some (vI x1), some (vI x2), some (vI x3), none, some (vI x5), some (vI x6)] [] G σ cs ss := h

def q_Model_slipAt : List (Nat × List Bool) := []
set_option maxRecDepth 20000 in
theorem b_Model_slipAt_0 {C : jC} {d mc ms : Nat} {RT : Int → jG → jH → Prop} {P : jK} {G : jG} {σ : jH} {cs ss : Nat} {x0 : Int} {x1 : Int} (h :
  RT (w32 (7477 + (w32 (21 * (w32 ((w32 (300 * x0)) + x1)))))) G σ) :
  jwp C d mc ms RT k_Model_slipAt j0 q_Model_slipAt P 10 0 [some (vI x0), some (vI x1)] [] G σ cs ss := h

def q_Model_isRight : List (Nat × List Bool) := []
set_option maxRecDepth 20000 in
theorem b_Model_isRight_0 {C : jC} {d mc ms : Nat} {RT : Int → jG → jH → Prop} {P : jK} {G : jG} {σ : jH} {cs ss : Nat} {x0 : Int} {x1 : Int} {x2 : Int} (h :
  (G.2.1 x0).1 = 20 ∧
  (G.2.1 (G.2.2 x0 4)).1 = 1 ∧ (0 : Int) ≤ 0 ∧ 0 < (G.2.1 (G.2.2 x0 4)).2 ∧
  (((σ (G.2.2 x0 4) 0) ≤ x2 →
    ((0 : Int) = 0 ∨ (0 : Int) = 1) ∧ RT 0 G σ) ∧
  (x2 < (σ (G.2.2 x0 4) 0) →
    (G.2.1 x0).1 = 20 ∧
    cN C.1 d m_Model_slipForm [vR x0, vI x1, vI x2] G σ (fun (r1 : Int) (σ1 : jH) =>
    (G.2.1 x0).1 = 20 ∧
    (G.2.1 (G.2.2 x0 5)).1 = 1 ∧ (0 : Int) ≤ x2 ∧ x2 < (G.2.1 (G.2.2 x0 5)).2 ∧
    ((r1 ≠ (σ1 (G.2.2 x0 5) x2) →
      ((0 : Int) = 0 ∨ (0 : Int) = 1) ∧ RT 0 G σ1) ∧
    (r1 = (σ1 (G.2.2 x0 5) x2) →
      ((1 : Int) = 0 ∨ (1 : Int) = 1) ∧ RT 1 G σ1)))))) :
  jwp C d mc ms RT k_Model_isRight j0 q_Model_isRight P 18 0 [some (vR x0), some (vI x1), some (vI x2)] [] G σ cs ss := h

def q_Model_slipForm : List (Nat × List Bool) := []
set_option maxRecDepth 20000 in
theorem b_Model_slipForm_0 {C : jC} {d mc ms : Nat} {RT : Int → jG → jH → Prop} {P : jK} {G : jG} {σ : jH} {cs ss : Nat} {x0 : Int} {x1 : Int} {x2 : Int} (h :
  cN C.1 d m_Model_slipAt [vI x1, vI x2] G σ (fun (r1 : Int) (σ1 : jH) =>
  (G.2.1 x0).1 = 20 ∧
  cN C.1 d m_Model_ruledForm [vR x0, vI r1] G σ1 (fun (r2 : Int) (σ2 : jH) =>
  RT r2 G σ2))) :
  jwp C d mc ms RT k_Model_slipForm j0 q_Model_slipForm P 6 0 [some (vR x0), some (vI x1), some (vI x2)] [] G σ cs ss := h

def q_Model_hand : List (Nat × List Bool) := [(33, [true, true, true, true, true])]
set_option maxRecDepth 20000 in
theorem b_Model_hand_0 {C : jC} {d mc ms : Nat} {RT : Int → jG → jH → Prop} {P : jK} {G : jG} {σ : jH} {cs ss : Nat} {x0 : Int} {x1 : Int} {x2 : Int} (h :
  cN C.1 d m_Model_in [vL x1, vL 0, vL 3] G σ (fun (r1 : Int) (σ1 : jH) =>
  ((r1 = 0 →
    RT (-2000000000) G σ1) ∧
  (r1 ≠ 0 →
    cN C.1 d m_Model_in [vL x2, vL 0, vL 2] G σ1 (fun (r2 : Int) (σ2 : jH) =>
    ((r2 ≠ 0 →
      P 33 [some (vR x0), some (vI x1), some (vI x2), some (vI 0), some (vI 0)] [] G σ2 cs ss) ∧
    (r2 = 0 →
      RT (-2000000000) G σ2))))))) :
  jwp C d mc ms RT k_Model_hand j0 q_Model_hand P 16 0 [some (vR x0), some (vI x1), some (vI x2), none, none] [] G σ cs ss := h
set_option maxRecDepth 20000 in
theorem b_Model_hand_33 {C : jC} {d mc ms : Nat} {RT : Int → jG → jH → Prop} {P : jK} {G : jG} {σ : jH} {cs ss : Nat} {x0 : Int} {x1 : Int} {x2 : Int} {x3 : Int} {x4 : Int} (h :
  (((300 : Int) ≤ x4 →
    RT x3 G σ) ∧
  (x4 < 300 →
    ((x2 ≠ 2 →
      (G.2.1 x0).1 = 20 ∧
      cN C.1 d m_Model_hasSlip [vR x0, vI x1, vI x4] G σ (fun (r1 : Int) (σ1 : jH) =>
      ((r1 = 0 →
        P 33 [some (vR x0), some (vI x1), some (vI x2), some (vI (w32 (x3 + 0))), some (vI (w32 (x4 + 1)))] [] G σ1 cs ss) ∧
      (r1 ≠ 0 →
        ((x2 = 0 →
          P 33 [some (vR x0), some (vI x1), some (vI x2), some (vI (w32 (x3 + 1))), some (vI (w32 (x4 + 1)))] [] G σ1 cs ss) ∧
        (x2 ≠ 0 →
          (G.2.1 x0).1 = 20 ∧
          cN C.1 d m_Model_isRight [vR x0, vI x1, vI x4] G σ1 (fun (r2 : Int) (σ2 : jH) =>
          ((r2 ≠ 0 →
            P 33 [some (vR x0), some (vI x1), some (vI x2), some (vI (w32 (x3 + 0))), some (vI (w32 (x4 + 1)))] [] G σ2 cs ss) ∧
          (r2 = 0 →
            P 33 [some (vR x0), some (vI x1), some (vI x2), some (vI (w32 (x3 + 1))), some (vI (w32 (x4 + 1)))] [] G σ2 cs ss))))))))) ∧
    (x2 = 2 →
      (G.2.1 x0).1 = 20 ∧
      (G.2.1 (G.2.2 x0 4)).1 = 1 ∧ (0 : Int) ≤ 0 ∧ 0 < (G.2.1 (G.2.2 x0 4)).2 ∧
      (((σ (G.2.2 x0 4) 0) ≤ x4 →
        P 33 [some (vR x0), some (vI x1), some (vI x2), some (vI (w32 (x3 + 0))), some (vI (w32 (x4 + 1)))] [] G σ cs ss) ∧
      (x4 < (σ (G.2.2 x0 4) 0) →
        (G.2.1 x0).1 = 20 ∧
        cN C.1 d m_Model_hasSlip [vR x0, vI x1, vI x4] G σ (fun (r3 : Int) (σ3 : jH) =>
        ((r3 ≠ 0 →
          P 33 [some (vR x0), some (vI x1), some (vI x2), some (vI (w32 (x3 + 0))), some (vI (w32 (x4 + 1)))] [] G σ3 cs ss) ∧
        (r3 = 0 →
          P 33 [some (vR x0), some (vI x1), some (vI x2), some (vI (w32 (x3 + 1))), some (vI (w32 (x4 + 1)))] [] G σ3 cs ss)))))))))) :
  jwp C d mc ms RT k_Model_hand j0 q_Model_hand P 25 33 [some (vR x0), some (vI x1), some (vI x2), some (vI x3), some (vI x4)] [] G σ cs ss := h

def q_Model_hasSlip : List (Nat × List Bool) := []
set_option maxRecDepth 20000 in
theorem b_Model_hasSlip_0 {C : jC} {d mc ms : Nat} {RT : Int → jG → jH → Prop} {P : jK} {G : jG} {σ : jH} {cs ss : Nat} {x0 : Int} {x1 : Int} {x2 : Int} (h :
  (G.2.1 x0).1 = 20 ∧
  cN C.1 d m_Model_slipAt [vI x1, vI x2] G σ (fun (r1 : Int) (σ1 : jH) =>
  (G.2.1 (G.2.2 x0 1)).1 = 1 ∧ (0 : Int) ≤ r1 ∧ r1 < (G.2.1 (G.2.2 x0 1)).2 ∧
  (((σ1 (G.2.2 x0 1) r1) ≤ 0 →
    ((0 : Int) = 0 ∨ (0 : Int) = 1) ∧ RT 0 G σ1) ∧
  ((0 : Int) < (σ1 (G.2.2 x0 1) r1) →
    ((1 : Int) = 0 ∨ (1 : Int) = 1) ∧ RT 1 G σ1)))) :
  jwp C d mc ms RT k_Model_hasSlip j0 q_Model_hasSlip P 10 0 [some (vR x0), some (vI x1), some (vI x2)] [] G σ cs ss := h

def q_Model_copied : List (Nat × List Bool) := [(37, [true, true, true, true, true])]
set_option maxRecDepth 20000 in
theorem b_Model_copied_0 {C : jC} {d mc ms : Nat} {RT : Int → jG → jH → Prop} {P : jK} {G : jG} {σ : jH} {cs ss : Nat} {x0 : Int} {x1 : Int} {x2 : Int} (h :
  cN C.1 d m_Model_in [vL x1, vL 0, vL 3] G σ (fun (r1 : Int) (σ1 : jH) =>
  ((r1 = 0 →
    RT (-2) G σ1) ∧
  (r1 ≠ 0 →
    cN C.1 d m_Model_in [vL x2, vL 0, vL 3] G σ1 (fun (r2 : Int) (σ2 : jH) =>
    ((r2 = 0 →
      RT (-2) G σ2) ∧
    (r2 ≠ 0 →
      ((x1 ≠ x2 →
        P 37 [some (vR x0), some (vI x1), some (vI x2), some (vI 0), some (vI 0)] [] G σ2 cs ss) ∧
      (x1 = x2 →
        RT (-2) G σ2))))))))) :
  jwp C d mc ms RT k_Model_copied j0 q_Model_copied P 19 0 [some (vR x0), some (vI x1), some (vI x2), none, none] [] G σ cs ss := h
set_option maxRecDepth 20000 in
theorem b_Model_copied_37 {C : jC} {d mc ms : Nat} {RT : Int → jG → jH → Prop} {P : jK} {G : jG} {σ : jH} {cs ss : Nat} {x0 : Int} {x1 : Int} {x2 : Int} {x3 : Int} {x4 : Int} (h :
  (((300 : Int) ≤ x4 →
    RT x3 G σ) ∧
  (x4 < 300 →
    (G.2.1 x0).1 = 20 ∧
    cN C.1 d m_Model_hasSlip [vR x0, vI x1, vI x4] G σ (fun (r1 : Int) (σ1 : jH) =>
    ((r1 = 0 →
      P 37 [some (vR x0), some (vI x1), some (vI x2), some (vI (w32 (x3 + 0))), some (vI (w32 (x4 + 1)))] [] G σ1 cs ss) ∧
    (r1 ≠ 0 →
      (G.2.1 x0).1 = 20 ∧
      cN C.1 d m_Model_hasSlip [vR x0, vI x2, vI x4] G σ1 (fun (r2 : Int) (σ2 : jH) =>
      ((r2 = 0 →
        P 37 [some (vR x0), some (vI x1), some (vI x2), some (vI (w32 (x3 + 0))), some (vI (w32 (x4 + 1)))] [] G σ2 cs ss) ∧
      (r2 ≠ 0 →
        (G.2.1 x0).1 = 20 ∧
        cN C.1 d m_Model_isRight [vR x0, vI x1, vI x4] G σ2 (fun (r3 : Int) (σ3 : jH) =>
        ((r3 ≠ 0 →
          P 37 [some (vR x0), some (vI x1), some (vI x2), some (vI (w32 (x3 + 0))), some (vI (w32 (x4 + 1)))] [] G σ3 cs ss) ∧
        (r3 = 0 →
          (G.2.1 x0).1 = 20 ∧
          cN C.1 d m_Model_isRight [vR x0, vI x2, vI x4] G σ3 (fun (r4 : Int) (σ4 : jH) =>
          ((r4 ≠ 0 →
            P 37 [some (vR x0), some (vI x1), some (vI x2), some (vI (w32 (x3 + 0))), some (vI (w32 (x4 + 1)))] [] G σ4 cs ss) ∧
          (r4 = 0 →
            (G.2.1 x0).1 = 20 ∧
            cN C.1 d m_Model_areAlike [vR x0, vI x1, vI x2, vI x4] G σ4 (fun (r5 : Int) (σ5 : jH) =>
            ((r5 = 0 →
              P 37 [some (vR x0), some (vI x1), some (vI x2), some (vI (w32 (x3 + 0))), some (vI (w32 (x4 + 1)))] [] G σ5 cs ss) ∧
            (r5 ≠ 0 →
              P 37 [some (vR x0), some (vI x1), some (vI x2), some (vI (w32 (x3 + 1))), some (vI (w32 (x4 + 1)))] [] G σ5 cs ss)))))))))))))))))) :
  jwp C d mc ms RT k_Model_copied j0 q_Model_copied P 36 37 [some (vR x0), some (vI x1), some (vI x2), some (vI x3), some (vI x4)] [] G σ cs ss := h

def q_Model_areAlike : List (Nat × List Bool) := [(41, [true, false, false, false, true, true, true, true])]
set_option maxRecDepth 20000 in
theorem b_Model_areAlike_0 {C : jC} {d mc ms : Nat} {RT : Int → jG → jH → Prop} {P : jK} {G : jG} {σ : jH} {cs ss : Nat} {x0 : Int} {x1 : Int} {x2 : Int} {x3 : Int} (h :
  cN C.1 d m_Model_slipAt [vI x1, vI x3] G σ (fun (r1 : Int) (σ1 : jH) =>
  cN C.1 d m_Model_slipAt [vI x2, vI x3] G σ1 (fun (r2 : Int) (σ2 : jH) =>
  (G.2.1 x0).1 = 20 ∧
  (G.2.1 (G.2.2 x0 1)).1 = 1 ∧ (0 : Int) ≤ r1 ∧ r1 < (G.2.1 (G.2.2 x0 1)).2 ∧
  (G.2.1 x0).1 = 20 ∧
  (G.2.1 (G.2.2 x0 1)).1 = 1 ∧ (0 : Int) ≤ r2 ∧ r2 < (G.2.1 (G.2.2 x0 1)).2 ∧
  (((σ2 (G.2.2 x0 1) r1) ≠ (σ2 (G.2.2 x0 1) r2) →
    P 41 [some (vR x0), none, none, none, some (vI r1), some (vI r2), some (vI 0), some (vI 1)] [] G σ2 cs ss) ∧
  ((σ2 (G.2.2 x0 1) r1) = (σ2 (G.2.2 x0 1) r2) →
    P 41 [some (vR x0), none, none, none, some (vI r1), some (vI r2), some (vI 1), some (vI 1)] [] G σ2 cs ss))))) :
  jwp C d mc ms RT k_Model_areAlike j0 q_Model_areAlike P 22 0 [some (vR x0), some (vI x1), some (vI x2), some (vI x3), none, none, none, none] [] G σ cs ss := h
set_option maxRecDepth 20000 in
theorem b_Model_areAlike_41 {C : jC} {d mc ms : Nat} {RT : Int → jG → jH → Prop} {P : jK} {G : jG} {σ : jH} {cs ss : Nat} {x0 : Int} {x4 : Int} {x5 : Int} {x6 : Int} {x7 : Int} (h :
  (G.2.1 x0).1 = 20 ∧
  (G.2.1 (G.2.2 x0 1)).1 = 1 ∧ (0 : Int) ≤ x4 ∧ x4 < (G.2.1 (G.2.2 x0 1)).2 ∧
  (((σ (G.2.2 x0 1) x4) < x7 →
    (x6 = 0 ∨ x6 = 1) ∧ RT x6 G σ) ∧
  (x7 ≤ (σ (G.2.2 x0 1) x4) →
    ((x6 = 0 →
      (x6 = 0 ∨ x6 = 1) ∧ RT x6 G σ) ∧
    (x6 ≠ 0 →
      (G.2.1 x0).1 = 20 ∧
      (G.2.1 (G.2.2 x0 1)).1 = 1 ∧ (0 : Int) ≤ (w32 (x4 + x7)) ∧ (w32 (x4 + x7)) < (G.2.1 (G.2.2 x0 1)).2 ∧
      (G.2.1 x0).1 = 20 ∧
      cN C.1 d m_Model_folded [vR x0, vI (σ (G.2.2 x0 1) (w32 (x4 + x7)))] G σ (fun (r1 : Int) (σ1 : jH) =>
      (G.2.1 x0).1 = 20 ∧
      (G.2.1 (G.2.2 x0 1)).1 = 1 ∧ (0 : Int) ≤ (w32 (x5 + x7)) ∧ (w32 (x5 + x7)) < (G.2.1 (G.2.2 x0 1)).2 ∧
      (G.2.1 x0).1 = 20 ∧
      cN C.1 d m_Model_folded [vR x0, vI (σ1 (G.2.2 x0 1) (w32 (x5 + x7)))] G σ1 (fun (r2 : Int) (σ2 : jH) =>
      ((r1 ≠ r2 →
        P 41 [some (vR x0), none, none, none, some (vI x4), some (vI x5), some (vI 0), some (vI (w32 (x7 + 1)))] [] G σ2 cs ss) ∧
      (r1 = r2 →
        P 41 [some (vR x0), none, none, none, some (vI x4), some (vI x5), some (vI 1), some (vI (w32 (x7 + 1)))] [] G σ2 cs ss))))))))) :
  jwp C d mc ms RT k_Model_areAlike j0 q_Model_areAlike P 30 41 [some (vR x0), none, none, none, some (vI x4), some (vI x5), some (vI x6), some (vI x7)] [] G σ cs ss := h

def q_Model_rank : List (Nat × List Bool) := [(21, [true, true, true, false, false]), (45, [true, true, true, false, false]), (70, [true, true, true, true, true]), (108, [true, true, true, true, true]), (162, [true, true, true, false, false]), (188, [true, true, true, true, false]), (243, [true, true, true, true, false])]
set_option maxRecDepth 20000 in
theorem b_Model_rank_0 {C : jC} {d mc ms : Nat} {RT : Int → jG → jH → Prop} {P : jK} {G : jG} {σ : jH} {cs ss : Nat} {x0 : Int} {x1 : Int} (h :
  cN C.1 d m_Model_isEdition [vI x1] G σ (fun (r1 : Int) (σ1 : jH) =>
  ((r1 ≠ 0 →
    (G.2.1 x0).1 = 20 ∧
    cN C.1 d m_Model_asks [vR x0] G σ1 (fun (r2 : Int) (σ2 : jH) =>
    (G.2.1 x0).1 = 20 ∧
    P 21 [some (vR x0), some (vI x1), some (vI 0), none, none] [] G (ju σ2 x0 41 0) cs ss)) ∧
  (r1 = 0 →
    RT (-2) G σ1)))) :
  jwp C d mc ms RT k_Model_rank j0 q_Model_rank P 10 0 [some (vR x0), some (vI x1), none, none, none] [] G σ cs ss := h
set_option maxRecDepth 20000 in
theorem b_Model_rank_21 {C : jC} {d mc ms : Nat} {RT : Int → jG → jH → Prop} {P : jK} {G : jG} {σ : jH} {cs ss : Nat} {x0 : Int} {x1 : Int} {x2 : Int} (h :
  (G.2.1 x0).1 = 20 ∧
  cN C.1 d m_Model_linesOf [vR x0, vI x1] G σ (fun (r1 : Int) (σ1 : jH) =>
  ((r1 ≤ x2 →
    P 45 [some (vR x0), some (vI x1), some (vI 0), none, none] [] G σ1 cs ss) ∧
  (x2 < r1 →
    (G.2.1 x0).1 = 20 ∧
    (G.2.1 (G.2.2 x0 34)).1 = 1 ∧ (0 : Int) ≤ x2 ∧ x2 < (G.2.1 (G.2.2 x0 34)).2 ∧
    P 21 [some (vR x0), some (vI x1), some (vI (w32 (x2 + 1))), none, none] [] G (ju σ1 (G.2.2 x0 34) x2 0) cs ss)))) :
  jwp C d mc ms RT k_Model_rank j0 q_Model_rank P 12 21 [some (vR x0), some (vI x1), some (vI x2), none, none] [] G σ cs ss := h
set_option maxRecDepth 20000 in
theorem b_Model_rank_45 {C : jC} {d mc ms : Nat} {RT : Int → jG → jH → Prop} {P : jK} {G : jG} {σ : jH} {cs ss : Nat} {x0 : Int} {x1 : Int} {x2 : Int} (h :
  (G.2.1 x0).1 = 20 ∧
  (((σ x0 10) ≤ x2 →
    P 162 [some (vR x0), some (vI x1), some (vI 0), none, none] [] G σ cs ss) ∧
  (x2 < (σ x0 10) →
    (G.2.1 x0).1 = 20 ∧
    (G.2.1 (G.2.2 x0 38)).1 = 3 ∧ (0 : Int) ≤ x2 ∧ x2 < (G.2.1 (G.2.2 x0 38)).2 ∧
    (((σ (G.2.2 x0 38) x2) ≠ 0 →
      P 70 [some (vR x0), some (vI x1), some (vI x2), some (vI 0), some (vI 0)] [] G σ cs ss) ∧
    ((σ (G.2.2 x0 38) x2) = 0 →
      P 45 [some (vR x0), some (vI x1), some (vI (w32 (x2 + 1))), none, none] [] G σ cs ss))))) :
  jwp C d mc ms RT k_Model_rank j0 q_Model_rank P 13 45 [some (vR x0), some (vI x1), some (vI x2), none, none] [] G σ cs ss := h
set_option maxRecDepth 20000 in
theorem b_Model_rank_70 {C : jC} {d mc ms : Nat} {RT : Int → jG → jH → Prop} {P : jK} {G : jG} {σ : jH} {cs ss : Nat} {x0 : Int} {x1 : Int} {x2 : Int} {x3 : Int} {x4 : Int} (h :
  (G.2.1 x0).1 = 20 ∧
  cN C.1 d m_Model_linesOf [vR x0, vI x1] G σ (fun (r1 : Int) (σ1 : jH) =>
  ((r1 ≤ x4 →
    P 108 [some (vR x0), some (vI x1), some (vI x2), some (vI x3), some (vI 0)] [] G σ1 cs ss) ∧
  (x4 < r1 →
    (G.2.1 x0).1 = 20 ∧
    cN C.1 d m_Model_beginsIn [vR x0, vI x1, vI x2, vI x4] G σ1 (fun (r2 : Int) (σ2 : jH) =>
    ((r2 = 0 →
      P 70 [some (vR x0), some (vI x1), some (vI x2), some (vI (w32 (x3 + 0))), some (vI (w32 (x4 + 1)))] [] G σ2 cs ss) ∧
    (r2 ≠ 0 →
      P 70 [some (vR x0), some (vI x1), some (vI x2), some (vI (w32 (x3 + 1))), some (vI (w32 (x4 + 1)))] [] G σ2 cs ss))))))) :
  jwp C d mc ms RT k_Model_rank j0 q_Model_rank P 18 70 [some (vR x0), some (vI x1), some (vI x2), some (vI x3), some (vI x4)] [] G σ cs ss := h
set_option maxRecDepth 20000 in
theorem b_Model_rank_108 {C : jC} {d mc ms : Nat} {RT : Int → jG → jH → Prop} {P : jK} {G : jG} {σ : jH} {cs ss : Nat} {x0 : Int} {x1 : Int} {x2 : Int} {x3 : Int} {x4 : Int} (h :
  (G.2.1 x0).1 = 20 ∧
  cN C.1 d m_Model_linesOf [vR x0, vI x1] G σ (fun (r1 : Int) (σ1 : jH) =>
  ((r1 ≤ x4 →
    P 45 [some (vR x0), some (vI x1), some (vI (w32 (x2 + 1))), none, none] [] G σ1 cs ss) ∧
  (x4 < r1 →
    (G.2.1 x0).1 = 20 ∧
    (G.2.1 (G.2.2 x0 34)).1 = 1 ∧ (0 : Int) ≤ x4 ∧ x4 < (G.2.1 (G.2.2 x0 34)).2 ∧
    (G.2.1 x0).1 = 20 ∧
    cN C.1 d m_Model_beginsIn [vR x0, vI x1, vI x2, vI x4] G σ1 (fun (r2 : Int) (σ2 : jH) =>
    ((r2 = 0 →
      (G.2.1 (G.2.2 x0 34)).1 = 1 ∧ (0 : Int) ≤ x4 ∧ x4 < (G.2.1 (G.2.2 x0 34)).2 ∧
      P 108 [some (vR x0), some (vI x1), some (vI x2), some (vI x3), some (vI (w32 (x4 + 1)))] [] G (ju σ2 (G.2.2 x0 34) x4 (w32 ((σ1 (G.2.2 x0 34) x4) + 0))) cs ss) ∧
    (r2 ≠ 0 →
      x3 ≠ 0 ∧
      (G.2.1 (G.2.2 x0 34)).1 = 1 ∧ (0 : Int) ≤ x4 ∧ x4 < (G.2.1 (G.2.2 x0 34)).2 ∧
      P 108 [some (vR x0), some (vI x1), some (vI x2), some (vI x3), some (vI (w32 (x4 + 1)))] [] G (ju σ2 (G.2.2 x0 34) x4 (w32 ((σ1 (G.2.2 x0 34) x4) + (w32 (Int.tdiv 1000 x3))))) cs ss))))))) :
  jwp C d mc ms RT k_Model_rank j0 q_Model_rank P 24 108 [some (vR x0), some (vI x1), some (vI x2), some (vI x3), some (vI x4)] [] G σ cs ss := h
set_option maxRecDepth 20000 in
theorem b_Model_rank_162 {C : jC} {d mc ms : Nat} {RT : Int → jG → jH → Prop} {P : jK} {G : jG} {σ : jH} {cs ss : Nat} {x0 : Int} {x1 : Int} {x2 : Int} (h :
  (G.2.1 x0).1 = 20 ∧
  cN C.1 d m_Model_linesOf [vR x0, vI x1] G σ (fun (r1 : Int) (σ1 : jH) =>
  ((r1 ≤ x2 →
    (G.2.1 x0).1 = 20 ∧
    RT (σ1 x0 41) G σ1) ∧
  (x2 < r1 →
    (G.2.1 x0).1 = 20 ∧
    (G.2.1 (G.2.2 x0 34)).1 = 1 ∧ (0 : Int) ≤ x2 ∧ x2 < (G.2.1 (G.2.2 x0 34)).2 ∧
    (((σ1 (G.2.2 x0 34) x2) ≠ 0 →
      (G.2.1 x0).1 = 20 ∧
      P 188 [some (vR x0), some (vI x1), some (vI x2), some (vI (σ1 x0 41)), none] [] G σ1 cs ss) ∧
    ((σ1 (G.2.2 x0 34) x2) = 0 →
      P 162 [some (vR x0), some (vI x1), some (vI (w32 (x2 + 1))), none, none] [] G σ1 cs ss)))))) :
  jwp C d mc ms RT k_Model_rank j0 q_Model_rank P 13 162 [some (vR x0), some (vI x1), some (vI x2), none, none] [] G σ cs ss := h
set_option maxRecDepth 20000 in
theorem b_Model_rank_188 {C : jC} {d mc ms : Nat} {RT : Int → jG → jH → Prop} {P : jK} {G : jG} {σ : jH} {cs ss : Nat} {x0 : Int} {x1 : Int} {x2 : Int} {x3 : Int} (h :
  ((x3 ≤ 0 →
    P 243 [some (vR x0), some (vI x1), some (vI x2), some (vI x3), none] [] G σ cs ss) ∧
  ((0 : Int) < x3 →
    (G.2.1 x0).1 = 20 ∧
    (G.2.1 (G.2.2 x0 40)).1 = 1 ∧ (0 : Int) ≤ (w32 (x3 - 1)) ∧ (w32 (x3 - 1)) < (G.2.1 (G.2.2 x0 40)).2 ∧
    (G.2.1 x0).1 = 20 ∧
    (G.2.1 (G.2.2 x0 34)).1 = 1 ∧ (0 : Int) ≤ x2 ∧ x2 < (G.2.1 (G.2.2 x0 34)).2 ∧
    (((σ (G.2.2 x0 34) x2) ≤ (σ (G.2.2 x0 40) (w32 (x3 - 1))) →
      P 243 [some (vR x0), some (vI x1), some (vI x2), some (vI x3), none] [] G σ cs ss) ∧
    ((σ (G.2.2 x0 40) (w32 (x3 - 1))) < (σ (G.2.2 x0 34) x2) →
      (G.2.1 x0).1 = 20 ∧
      (G.2.1 x0).1 = 20 ∧
      (G.2.1 (G.2.2 x0 40)).1 = 1 ∧ (0 : Int) ≤ (w32 (x3 - 1)) ∧ (w32 (x3 - 1)) < (G.2.1 (G.2.2 x0 40)).2 ∧
      (G.2.1 (G.2.2 x0 40)).1 = 1 ∧ (0 : Int) ≤ x3 ∧ x3 < (G.2.1 (G.2.2 x0 40)).2 ∧
      (G.2.1 x0).1 = 20 ∧
      (G.2.1 x0).1 = 20 ∧
      (G.2.1 (G.2.2 x0 39)).1 = 1 ∧ (0 : Int) ≤ (w32 (x3 - 1)) ∧ (w32 (x3 - 1)) < (G.2.1 (G.2.2 x0 39)).2 ∧
      (G.2.1 (G.2.2 x0 39)).1 = 1 ∧ (0 : Int) ≤ x3 ∧ x3 < (G.2.1 (G.2.2 x0 39)).2 ∧
      P 188 [some (vR x0), some (vI x1), some (vI x2), some (vI (w32 (x3 + (-1)))), none] [] G (ju (ju σ (G.2.2 x0 40) x3 (σ (G.2.2 x0 40) (w32 (x3 - 1)))) (G.2.2 x0 39) x3 ((ju σ (G.2.2 x0 40) x3 (σ (G.2.2 x0 40) (w32 (x3 - 1)))) (G.2.2 x0 39) (w32 (x3 - 1)))) cs ss))))) :
  jwp C d mc ms RT k_Model_rank j0 q_Model_rank P 35 188 [some (vR x0), some (vI x1), some (vI x2), some (vI x3), none] [] G σ cs ss := h
set_option maxRecDepth 20000 in
theorem b_Model_rank_243 {C : jC} {d mc ms : Nat} {RT : Int → jG → jH → Prop} {P : jK} {G : jG} {σ : jH} {cs ss : Nat} {x0 : Int} {x1 : Int} {x2 : Int} {x3 : Int} (h :
  (G.2.1 x0).1 = 20 ∧
  (G.2.1 x0).1 = 20 ∧
  (G.2.1 (G.2.2 x0 34)).1 = 1 ∧ (0 : Int) ≤ x2 ∧ x2 < (G.2.1 (G.2.2 x0 34)).2 ∧
  (G.2.1 (G.2.2 x0 40)).1 = 1 ∧ (0 : Int) ≤ x3 ∧ x3 < (G.2.1 (G.2.2 x0 40)).2 ∧
  (G.2.1 x0).1 = 20 ∧
  (G.2.1 (G.2.2 x0 39)).1 = 1 ∧ (0 : Int) ≤ x3 ∧ x3 < (G.2.1 (G.2.2 x0 39)).2 ∧
  (G.2.1 x0).1 = 20 ∧
  (G.2.1 x0).1 = 20 ∧
  P 162 [some (vR x0), some (vI x1), some (vI (w32 (x2 + 1))), none, none] [] G (ju (ju (ju σ (G.2.2 x0 40) x3 (σ (G.2.2 x0 34) x2)) (G.2.2 x0 39) x3 x2) x0 41 (w32 (((ju (ju σ (G.2.2 x0 40) x3 (σ (G.2.2 x0 34) x2)) (G.2.2 x0 39) x3 x2) x0 41) + 1))) cs ss) :
  jwp C d mc ms RT k_Model_rank j0 q_Model_rank P 21 243 [some (vR x0), some (vI x1), some (vI x2), some (vI x3), none] [] G σ cs ss := h

def q_Model_asks : List (Nat × List Bool) := [(2, [true, true, false]), (25, [true, true, false]), (40, [true, true, false]), (111, [true, true, false]), (133, [true, true, false])]
set_option maxRecDepth 20000 in
theorem b_Model_asks_0 {C : jC} {d mc ms : Nat} {RT : Int → jG → jH → Prop} {P : jK} {G : jG} {σ : jH} {cs ss : Nat} {x0 : Int} (h :
  P 2 [some (vR x0), some (vI 0), none] [] G σ cs ss) :
  jwp C d mc ms RT k_Model_asks j0 q_Model_asks P 2 0 [some (vR x0), none, none] [] G σ cs ss := h
set_option maxRecDepth 20000 in
theorem b_Model_asks_2 {C : jC} {d mc ms : Nat} {RT : Int → jG → jH → Prop} {P : jK} {G : jG} {σ : jH} {cs ss : Nat} {x0 : Int} {x1 : Int} (h :
  (G.2.1 x0).1 = 20 ∧
  (((σ x0 10) ≤ x1 →
    P 25 [some (vR x0), some (vI 0), none] [] G σ cs ss) ∧
  (x1 < (σ x0 10) →
    (G.2.1 x0).1 = 20 ∧
    (G.2.1 (G.2.2 x0 38)).1 = 3 ∧ (0 : Int) ≤ x1 ∧ x1 < (G.2.1 (G.2.2 x0 38)).2 ∧
    ((0 : Int) = 0 ∨ (0 : Int) = 1) ∧
    P 2 [some (vR x0), some (vI (w32 (x1 + 1))), none] [] G (ju σ (G.2.2 x0 38) x1 0) cs ss))) :
  jwp C d mc ms RT k_Model_asks j0 q_Model_asks P 11 2 [some (vR x0), some (vI x1), none] [] G σ cs ss := h
set_option maxRecDepth 20000 in
theorem b_Model_asks_25 {C : jC} {d mc ms : Nat} {RT : Int → jG → jH → Prop} {P : jK} {G : jG} {σ : jH} {cs ss : Nat} {x0 : Int} {x1 : Int} (h :
  (G.2.1 x0).1 = 20 ∧
  (((σ x0 15) ≤ x1 →
    (G.2.1 x0).1 = 20 ∧
    RT 0 G (ju σ x0 15 0)) ∧
  (x1 < (σ x0 15) →
    (G.2.1 x0).1 = 20 ∧
    (G.2.1 (G.2.2 x0 31)).1 = 1 ∧ (0 : Int) ≤ 0 ∧ 0 < (G.2.1 (G.2.2 x0 31)).2 ∧
    P 40 [some (vR x0), some (vI x1), none] [] G (ju σ (G.2.2 x0 31) 0 0) cs ss))) :
  jwp C d mc ms RT k_Model_asks j0 q_Model_asks P 9 25 [some (vR x0), some (vI x1), none] [] G σ cs ss := h
set_option maxRecDepth 20000 in
theorem b_Model_asks_40 {C : jC} {d mc ms : Nat} {RT : Int → jG → jH → Prop} {P : jK} {G : jG} {σ : jH} {cs ss : Nat} {x0 : Int} {x1 : Int} (h :
  (G.2.1 x0).1 = 20 ∧
  (((σ x0 15) ≤ x1 →
    P 111 [some (vR x0), some (vI x1), none] [] G σ cs ss) ∧
  (x1 < (σ x0 15) →
    (G.2.1 x0).1 = 20 ∧
    (G.2.1 (G.2.2 x0 14)).1 = 2 ∧ (0 : Int) ≤ x1 ∧ x1 < (G.2.1 (G.2.2 x0 14)).2 ∧
    cN C.1 d m_Model_isLetter [vI (σ (G.2.2 x0 14) x1)] G σ (fun (r1 : Int) (σ1 : jH) =>
    ((r1 = 0 →
      P 111 [some (vR x0), some (vI x1), none] [] G σ1 cs ss) ∧
    (r1 ≠ 0 →
      (G.2.1 x0).1 = 20 ∧
      (G.2.1 (G.2.2 x0 31)).1 = 1 ∧ (0 : Int) ≤ 0 ∧ 0 < (G.2.1 (G.2.2 x0 31)).2 ∧
      (((20 : Int) ≤ (σ1 (G.2.2 x0 31) 0) →
        P 40 [some (vR x0), some (vI (w32 (x1 + 1))), none] [] G σ1 cs ss) ∧
      ((σ1 (G.2.2 x0 31) 0) < 20 →
        (G.2.1 x0).1 = 20 ∧
        (G.2.1 (G.2.2 x0 31)).1 = 1 ∧ (0 : Int) ≤ 0 ∧ 0 < (G.2.1 (G.2.2 x0 31)).2 ∧
        (G.2.1 (G.2.2 x0 31)).1 = 1 ∧ (0 : Int) ≤ 0 ∧ 0 < (G.2.1 (G.2.2 x0 31)).2 ∧
        (G.2.1 x0).1 = 20 ∧
        (G.2.1 x0).1 = 20 ∧
        (G.2.1 (G.2.2 x0 31)).1 = 1 ∧ (0 : Int) ≤ 0 ∧ 0 < (G.2.1 (G.2.2 x0 31)).2 ∧
        (G.2.1 x0).1 = 20 ∧
        (G.2.1 (G.2.2 x0 14)).1 = 2 ∧ (0 : Int) ≤ x1 ∧ x1 < (G.2.1 (G.2.2 x0 14)).2 ∧
        (G.2.1 x0).1 = 20 ∧
        cN C.1 d m_Model_folded [vR x0, vI (w32 (((ju σ1 (G.2.2 x0 31) 0 (w32 ((σ1 (G.2.2 x0 31) 0) + 1))) (G.2.2 x0 14) x1) - 97))] G (ju σ1 (G.2.2 x0 31) 0 (w32 ((σ1 (G.2.2 x0 31) 0) + 1))) (fun (r2 : Int) (σ2 : jH) =>
        (G.2.1 (G.2.2 x0 31)).1 = 1 ∧ (0 : Int) ≤ ((ju σ1 (G.2.2 x0 31) 0 (w32 ((σ1 (G.2.2 x0 31) 0) + 1))) (G.2.2 x0 31) 0) ∧ ((ju σ1 (G.2.2 x0 31) 0 (w32 ((σ1 (G.2.2 x0 31) 0) + 1))) (G.2.2 x0 31) 0) < (G.2.1 (G.2.2 x0 31)).2 ∧
        P 40 [some (vR x0), some (vI (w32 (x1 + 1))), none] [] G (ju σ2 (G.2.2 x0 31) ((ju σ1 (G.2.2 x0 31) 0 (w32 ((σ1 (G.2.2 x0 31) 0) + 1))) (G.2.2 x0 31) 0) r2) cs ss))))))))) :
  jwp C d mc ms RT k_Model_asks j0 q_Model_asks P 41 40 [some (vR x0), some (vI x1), none] [] G σ cs ss := h
set_option maxRecDepth 20000 in
theorem b_Model_asks_111 {C : jC} {d mc ms : Nat} {RT : Int → jG → jH → Prop} {P : jK} {G : jG} {σ : jH} {cs ss : Nat} {x0 : Int} {x1 : Int} (h :
  (G.2.1 x0).1 = 20 ∧
  (G.2.1 (G.2.2 x0 31)).1 = 1 ∧ (0 : Int) ≤ 0 ∧ 0 < (G.2.1 (G.2.2 x0 31)).2 ∧
  (((σ (G.2.2 x0 31) 0) ≤ 0 →
    P 133 [some (vR x0), some (vI x1), none] [vI (-1)] G σ cs ss) ∧
  ((0 : Int) < (σ (G.2.2 x0 31) 0) →
    (G.2.1 x0).1 = 20 ∧
    (G.2.1 x0).1 = 20 ∧
    cN C.1 d m_Model_find [vR x0, vR (G.2.2 x0 31), vI 0] G σ (fun (r1 : Int) (σ1 : jH) =>
    P 133 [some (vR x0), some (vI x1), none] [vI r1] G σ1 cs ss)))) :
  jwp C d mc ms RT k_Model_asks j0 q_Model_asks P 11 111 [some (vR x0), some (vI x1), none] [] G σ cs ss := h
set_option maxRecDepth 20000 in
theorem b_Model_asks_133 {C : jC} {d mc ms : Nat} {RT : Int → jG → jH → Prop} {P : jK} {G : jG} {σ : jH} {cs ss : Nat} {x0 : Int} {x1 : Int} {s0 : Int} (h :
  ((s0 = (-1) →
    P 25 [some (vR x0), some (vI (w32 (x1 + 1))), none] [] G σ cs ss) ∧
  (s0 ≠ (-1) →
    (G.2.1 x0).1 = 20 ∧
    (G.2.1 (G.2.2 x0 38)).1 = 3 ∧ (0 : Int) ≤ s0 ∧ s0 < (G.2.1 (G.2.2 x0 38)).2 ∧
    ((1 : Int) = 0 ∨ (1 : Int) = 1) ∧
    P 25 [some (vR x0), some (vI (w32 (x1 + 1))), none] [] G (ju σ (G.2.2 x0 38) s0 1) cs ss))) :
  jwp C d mc ms RT k_Model_asks j0 q_Model_asks P 11 133 [some (vR x0), some (vI x1), none] [vI s0] G σ cs ss := h

def q_Model_beginsIn : List (Nat × List Bool) := [(3, [true, true, true, true, true])]
set_option maxRecDepth 20000 in
theorem b_Model_beginsIn_0 {C : jC} {d mc ms : Nat} {RT : Int → jG → jH → Prop} {P : jK} {G : jG} {σ : jH} {cs ss : Nat} {x0 : Int} {x1 : Int} {x2 : Int} {x3 : Int} (h :
  P 3 [some (vR x0), some (vI x1), some (vI x2), some (vI x3), some (vI 0)] [] G σ cs ss) :
  jwp C d mc ms RT k_Model_beginsIn j0 q_Model_beginsIn P 2 0 [some (vR x0), some (vI x1), some (vI x2), some (vI x3), none] [] G σ cs ss := h
set_option maxRecDepth 20000 in
theorem b_Model_beginsIn_3 {C : jC} {d mc ms : Nat} {RT : Int → jG → jH → Prop} {P : jK} {G : jG} {σ : jH} {cs ss : Nat} {x0 : Int} {x1 : Int} {x2 : Int} {x3 : Int} {x4 : Int} (h :
  (G.2.1 x0).1 = 20 ∧
  (G.2.1 (G.2.2 x0 4)).1 = 1 ∧ (0 : Int) ≤ x1 ∧ x1 < (G.2.1 (G.2.2 x0 4)).2 ∧
  (((σ (G.2.2 x0 4) x1) ≤ x4 →
    ((0 : Int) = 0 ∨ (0 : Int) = 1) ∧ RT 0 G σ) ∧
  (x4 < (σ (G.2.2 x0 4) x1) →
    (G.2.1 x0).1 = 20 ∧
    (G.2.1 (G.2.2 x0 5)).1 = 1 ∧ (0 : Int) ≤ (w32 ((w32 (340 * x1)) + x4)) ∧ (w32 ((w32 (340 * x1)) + x4)) < (G.2.1 (G.2.2 x0 5)).2 ∧
    (((σ (G.2.2 x0 5) (w32 ((w32 (340 * x1)) + x4))) ≠ x2 →
      P 3 [some (vR x0), some (vI x1), some (vI x2), some (vI x3), some (vI (w32 (x4 + 1)))] [] G σ cs ss) ∧
    ((σ (G.2.2 x0 5) (w32 ((w32 (340 * x1)) + x4))) = x2 →
      (G.2.1 x0).1 = 20 ∧
      (G.2.1 (G.2.2 x0 6)).1 = 1 ∧ (0 : Int) ≤ (w32 ((w32 (340 * x1)) + x4)) ∧ (w32 ((w32 (340 * x1)) + x4)) < (G.2.1 (G.2.2 x0 6)).2 ∧
      (((σ (G.2.2 x0 6) (w32 ((w32 (340 * x1)) + x4))) ≠ x3 →
        P 3 [some (vR x0), some (vI x1), some (vI x2), some (vI x3), some (vI (w32 (x4 + 1)))] [] G σ cs ss) ∧
      ((σ (G.2.2 x0 6) (w32 ((w32 (340 * x1)) + x4))) = x3 →
        ((1 : Int) = 0 ∨ (1 : Int) = 1) ∧ RT 1 G σ))))))) :
  jwp C d mc ms RT k_Model_beginsIn j0 q_Model_beginsIn P 28 3 [some (vR x0), some (vI x1), some (vI x2), some (vI x3), some (vI x4)] [] G σ cs ss := h

def q_Model_ranked : List (Nat × List Bool) := []
set_option maxRecDepth 20000 in
theorem b_Model_ranked_0 {C : jC} {d mc ms : Nat} {RT : Int → jG → jH → Prop} {P : jK} {G : jG} {σ : jH} {cs ss : Nat} {x0 : Int} {x1 : Int} {x2 : Int} (h :
  (G.2.1 x0).1 = 20 ∧
  cN C.1 d m_Model_in [vL x1, vL 0, vL (w32 ((σ x0 41) - 1))] G σ (fun (r1 : Int) (σ1 : jH) =>
  ((r1 ≠ 0 →
    ((x2 ≠ 0 →
      ((x2 ≠ 1 →
        RT (-2000000000) G σ1) ∧
      (x2 = 1 →
        (G.2.1 x0).1 = 20 ∧
        (G.2.1 (G.2.2 x0 40)).1 = 1 ∧ (0 : Int) ≤ x1 ∧ x1 < (G.2.1 (G.2.2 x0 40)).2 ∧
        RT (σ1 (G.2.2 x0 40) x1) G σ1))) ∧
    (x2 = 0 →
      (G.2.1 x0).1 = 20 ∧
      (G.2.1 (G.2.2 x0 39)).1 = 1 ∧ (0 : Int) ≤ x1 ∧ x1 < (G.2.1 (G.2.2 x0 39)).2 ∧
      RT (σ1 (G.2.2 x0 39) x1) G σ1))) ∧
  (r1 = 0 →
    RT (-2000000000) G σ1)))) :
  jwp C d mc ms RT k_Model_ranked j0 q_Model_ranked P 21 0 [some (vR x0), some (vI x1), some (vI x2)] [] G σ cs ss := h

def q_Model_begins : List (Nat × List Bool) := [(4, [true, true, true, false, false]), (67, [true, true, true, false, false]), (97, [true, true, true, true, true]), (143, [true, true, true, true, false])]
set_option maxRecDepth 20000 in
theorem b_Model_begins_0 {C : jC} {d mc ms : Nat} {RT : Int → jG → jH → Prop} {P : jK} {G : jG} {σ : jH} {cs ss : Nat} {x0 : Int} (h :
  P 4 [some (vR x0), some (vI 0), some (vI 0), none, none] [] G σ cs ss) :
  jwp C d mc ms RT k_Model_begins j0 q_Model_begins P 4 0 [some (vR x0), none, none, none, none] [] G σ cs ss := h
set_option maxRecDepth 20000 in
theorem b_Model_begins_4 {C : jC} {d mc ms : Nat} {RT : Int → jG → jH → Prop} {P : jK} {G : jG} {σ : jH} {cs ss : Nat} {x0 : Int} {x1 : Int} {x2 : Int} (h :
  (G.2.1 x0).1 = 20 ∧
  (((σ x0 15) ≤ x2 →
    (G.2.1 x0).1 = 20 ∧
    (G.2.1 x0).1 = 20 ∧
    P 67 [some (vR x0), some (vI x1), some (vI 0), none, none] [] G (ju (ju σ x0 15 0) x0 43 0) cs ss) ∧
  (x2 < (σ x0 15) →
    (G.2.1 x0).1 = 20 ∧
    (G.2.1 (G.2.2 x0 14)).1 = 2 ∧ (0 : Int) ≤ x2 ∧ x2 < (G.2.1 (G.2.2 x0 14)).2 ∧
    cN C.1 d m_Model_isLetter [vI (σ (G.2.2 x0 14) x2)] G σ (fun (r1 : Int) (σ1 : jH) =>
    ((r1 ≠ 0 →
      (G.2.1 x0).1 = 20 ∧
      (G.2.1 x0).1 = 20 ∧
      (G.2.1 (G.2.2 x0 14)).1 = 2 ∧ (0 : Int) ≤ x2 ∧ x2 < (G.2.1 (G.2.2 x0 14)).2 ∧
      (G.2.1 x0).1 = 20 ∧
      cN C.1 d m_Model_folded [vR x0, vI (w32 ((σ1 (G.2.2 x0 14) x2) - 97))] G σ1 (fun (r2 : Int) (σ2 : jH) =>
      (G.2.1 (G.2.2 x0 44)).1 = 1 ∧ (0 : Int) ≤ x1 ∧ x1 < (G.2.1 (G.2.2 x0 44)).2 ∧
      P 4 [some (vR x0), some (vI (w32 (x1 + 1))), some (vI (w32 (x2 + 1))), none, none] [] G (ju σ2 (G.2.2 x0 44) x1 r2) cs ss)) ∧
    (r1 = 0 →
      P 4 [some (vR x0), some (vI x1), some (vI (w32 (x2 + 1))), none, none] [] G σ1 cs ss)))))) :
  jwp C d mc ms RT k_Model_begins j0 q_Model_begins P 25 4 [some (vR x0), some (vI x1), some (vI x2), none, none] [] G σ cs ss := h
set_option maxRecDepth 20000 in
theorem b_Model_begins_67 {C : jC} {d mc ms : Nat} {RT : Int → jG → jH → Prop} {P : jK} {G : jG} {σ : jH} {cs ss : Nat} {x0 : Int} {x1 : Int} {x2 : Int} (h :
  (G.2.1 x0).1 = 20 ∧
  (((σ x0 10) ≤ x2 →
    (G.2.1 x0).1 = 20 ∧
    RT (σ x0 43) G σ) ∧
  (x2 < (σ x0 10) →
    (G.2.1 x0).1 = 20 ∧
    (G.2.1 (G.2.2 x0 9)).1 = 1 ∧ (0 : Int) ≤ (w32 (21 * x2)) ∧ (w32 (21 * x2)) < (G.2.1 (G.2.2 x0 9)).2 ∧
    (((σ (G.2.2 x0 9) (w32 (21 * x2))) < x1 →
      P 97 [some (vR x0), some (vI x1), some (vI x2), some (vI 0), some (vI 0)] [] G σ cs ss) ∧
    (x1 ≤ (σ (G.2.2 x0 9) (w32 (21 * x2))) →
      P 97 [some (vR x0), some (vI x1), some (vI x2), some (vI 1), some (vI 0)] [] G σ cs ss))))) :
  jwp C d mc ms RT k_Model_begins j0 q_Model_begins P 17 67 [some (vR x0), some (vI x1), some (vI x2), none, none] [] G σ cs ss := h
set_option maxRecDepth 20000 in
theorem b_Model_begins_97 {C : jC} {d mc ms : Nat} {RT : Int → jG → jH → Prop} {P : jK} {G : jG} {σ : jH} {cs ss : Nat} {x0 : Int} {x1 : Int} {x2 : Int} {x3 : Int} {x4 : Int} (h :
  ((x1 ≤ x4 →
    P 143 [some (vR x0), some (vI x1), some (vI x2), some (vI x3), none] [] G σ cs ss) ∧
  (x4 < x1 →
    ((x3 = 0 →
      P 143 [some (vR x0), some (vI x1), some (vI x2), some (vI x3), none] [] G σ cs ss) ∧
    (x3 ≠ 0 →
      (G.2.1 x0).1 = 20 ∧
      (G.2.1 (G.2.2 x0 9)).1 = 1 ∧ (0 : Int) ≤ (w32 ((w32 ((w32 (21 * x2)) + 1)) + x4)) ∧ (w32 ((w32 ((w32 (21 * x2)) + 1)) + x4)) < (G.2.1 (G.2.2 x0 9)).2 ∧
      (G.2.1 x0).1 = 20 ∧
      (G.2.1 (G.2.2 x0 44)).1 = 1 ∧ (0 : Int) ≤ x4 ∧ x4 < (G.2.1 (G.2.2 x0 44)).2 ∧
      (((σ (G.2.2 x0 9) (w32 ((w32 ((w32 (21 * x2)) + 1)) + x4))) ≠ (σ (G.2.2 x0 44) x4) →
        P 97 [some (vR x0), some (vI x1), some (vI x2), some (vI 0), some (vI (w32 (x4 + 1)))] [] G σ cs ss) ∧
      ((σ (G.2.2 x0 9) (w32 ((w32 ((w32 (21 * x2)) + 1)) + x4))) = (σ (G.2.2 x0 44) x4) →
        P 97 [some (vR x0), some (vI x1), some (vI x2), some (vI 1), some (vI (w32 (x4 + 1)))] [] G σ cs ss))))))) :
  jwp C d mc ms RT k_Model_begins j0 q_Model_begins P 25 97 [some (vR x0), some (vI x1), some (vI x2), some (vI x3), some (vI x4)] [] G σ cs ss := h
set_option maxRecDepth 20000 in
theorem b_Model_begins_143 {C : jC} {d mc ms : Nat} {RT : Int → jG → jH → Prop} {P : jK} {G : jG} {σ : jH} {cs ss : Nat} {x0 : Int} {x1 : Int} {x2 : Int} {x3 : Int} (h :
  ((x3 ≠ 0 →
    (G.2.1 x0).1 = 20 ∧
    (G.2.1 x0).1 = 20 ∧
    (G.2.1 (G.2.2 x0 42)).1 = 1 ∧ (0 : Int) ≤ (σ x0 43) ∧ (σ x0 43) < (G.2.1 (G.2.2 x0 42)).2 ∧
    (G.2.1 x0).1 = 20 ∧
    (G.2.1 x0).1 = 20 ∧
    P 67 [some (vR x0), some (vI x1), some (vI (w32 (x2 + 1))), none, none] [] G (ju (ju σ (G.2.2 x0 42) (σ x0 43) x2) x0 43 (w32 (((ju σ (G.2.2 x0 42) (σ x0 43) x2) x0 43) + 1))) cs ss) ∧
  (x3 = 0 →
    P 67 [some (vR x0), some (vI x1), some (vI (w32 (x2 + 1))), none, none] [] G σ cs ss))) :
  jwp C d mc ms RT k_Model_begins j0 q_Model_begins P 16 143 [some (vR x0), some (vI x1), some (vI x2), some (vI x3), none] [] G σ cs ss := h

def q_Model_begun : List (Nat × List Bool) := []
set_option maxRecDepth 20000 in
theorem b_Model_begun_0 {C : jC} {d mc ms : Nat} {RT : Int → jG → jH → Prop} {P : jK} {G : jG} {σ : jH} {cs ss : Nat} {x0 : Int} {x1 : Int} (h :
  (G.2.1 x0).1 = 20 ∧
  cN C.1 d m_Model_in [vL x1, vL 0, vL (w32 ((σ x0 43) - 1))] G σ (fun (r1 : Int) (σ1 : jH) =>
  ((r1 = 0 →
    RT (-1) G σ1) ∧
  (r1 ≠ 0 →
    (G.2.1 x0).1 = 20 ∧
    (G.2.1 (G.2.2 x0 42)).1 = 1 ∧ (0 : Int) ≤ x1 ∧ x1 < (G.2.1 (G.2.2 x0 42)).2 ∧
    RT (σ1 (G.2.2 x0 42) x1) G σ1)))) :
  jwp C d mc ms RT k_Model_begun j0 q_Model_begun P 16 0 [some (vR x0), some (vI x1)] [] G σ cs ss := h

def q_Model_print : List (Nat × List Bool) := [(40, [true, true, true, true, true, true, false, false, false]), (130, [true, true, true, true, true, true, false, false, true])]
set_option maxRecDepth 20000 in
theorem b_Model_print_0 {C : jC} {d mc ms : Nat} {RT : Int → jG → jH → Prop} {P : jK} {G : jG} {σ : jH} {cs ss : Nat} {x0 : Int} {x1 : Int} {x2 : Int} (h :
  cN C.1 d m_Model_isEdition [vI x1] G σ (fun (r1 : Int) (σ1 : jH) =>
  ((r1 = 0 →
    RT (-2) G σ1) ∧
  (r1 ≠ 0 →
    cN C.1 d m_Model_in [vL x2, vL 5, vL 100] G σ1 (fun (r2 : Int) (σ2 : jH) =>
    ((r2 ≠ 0 →
      (G.2.1 x0).1 = 20 ∧
      (G.2.1 x0).1 = 20 ∧
      P 40 [some (vR x0), some (vI x1), some (vI x2), some (vI (-1)), some (vI 0), some (vI 0), none, none, none] [] G (ju σ2 x0 46 (σ2 x0 10)) cs ss) ∧
    (r2 = 0 →
      RT (-2) G σ2))))))) :
  jwp C d mc ms RT k_Model_print j0 q_Model_print P 19 0 [some (vR x0), some (vI x1), some (vI x2), none, none, none, none, none, none] [] G σ cs ss := h
set_option maxRecDepth 20000 in
theorem b_Model_print_40 {C : jC} {d mc ms : Nat} {RT : Int → jG → jH → Prop} {P : jK} {G : jG} {σ : jH} {cs ss : Nat} {x0 : Int} {x1 : Int} {x2 : Int} {x3 : Int} {x4 : Int} {x5 : Int} (h :
  (G.2.1 x0).1 = 20 ∧
  (((σ x0 10) ≤ x5 →
    RT (w32 (x3 + 1)) G σ) ∧
  (x5 < (σ x0 10) →
    (G.2.1 x0).1 = 20 ∧
    (G.2.1 (G.2.2 x0 11)).1 = 1 ∧ (0 : Int) ≤ x5 ∧ x5 < (G.2.1 (G.2.2 x0 11)).2 ∧
    (G.2.1 x0).1 = 20 ∧
    cN C.1 d m_Model_manyOf [vR x0, vI x1, vI (σ (G.2.2 x0 11) x5)] G σ (fun (r1 : Int) (σ1 : jH) =>
    (G.2.1 x0).1 = 20 ∧
    (G.2.1 (G.2.2 x0 45)).1 = 1 ∧ (0 : Int) ≤ (σ (G.2.2 x0 11) x5) ∧ (σ (G.2.2 x0 11) x5) < (G.2.1 (G.2.2 x0 45)).2 ∧
    ((r1 = 0 →
      P 40 [some (vR x0), some (vI x1), some (vI x2), some (vI x3), some (vI x4), some (vI (w32 (x5 + 1))), none, none, none] [] G (ju σ1 (G.2.2 x0 45) (σ (G.2.2 x0 11) x5) (-1)) cs ss) ∧
    (r1 ≠ 0 →
      (G.2.1 x0).1 = 20 ∧
      cN C.1 d m_Model_isStop [vR x0, vI (σ (G.2.2 x0 11) x5)] G (ju σ1 (G.2.2 x0 45) (σ (G.2.2 x0 11) x5) (-1)) (fun (r2 : Int) (σ2 : jH) =>
      ((r2 = 0 →
        (6 : Int) ≠ 0 ∧
        (((w32 (1 + (w32 (Int.tdiv (w32 (r1 + 5)) 6)))) ≤ x4 →
          (G.2.1 x0).1 = 20 ∧
          (G.2.1 (G.2.2 x0 45)).1 = 1 ∧ (0 : Int) ≤ (σ (G.2.2 x0 11) x5) ∧ (σ (G.2.2 x0 11) x5) < (G.2.1 (G.2.2 x0 45)).2 ∧
          P 130 [some (vR x0), some (vI x1), some (vI x2), some (vI x3), some (vI x4), some (vI x5), none, none, some (vI (w32 (1 + (w32 (Int.tdiv (w32 (r1 + 5)) 6)))))] [] G (ju σ2 (G.2.2 x0 45) (σ (G.2.2 x0 11) x5) x3) cs ss) ∧
        (x4 < (w32 (1 + (w32 (Int.tdiv (w32 (r1 + 5)) 6)))) →
          ((x2 ≤ x4 →
            (G.2.1 x0).1 = 20 ∧
            (G.2.1 (G.2.2 x0 45)).1 = 1 ∧ (0 : Int) ≤ (σ (G.2.2 x0 11) x5) ∧ (σ (G.2.2 x0 11) x5) < (G.2.1 (G.2.2 x0 45)).2 ∧
            P 130 [some (vR x0), some (vI x1), some (vI x2), some (vI x3), some (vI x4), some (vI x5), none, none, some (vI (w32 (1 + (w32 (Int.tdiv (w32 (r1 + 5)) 6)))))] [] G (ju σ2 (G.2.2 x0 45) (σ (G.2.2 x0 11) x5) x3) cs ss) ∧
          (x4 < x2 →
            (G.2.1 x0).1 = 20 ∧
            (G.2.1 (G.2.2 x0 45)).1 = 1 ∧ (0 : Int) ≤ (σ (G.2.2 x0 11) x5) ∧ (σ (G.2.2 x0 11) x5) < (G.2.1 (G.2.2 x0 45)).2 ∧
            P 130 [some (vR x0), some (vI x1), some (vI x2), some (vI (w32 (x3 + 1))), some (vI x2), some (vI x5), none, none, some (vI (w32 (1 + (w32 (Int.tdiv (w32 (r1 + 5)) 6)))))] [] G (ju σ2 (G.2.2 x0 45) (σ (G.2.2 x0 11) x5) (w32 (x3 + 1))) cs ss))))) ∧
      (r2 ≠ 0 →
        P 40 [some (vR x0), some (vI x1), some (vI x2), some (vI x3), some (vI x4), some (vI (w32 (x5 + 1))), none, none, none] [] G σ2 cs ss))))))))) :
  jwp C d mc ms RT k_Model_print j0 q_Model_print P 47 40 [some (vR x0), some (vI x1), some (vI x2), some (vI x3), some (vI x4), some (vI x5), none, none, none] [] G σ cs ss := h
set_option maxRecDepth 20000 in
theorem b_Model_print_130 {C : jC} {d mc ms : Nat} {RT : Int → jG → jH → Prop} {P : jK} {G : jG} {σ : jH} {cs ss : Nat} {x0 : Int} {x1 : Int} {x2 : Int} {x3 : Int} {x4 : Int} {x5 : Int} {x8 : Int} (h :
  ((x8 ≤ x4 →
    P 40 [some (vR x0), some (vI x1), some (vI x2), some (vI x3), some (vI (w32 (x4 - x8))), some (vI (w32 (x5 + 1))), none, none, none] [] G σ cs ss) ∧
  (x4 < x8 →
    P 130 [some (vR x0), some (vI x1), some (vI x2), some (vI (w32 (x3 + 1))), some (vI x2), some (vI x5), none, none, some (vI (w32 (x8 - x4)))] [] G σ cs ss))) :
  jwp C d mc ms RT k_Model_print j0 q_Model_print P 11 130 [some (vR x0), some (vI x1), some (vI x2), some (vI x3), some (vI x4), some (vI x5), none, none, some (vI x8)] [] G σ cs ss := h

def q_Model_page : List (Nat × List Bool) := []
set_option maxRecDepth 20000 in
theorem b_Model_page_0 {C : jC} {d mc ms : Nat} {RT : Int → jG → jH → Prop} {P : jK} {G : jG} {σ : jH} {cs ss : Nat} {x0 : Int} {x1 : Int} (h :
  (G.2.1 x0).1 = 20 ∧
  cN C.1 d m_Model_in [vL x1, vL 0, vL (w32 ((σ x0 46) - 1))] G σ (fun (r1 : Int) (σ1 : jH) =>
  ((r1 = 0 →
    RT (-1) G σ1) ∧
  (r1 ≠ 0 →
    (G.2.1 x0).1 = 20 ∧
    (G.2.1 (G.2.2 x0 45)).1 = 1 ∧ (0 : Int) ≤ x1 ∧ x1 < (G.2.1 (G.2.2 x0 45)).2 ∧
    RT (σ1 (G.2.2 x0 45) x1) G σ1)))) :
  jwp C d mc ms RT k_Model_page j0 q_Model_page P 16 0 [some (vR x0), some (vI x1)] [] G σ cs ss := h

def q_Model_count : List (Nat × List Bool) := [(106, [true, false, true, true]), (130, [true, false, true, true]), (163, [true, false, true, true])]
set_option maxRecDepth 20000 in
theorem b_Model_count_0 {C : jC} {d mc ms : Nat} {RT : Int → jG → jH → Prop} {P : jK} {G : jG} {σ : jH} {cs ss : Nat} {x0 : Int} {x1 : Int} (h :
  ((x1 < 0 ∨ 8 < x1 →
    RT (-1) G σ) ∧
  (x1 = 0 →
    (G.2.1 x0).1 = 20 ∧
    cN C.1 d m_Model_linesOf [vR x0, vI 0] G σ (fun (r1 : Int) (σ1 : jH) =>
    (G.2.1 x0).1 = 20 ∧
    cN C.1 d m_Model_linesOf [vR x0, vI 1] G σ1 (fun (r2 : Int) (σ2 : jH) =>
    RT (w32 (r1 + r2)) G σ2))) ∧
  (x1 = 1 →
    (G.2.1 x0).1 = 20 ∧
    (G.2.1 (G.2.2 x0 4)).1 = 1 ∧ (0 : Int) ≤ 0 ∧ 0 < (G.2.1 (G.2.2 x0 4)).2 ∧
    (G.2.1 x0).1 = 20 ∧
    (G.2.1 (G.2.2 x0 4)).1 = 1 ∧ (0 : Int) ≤ 1 ∧ 1 < (G.2.1 (G.2.2 x0 4)).2 ∧
    RT (w32 ((σ (G.2.2 x0 4) 0) + (σ (G.2.2 x0 4) 1))) G σ) ∧
  (x1 = 2 →
    (G.2.1 x0).1 = 20 ∧
    (G.2.1 (G.2.2 x0 1)).1 = 1 ∧ (0 : Int) ≤ 0 ∧ 0 < (G.2.1 (G.2.2 x0 1)).2 ∧
    RT (σ (G.2.2 x0 1) 0) G σ) ∧
  (x1 = 3 →
    (G.2.1 x0).1 = 20 ∧
    (G.2.1 (G.2.2 x0 1)).1 = 1 ∧ (0 : Int) ≤ 1 ∧ 1 < (G.2.1 (G.2.2 x0 1)).2 ∧
    RT (σ (G.2.2 x0 1) 1) G σ) ∧
  (x1 = 4 →
    (G.2.1 x0).1 = 20 ∧
    (G.2.1 (G.2.2 x0 1)).1 = 1 ∧ (0 : Int) ≤ 2 ∧ 2 < (G.2.1 (G.2.2 x0 1)).2 ∧
    RT (σ (G.2.2 x0 1) 2) G σ) ∧
  (x1 = 5 →
    (G.2.1 x0).1 = 20 ∧
    RT (σ x0 15) G σ) ∧
  (x1 = 6 →
    P 106 [some (vR x0), none, some (vI 0), some (vI 0)] [] G σ cs ss) ∧
  (x1 = 7 →
    P 130 [some (vR x0), none, some (vI 0), some (vI 0)] [] G σ cs ss) ∧
  (x1 = 8 →
    P 163 [some (vR x0), none, some (vI 0), some (vI 0)] [] G σ cs ss) ∧ True)) :
  jwp C d mc ms RT k_Model_count j0 q_Model_count P 14 0 [some (vR x0), some (vI x1), none, none] [] G σ cs ss := h
set_option maxRecDepth 20000 in
theorem b_Model_count_106 {C : jC} {d mc ms : Nat} {RT : Int → jG → jH → Prop} {P : jK} {G : jG} {σ : jH} {cs ss : Nat} {x0 : Int} {x2 : Int} {x3 : Int} (h :
  (((4 : Int) ≤ x3 →
    RT x2 G σ) ∧
  (x3 < 4 →
    (G.2.1 x0).1 = 20 ∧
    cN C.1 d m_Model_hand [vR x0, vI x3, vI 0] G σ (fun (r1 : Int) (σ1 : jH) =>
    P 106 [some (vR x0), none, some (vI (w32 (x2 + r1))), some (vI (w32 (x3 + 1)))] [] G σ1 cs ss)))) :
  jwp C d mc ms RT k_Model_count j0 q_Model_count P 12 106 [some (vR x0), none, some (vI x2), some (vI x3)] [] G σ cs ss := h
set_option maxRecDepth 20000 in
theorem b_Model_count_130 {C : jC} {d mc ms : Nat} {RT : Int → jG → jH → Prop} {P : jK} {G : jG} {σ : jH} {cs ss : Nat} {x0 : Int} {x2 : Int} {x3 : Int} (h :
  (((4 : Int) ≤ x3 →
    RT x2 G σ) ∧
  (x3 < 4 →
    (G.2.1 x0).1 = 20 ∧
    (G.2.1 (G.2.2 x0 47)).1 = 1 ∧ (0 : Int) ≤ x3 ∧ x3 < (G.2.1 (G.2.2 x0 47)).2 ∧
    (((σ (G.2.2 x0 47) x3) ≠ (-1) →
      P 130 [some (vR x0), none, some (vI (w32 (x2 + 1))), some (vI (w32 (x3 + 1)))] [] G σ cs ss) ∧
    ((σ (G.2.2 x0 47) x3) = (-1) →
      P 130 [some (vR x0), none, some (vI (w32 (x2 + 0))), some (vI (w32 (x3 + 1)))] [] G σ cs ss))))) :
  jwp C d mc ms RT k_Model_count j0 q_Model_count P 16 130 [some (vR x0), none, some (vI x2), some (vI x3)] [] G σ cs ss := h
set_option maxRecDepth 20000 in
theorem b_Model_count_163 {C : jC} {d mc ms : Nat} {RT : Int → jG → jH → Prop} {P : jK} {G : jG} {σ : jH} {cs ss : Nat} {x0 : Int} {x2 : Int} {x3 : Int} (h :
  (((26 : Int) ≤ x3 →
    RT x2 G σ) ∧
  (x3 < 26 →
    (G.2.1 x0).1 = 20 ∧
    (G.2.1 (G.2.2 x0 1)).1 = 1 ∧ (0 : Int) ≤ (w32 (5 + x3)) ∧ (w32 (5 + x3)) < (G.2.1 (G.2.2 x0 1)).2 ∧
    (((σ (G.2.2 x0 1) (w32 (5 + x3))) ≠ (-1) →
      P 163 [some (vR x0), none, some (vI (w32 (x2 + 1))), some (vI (w32 (x3 + 1)))] [] G σ cs ss) ∧
    ((σ (G.2.2 x0 1) (w32 (5 + x3))) = (-1) →
      P 163 [some (vR x0), none, some (vI (w32 (x2 + 0))), some (vI (w32 (x3 + 1)))] [] G σ cs ss))))) :
  jwp C d mc ms RT k_Model_count j0 q_Model_count P 18 163 [some (vR x0), none, some (vI x2), some (vI x3)] [] G σ cs ss := h

def q_Model_row : List (Nat × List Bool) := [(52, [true, true, false, false, true])]
set_option maxRecDepth 20000 in
theorem b_Model_row_0 {C : jC} {d mc ms : Nat} {RT : Int → jG → jH → Prop} {P : jK} {G : jG} {σ : jH} {cs ss : Nat} {x0 : Int} {x1 : Int} {x2 : Int} {x3 : Int} (h :
  cN C.1 d m_Model_isSlot [vI x1] G σ (fun (r1 : Int) (σ1 : jH) =>
  ((r1 = 0 →
    RT (-2) G σ1) ∧
  (r1 ≠ 0 →
    cN C.1 d m_Model_in [vL x2, vL 0, vL 3] G σ1 (fun (r2 : Int) (σ2 : jH) =>
    ((r2 = 0 →
      RT (-2) G σ2) ∧
    (r2 ≠ 0 →
      ((x3 ≤ 60 →
        (((0 : Int) ≤ x3 →
          (G.2.1 x0).1 = 20 ∧
          (G.2.1 (G.2.2 x0 47)).1 = 1 ∧ (0 : Int) ≤ x1 ∧ x1 < (G.2.1 (G.2.2 x0 47)).2 ∧
          (G.2.1 x0).1 = 20 ∧
          (G.2.1 (G.2.2 x0 48)).1 = 1 ∧ (0 : Int) ≤ x1 ∧ x1 < (G.2.1 (G.2.2 x0 48)).2 ∧
          P 52 [some (vR x0), some (vI x1), none, none, some (vI 0)] [] G (ju (ju σ2 (G.2.2 x0 47) x1 x3) (G.2.2 x0 48) x1 x2) cs ss) ∧
        (x3 < 0 →
          RT (-3) G σ2))) ∧
      ((60 : Int) < x3 →
        RT (-2) G σ2))))))))) :
  jwp C d mc ms RT k_Model_row j0 q_Model_row P 26 0 [some (vR x0), some (vI x1), some (vI x2), some (vI x3), none] [] G σ cs ss := h
set_option maxRecDepth 20000 in
theorem b_Model_row_52 {C : jC} {d mc ms : Nat} {RT : Int → jG → jH → Prop} {P : jK} {G : jG} {σ : jH} {cs ss : Nat} {x0 : Int} {x1 : Int} {x4 : Int} (h :
  (((60 : Int) ≤ x4 →
    RT 0 G σ) ∧
  (x4 < 60 →
    (G.2.1 x0).1 = 20 ∧
    (G.2.1 (G.2.2 x0 49)).1 = 4 ∧ (0 : Int) ≤ (w32 ((w32 (60 * x1)) + x4)) ∧ (w32 ((w32 (60 * x1)) + x4)) < (G.2.1 (G.2.2 x0 49)).2 ∧
    P 52 [some (vR x0), some (vI x1), none, none, some (vI (w32 (x4 + 1)))] [] G (ju σ (G.2.2 x0 49) (w32 ((w32 (60 * x1)) + x4)) 0) cs ss))) :
  jwp C d mc ms RT k_Model_row j0 q_Model_row P 14 52 [some (vR x0), some (vI x1), none, none, some (vI x4)] [] G σ cs ss := h

def q_Model_write : List (Nat × List Bool) := []
set_option maxRecDepth 20000 in
theorem b_Model_write_0 {C : jC} {d mc ms : Nat} {RT : Int → jG → jH → Prop} {P : jK} {G : jG} {σ : jH} {cs ss : Nat} {x0 : Int} {x1 : Int} {x2 : Int} {x3 : Int} (h :
  cN C.1 d m_Model_isSlot [vI x1] G σ (fun (r1 : Int) (σ1 : jH) =>
  ((r1 ≠ 0 →
    (G.2.1 x0).1 = 20 ∧
    (G.2.1 (G.2.2 x0 47)).1 = 1 ∧ (0 : Int) ≤ x1 ∧ x1 < (G.2.1 (G.2.2 x0 47)).2 ∧
    (((σ1 (G.2.2 x0 47) x1) ≠ (-1) →
      (G.2.1 x0).1 = 20 ∧
      (G.2.1 (G.2.2 x0 47)).1 = 1 ∧ (0 : Int) ≤ x1 ∧ x1 < (G.2.1 (G.2.2 x0 47)).2 ∧
      cN C.1 d m_Model_in [vL x2, vL 0, vL (w32 ((σ1 (G.2.2 x0 47) x1) - 1))] G σ1 (fun (r2 : Int) (σ2 : jH) =>
      ((r2 ≠ 0 →
        (G.2.1 x0).1 = 20 ∧
        (G.2.1 x0).1 = 20 ∧
        (G.2.1 (G.2.2 x0 48)).1 = 1 ∧ (0 : Int) ≤ x1 ∧ x1 < (G.2.1 (G.2.2 x0 48)).2 ∧
        cN C.1 d m_Model_cut [vL x3, vI (σ2 (G.2.2 x0 48) x1)] G σ2 (fun (r3 : Int) (σ3 : jH) =>
        (G.2.1 (G.2.2 x0 49)).1 = 4 ∧ (0 : Int) ≤ (w32 ((w32 (60 * x1)) + x2)) ∧ (w32 ((w32 (60 * x1)) + x2)) < (G.2.1 (G.2.2 x0 49)).2 ∧
        RT 0 G (ju σ3 (G.2.2 x0 49) (w32 ((w32 (60 * x1)) + x2)) r3))) ∧
      (r2 = 0 →
        RT (-7) G σ2)))) ∧
    ((σ1 (G.2.2 x0 47) x1) = (-1) →
      RT (-6) G σ1))) ∧
  (r1 = 0 →
    RT (-2) G σ1)))) :
  jwp C d mc ms RT k_Model_write j0 q_Model_write P 37 0 [some (vR x0), some (vI x1), some (vI x2), some (vL x3), none] [] G σ cs ss := h

def q_Model_cut : List (Nat × List Bool) := []
set_option maxRecDepth 20000 in
theorem b_Model_cut_0 {C : jC} {d mc ms : Nat} {RT : Int → jG → jH → Prop} {P : jK} {G : jG} {σ : jH} {cs ss : Nat} {x0 : Int} {x2 : Int} (h :
  RT (jshr64 (jshl64 x0 (w32 (64 - (jshl32 8 x2)))) (w32 (64 - (jshl32 8 x2)))) G σ) :
  jwp C d mc ms RT k_Model_cut j0 q_Model_cut P 12 0 [some (vL x0), none, some (vI x2), none] [] G σ cs ss := h

def q_Model_paste : List (Nat × List Bool) := [(113, [true, true, true, true, true, true, true]), (150, [true, false, false, true, true, true, true])]
set_option maxRecDepth 20000 in
theorem b_Model_paste_0 {C : jC} {d mc ms : Nat} {RT : Int → jG → jH → Prop} {P : jK} {G : jG} {σ : jH} {cs ss : Nat} {x0 : Int} {x1 : Int} {x2 : Int} {x3 : Int} {x4 : Int} {x5 : Int} (h :
  cN C.1 d m_Model_isSlot [vI x1] G σ (fun (r1 : Int) (σ1 : jH) =>
  ((r1 = 0 →
    RT (-2) G σ1) ∧
  (r1 ≠ 0 →
    cN C.1 d m_Model_isSlot [vI x3] G σ1 (fun (r2 : Int) (σ2 : jH) =>
    ((r2 ≠ 0 →
      (G.2.1 x0).1 = 20 ∧
      (G.2.1 (G.2.2 x0 47)).1 = 1 ∧ (0 : Int) ≤ x1 ∧ x1 < (G.2.1 (G.2.2 x0 47)).2 ∧
      (((σ2 (G.2.2 x0 47) x1) = (-1) →
        RT (-6) G σ2) ∧
      ((σ2 (G.2.2 x0 47) x1) ≠ (-1) →
        (G.2.1 x0).1 = 20 ∧
        (G.2.1 (G.2.2 x0 47)).1 = 1 ∧ (0 : Int) ≤ x3 ∧ x3 < (G.2.1 (G.2.2 x0 47)).2 ∧
        (((σ2 (G.2.2 x0 47) x3) ≠ (-1) →
          (G.2.1 x0).1 = 20 ∧
          (G.2.1 (G.2.2 x0 48)).1 = 1 ∧ (0 : Int) ≤ x1 ∧ x1 < (G.2.1 (G.2.2 x0 48)).2 ∧
          (G.2.1 x0).1 = 20 ∧
          (G.2.1 (G.2.2 x0 48)).1 = 1 ∧ (0 : Int) ≤ x3 ∧ x3 < (G.2.1 (G.2.2 x0 48)).2 ∧
          (((σ2 (G.2.2 x0 48) x1) = (σ2 (G.2.2 x0 48) x3) →
            ((x2 < 0 →
              RT (-7) G σ2) ∧
            ((0 : Int) ≤ x2 →
              ((x4 < 0 →
                RT (-7) G σ2) ∧
              ((0 : Int) ≤ x4 →
                ((x5 < 0 →
                  RT (-7) G σ2) ∧
                ((0 : Int) ≤ x5 →
                  (G.2.1 x0).1 = 20 ∧
                  (G.2.1 (G.2.2 x0 47)).1 = 1 ∧ (0 : Int) ≤ x1 ∧ x1 < (G.2.1 (G.2.2 x0 47)).2 ∧
                  (((0 : Int) < (jcmp (w64 (x2 + x5)) (σ2 (G.2.2 x0 47) x1)) →
                    RT (-7) G σ2) ∧
                  ((jcmp (w64 (x2 + x5)) (σ2 (G.2.2 x0 47) x1)) ≤ 0 →
                    (G.2.1 x0).1 = 20 ∧
                    (G.2.1 (G.2.2 x0 47)).1 = 1 ∧ (0 : Int) ≤ x3 ∧ x3 < (G.2.1 (G.2.2 x0 47)).2 ∧
                    (((jcmp (w64 (x4 + x5)) (σ2 (G.2.2 x0 47) x3)) ≤ 0 →
                      P 113 [some (vR x0), some (vI x1), some (vI x2), some (vI x3), some (vI x4), some (vI x5), some (vI 0)] [] G σ2 cs ss) ∧
                    ((0 : Int) < (jcmp (w64 (x4 + x5)) (σ2 (G.2.2 x0 47) x3)) →
                      RT (-7) G σ2))))))))))) ∧
          ((σ2 (G.2.2 x0 48) x1) ≠ (σ2 (G.2.2 x0 48) x3) →
            RT (-8) G σ2))) ∧
        ((σ2 (G.2.2 x0 47) x3) = (-1) →
          RT (-6) G σ2))))) ∧
    (r2 = 0 →
      RT (-2) G σ2))))))) :
  jwp C d mc ms RT k_Model_paste j0 q_Model_paste P 59 0 [some (vR x0), some (vI x1), some (vI x2), some (vI x3), some (vI x4), some (vI x5), none] [] G σ cs ss := h
set_option maxRecDepth 20000 in
theorem b_Model_paste_113 {C : jC} {d mc ms : Nat} {RT : Int → jG → jH → Prop} {P : jK} {G : jG} {σ : jH} {cs ss : Nat} {x0 : Int} {x1 : Int} {x2 : Int} {x3 : Int} {x4 : Int} {x5 : Int} {x6 : Int} (h :
  ((x5 ≤ x6 →
    P 150 [some (vR x0), none, none, some (vI x3), some (vI x4), some (vI x5), some (vI 0)] [] G σ cs ss) ∧
  (x6 < x5 →
    (G.2.1 x0).1 = 20 ∧
    (G.2.1 x0).1 = 20 ∧
    (G.2.1 (G.2.2 x0 49)).1 = 4 ∧ (0 : Int) ≤ (w32 ((w32 ((w32 (60 * x1)) + x2)) + x6)) ∧ (w32 ((w32 ((w32 (60 * x1)) + x2)) + x6)) < (G.2.1 (G.2.2 x0 49)).2 ∧
    (G.2.1 (G.2.2 x0 50)).1 = 4 ∧ (0 : Int) ≤ x6 ∧ x6 < (G.2.1 (G.2.2 x0 50)).2 ∧
    P 113 [some (vR x0), some (vI x1), some (vI x2), some (vI x3), some (vI x4), some (vI x5), some (vI (w32 (x6 + 1)))] [] G (ju σ (G.2.2 x0 50) x6 (σ (G.2.2 x0 49) (w32 ((w32 ((w32 (60 * x1)) + x2)) + x6)))) cs ss))) :
  jwp C d mc ms RT k_Model_paste j0 q_Model_paste P 19 113 [some (vR x0), some (vI x1), some (vI x2), some (vI x3), some (vI x4), some (vI x5), some (vI x6)] [] G σ cs ss := h
set_option maxRecDepth 20000 in
theorem b_Model_paste_150 {C : jC} {d mc ms : Nat} {RT : Int → jG → jH → Prop} {P : jK} {G : jG} {σ : jH} {cs ss : Nat} {x0 : Int} {x3 : Int} {x4 : Int} {x5 : Int} {x6 : Int} (h :
  ((x5 ≤ x6 →
    RT 0 G σ) ∧
  (x6 < x5 →
    (G.2.1 x0).1 = 20 ∧
    (G.2.1 x0).1 = 20 ∧
    (G.2.1 (G.2.2 x0 50)).1 = 4 ∧ (0 : Int) ≤ x6 ∧ x6 < (G.2.1 (G.2.2 x0 50)).2 ∧
    (G.2.1 (G.2.2 x0 49)).1 = 4 ∧ (0 : Int) ≤ (w32 ((w32 ((w32 (60 * x3)) + x4)) + x6)) ∧ (w32 ((w32 ((w32 (60 * x3)) + x4)) + x6)) < (G.2.1 (G.2.2 x0 49)).2 ∧
    P 150 [some (vR x0), none, none, some (vI x3), some (vI x4), some (vI x5), some (vI (w32 (x6 + 1)))] [] G (ju σ (G.2.2 x0 49) (w32 ((w32 ((w32 (60 * x3)) + x4)) + x6)) (σ (G.2.2 x0 50) x6)) cs ss))) :
  jwp C d mc ms RT k_Model_paste j0 q_Model_paste P 19 150 [some (vR x0), none, none, some (vI x3), some (vI x4), some (vI x5), some (vI x6)] [] G σ cs ss := h
