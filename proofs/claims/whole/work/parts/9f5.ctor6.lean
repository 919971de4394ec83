/-! The world behind both constructors is gW; the reference's first rows -/
def w00 : jL := (0, [], [])
def wLit : jL := (232, [(232, 232, 4, 60), (231, 231, 4, 240), (230, 230, 1, 4), (229, 229, 1, 4), (228, 228, 1, 680), (227, 227, 1, 400), (226, 226, 1, 680), (225, 225, 1, 40), (224, 224, 1, 40), (223, 223, 3, 680), (222, 222, 1, 90601), (221, 221, 1, 8), (220, 220, 1, 40), (219, 219, 1, 1020), (218, 218, 1, 21), (207, 207, 7, 10), (208, 217, 3, 340), (206, 206, 1, 60), (205, 205, 1, 61), (204, 204, 1, 2597), (203, 203, 1, 5), (202, 202, 2, 400), (201, 201, 1, 21), (200, 200, 1, 26), (199, 199, 1, 680), (198, 198, 1, 14280), (197, 197, 1, 14280), (196, 196, 1, 680), (195, 195, 1, 680), (194, 194, 1, 680), (193, 193, 1, 2), (192, 192, 3, 3), (191, 191, 1, 98031), (190, 190, 1, 32677), (189, 189, 20, 51), (188, 188, 2, 60), (187, 187, 1, 4), (186, 186, 1, 4), (185, 185, 4, 240), (184, 184, 16, 4), (183, 183, 1, 600), (182, 182, 1, 40), (181, 181, 1, 40), (180, 180, 1, 8), (179, 179, 11, 3), (178, 178, 1, 300), (177, 177, 1, 300), (176, 176, 1, 300), (175, 175, 2, 40), (174, 174, 2, 300), (159, 159, 6, 14), (160, 173, 2, 300), (158, 158, 11, 3), (157, 157, 8, 13), (156, 156, 11, 3), (155, 155, 2, 26), (154, 154, 1, 20), (153, 153, 4, 80), (152, 152, 4, 80), (151, 151, 12, 2), (150, 150, 4, 20), (149, 149, 4, 20), (148, 148, 12, 2), (147, 147, 4, 20), (146, 146, 4, 20), (145, 145, 12, 2), (144, 144, 2, 26), (143, 143, 2, 26), (142, 142, 15, 12), (141, 141, 14, 3), (140, 140, 17, 8), (139, 139, 1, 301), (138, 138, 1, 301), (137, 137, 4, 1500), (136, 136, 1, 300), (135, 135, 13, 6), (134, 134, 11, 3), (133, 133, 2, 600), (132, 132, 1, 40), (131, 131, 1, 40), (130, 130, 1, 600), (129, 129, 1, 300), (128, 128, 1, 600), (127, 127, 1, 300), (126, 126, 1, 300), (125, 125, 1, 300), (124, 124, 1, 300), (123, 123, 4, 300), (122, 122, 4, 300), (121, 121, 12, 2), (120, 120, 18, 14), (119, 119, 11, 3), (118, 118, 2, 600), (117, 117, 1, 40), (116, 116, 1, 40), (115, 115, 1, 600), (114, 114, 1, 300), (113, 113, 1, 600), (112, 112, 1, 300), (111, 111, 1, 300), (110, 110, 1, 300), (109, 109, 1, 300), (108, 108, 4, 300), (107, 107, 4, 300), (106, 106, 12, 2), (105, 105, 18, 14), (104, 104, 4, 600), (103, 103, 4, 600), (102, 102, 12, 2), (101, 101, 1, 600), (100, 100, 4, 600), (99, 99, 4, 600), (98, 98, 12, 2), (97, 97, 9, 7), (96, 96, 3, 3), (95, 95, 4, 1200), (94, 94, 4, 1200), (93, 93, 12, 2), (92, 92, 1, 2), (91, 91, 2, 80), (90, 90, 1, 80), (89, 89, 1, 80), (88, 88, 2, 4800), (87, 87, 2, 26), (86, 86, 1, 20), (85, 85, 4, 80), (84, 84, 4, 80), (83, 83, 12, 2), (82, 82, 4, 20), (81, 81, 4, 20), (80, 80, 12, 2), (79, 79, 4, 20), (78, 78, 4, 20), (77, 77, 12, 2), (76, 76, 2, 26), (75, 75, 2, 26), (74, 74, 15, 12), (73, 73, 10, 7), (72, 72, 4, 1200), (71, 71, 4, 1200), (70, 70, 12, 2), (69, 69, 1, 2), (68, 68, 2, 80), (67, 67, 1, 80), (66, 66, 1, 80), (65, 65, 2, 4800), (64, 64, 2, 26), (63, 63, 1, 20), (62, 62, 4, 80), (61, 61, 4, 80), (60, 60, 12, 2), (59, 59, 4, 20), (58, 58, 4, 20), (57, 57, 12, 2), (56, 56, 4, 20), (55, 55, 4, 20), (54, 54, 12, 2), (53, 53, 2, 26), (52, 52, 2, 26), (51, 51, 15, 12), (50, 50, 10, 7), (49, 49, 4, 1200), (48, 48, 4, 1200), (47, 47, 12, 2), (46, 46, 1, 2), (45, 45, 2, 80), (44, 44, 1, 80), (43, 43, 1, 80), (42, 42, 2, 4800), (41, 41, 2, 26), (40, 40, 1, 20), (39, 39, 4, 80), (38, 38, 4, 80), (37, 37, 12, 2), (36, 36, 4, 20), (35, 35, 4, 20), (34, 34, 12, 2), (33, 33, 4, 20), (32, 32, 4, 20), (31, 31, 12, 2), (30, 30, 2, 26), (29, 29, 2, 26), (28, 28, 15, 12), (27, 27, 10, 7), (26, 26, 5, 3), (25, 25, 4, 1200), (24, 24, 4, 1200), (23, 23, 12, 2), (22, 22, 1, 2), (21, 21, 2, 80), (20, 20, 1, 80), (19, 19, 1, 80), (18, 18, 2, 4800), (17, 17, 2, 26), (16, 16, 1, 20), (15, 15, 4, 80), (14, 14, 4, 80), (13, 13, 12, 2), (12, 12, 4, 20), (11, 11, 4, 20), (10, 10, 12, 2), (9, 9, 4, 20), (8, 8, 4, 20), (7, 7, 12, 2), (6, 6, 2, 26), (5, 5, 2, 26), (4, 4, 15, 12), (3, 3, 10, 7), (2, 2, 2, 400), (1, 1, 19, 20)], [(1, 189, 50, 232), (0, 232, 232, 0), (1, 189, 49, 231), (0, 231, 231, 0), (1, 189, 48, 230), (0, 230, 230, 0), (1, 189, 47, 229), (0, 229, 229, 0), (1, 189, 45, 228), (0, 228, 228, 0), (1, 189, 44, 227), (0, 227, 227, 0), (1, 189, 42, 226), (0, 226, 226, 0), (1, 189, 40, 225), (0, 225, 225, 0), (1, 189, 39, 224), (0, 224, 224, 0), (1, 189, 38, 223), (0, 223, 223, 0), (1, 189, 37, 222), (0, 222, 222, 0), (1, 189, 35, 221), (0, 221, 221, 0), (1, 189, 34, 220), (0, 220, 220, 0), (1, 189, 32, 219), (0, 219, 219, 0), (1, 189, 31, 218), (0, 218, 218, 0), (1, 189, 28, 207), (2, 207, 0, 208), (0, 208, 217, 0), (1, 189, 27, 206), (0, 206, 206, 0), (1, 189, 26, 205), (0, 205, 205, 0), (1, 189, 24, 204), (0, 204, 204, 0), (1, 189, 16, 203), (0, 203, 203, 0), (1, 189, 14, 202), (0, 202, 202, 0), (1, 189, 13, 201), (0, 201, 201, 0), (1, 189, 12, 200), (0, 200, 200, 0), (1, 189, 11, 199), (0, 199, 199, 0), (1, 189, 9, 198), (0, 198, 198, 0), (1, 189, 8, 197), (0, 197, 197, 0), (1, 189, 7, 196), (0, 196, 196, 0), (1, 189, 6, 195), (0, 195, 195, 0), (1, 189, 5, 194), (0, 194, 194, 0), (1, 189, 4, 193), (0, 193, 193, 0), (1, 189, 3, 192), (0, 192, 192, 0), (1, 189, 2, 191), (0, 191, 191, 0), (1, 189, 1, 190), (0, 190, 190, 0), (0, 189, 189, 0), (1, 1, 19, 184), (1, 184, 3, 188), (0, 188, 188, 0), (1, 184, 2, 187), (0, 187, 187, 0), (1, 184, 1, 186), (0, 186, 186, 0), (1, 184, 0, 185), (0, 185, 185, 0), (0, 184, 184, 0), (1, 1, 18, 183), (0, 183, 183, 0), (1, 1, 14, 182), (0, 182, 182, 0), (1, 1, 13, 181), (0, 181, 181, 0), (1, 1, 11, 180), (0, 180, 180, 0), (1, 1, 10, 179), (0, 179, 179, 0), (1, 1, 9, 157), (1, 157, 2, 97), (1, 157, 1, 4), (1, 157, 0, 140), (1, 157, 12, 178), (0, 178, 178, 0), (1, 157, 11, 177), (0, 177, 177, 0), (1, 157, 10, 176), (0, 176, 176, 0), (1, 157, 8, 175), (0, 175, 175, 0), (1, 157, 7, 174), (0, 174, 174, 0), (1, 157, 6, 159), (2, 159, 0, 160), (0, 160, 173, 0), (1, 157, 3, 158), (0, 158, 158, 0), (0, 157, 157, 0), (1, 1, 8, 141), (1, 141, 1, 140), (1, 141, 2, 156), (0, 156, 156, 0), (1, 141, 0, 142), (1, 142, 10, 155), (0, 155, 155, 0), (1, 142, 9, 154), (0, 154, 154, 0), (1, 142, 8, 151), (1, 151, 1, 153), (0, 153, 153, 0), (1, 151, 0, 152), (0, 152, 152, 0), (0, 151, 151, 0), (1, 142, 6, 148), (1, 148, 1, 150), (0, 150, 150, 0), (1, 148, 0, 149), (0, 149, 149, 0), (0, 148, 148, 0), (1, 142, 4, 145), (1, 145, 1, 147), (0, 147, 147, 0), (1, 145, 0, 146), (0, 146, 146, 0), (0, 145, 145, 0), (1, 142, 2, 144), (0, 144, 144, 0), (1, 142, 1, 143), (0, 143, 143, 0), (0, 142, 142, 0), (0, 141, 141, 0), (1, 1, 7, 140), (1, 140, 0, 2), (0, 140, 140, 0), (1, 1, 6, 135), (0, 139, 139, 0), (0, 138, 138, 0), (1, 135, 3, 137), (0, 137, 137, 0), (1, 135, 2, 136), (0, 136, 136, 0), (0, 135, 135, 0), (1, 1, 5, 97), (1, 97, 6, 120), (1, 120, 13, 134), (0, 134, 134, 0), (1, 120, 12, 133), (0, 133, 133, 0), (1, 120, 11, 132), (0, 132, 132, 0), (1, 120, 10, 131), (0, 131, 131, 0), (1, 120, 8, 130), (0, 130, 130, 0), (1, 120, 7, 129), (0, 129, 129, 0), (1, 120, 6, 128), (0, 128, 128, 0), (1, 120, 5, 127), (0, 127, 127, 0), (1, 120, 4, 126), (0, 126, 126, 0), (1, 120, 3, 125), (0, 125, 125, 0), (1, 120, 2, 124), (0, 124, 124, 0), (1, 120, 1, 121), (1, 121, 1, 123), (0, 123, 123, 0), (1, 121, 0, 122), (0, 122, 122, 0), (0, 121, 121, 0), (0, 120, 120, 0), (1, 97, 5, 105), (1, 105, 13, 119), (0, 119, 119, 0), (1, 105, 12, 118), (0, 118, 118, 0), (1, 105, 11, 117), (0, 117, 117, 0), (1, 105, 10, 116), (0, 116, 116, 0), (1, 105, 8, 115), (0, 115, 115, 0), (1, 105, 7, 114), (0, 114, 114, 0), (1, 105, 6, 113), (0, 113, 113, 0), (1, 105, 5, 112), (0, 112, 112, 0), (1, 105, 4, 111), (0, 111, 111, 0), (1, 105, 3, 110), (0, 110, 110, 0), (1, 105, 2, 109), (0, 109, 109, 0), (1, 105, 1, 106), (1, 106, 1, 108), (0, 108, 108, 0), (1, 106, 0, 107), (0, 107, 107, 0), (0, 106, 106, 0), (0, 105, 105, 0), (1, 97, 4, 102), (1, 102, 1, 104), (0, 104, 104, 0), (1, 102, 0, 103), (0, 103, 103, 0), (0, 102, 102, 0), (1, 97, 3, 101), (0, 101, 101, 0), (1, 97, 2, 98), (1, 98, 1, 100), (0, 100, 100, 0), (1, 98, 0, 99), (0, 99, 99, 0), (0, 98, 98, 0), (0, 97, 97, 0), (1, 1, 4, 96), (0, 96, 96, 0), (1, 1, 3, 26), (1, 26, 2, 73), (1, 73, 6, 93), (1, 93, 1, 95), (0, 95, 95, 0), (1, 93, 0, 94), (0, 94, 94, 0), (0, 93, 93, 0), (1, 73, 5, 92), (0, 92, 92, 0), (1, 73, 4, 91), (0, 91, 91, 0), (1, 73, 3, 90), (0, 90, 90, 0), (1, 73, 2, 89), (0, 89, 89, 0), (1, 73, 1, 88), (0, 88, 88, 0), (1, 73, 0, 74), (1, 74, 10, 87), (0, 87, 87, 0), (1, 74, 9, 86), (0, 86, 86, 0), (1, 74, 8, 83), (1, 83, 1, 85), (0, 85, 85, 0), (1, 83, 0, 84), (0, 84, 84, 0), (0, 83, 83, 0), (1, 74, 6, 80), (1, 80, 1, 82), (0, 82, 82, 0), (1, 80, 0, 81), (0, 81, 81, 0), (0, 80, 80, 0), (1, 74, 4, 77), (1, 77, 1, 79), (0, 79, 79, 0), (1, 77, 0, 78), (0, 78, 78, 0), (0, 77, 77, 0), (1, 74, 2, 76), (0, 76, 76, 0), (1, 74, 1, 75), (0, 75, 75, 0), (0, 74, 74, 0), (0, 73, 73, 0), (1, 26, 1, 50), (1, 50, 6, 70), (1, 70, 1, 72), (0, 72, 72, 0), (1, 70, 0, 71), (0, 71, 71, 0), (0, 70, 70, 0), (1, 50, 5, 69), (0, 69, 69, 0), (1, 50, 4, 68), (0, 68, 68, 0), (1, 50, 3, 67), (0, 67, 67, 0), (1, 50, 2, 66), (0, 66, 66, 0), (1, 50, 1, 65), (0, 65, 65, 0), (1, 50, 0, 51), (1, 51, 10, 64), (0, 64, 64, 0), (1, 51, 9, 63), (0, 63, 63, 0), (1, 51, 8, 60), (1, 60, 1, 62), (0, 62, 62, 0), (1, 60, 0, 61), (0, 61, 61, 0), (0, 60, 60, 0), (1, 51, 6, 57), (1, 57, 1, 59), (0, 59, 59, 0), (1, 57, 0, 58), (0, 58, 58, 0), (0, 57, 57, 0), (1, 51, 4, 54), (1, 54, 1, 56), (0, 56, 56, 0), (1, 54, 0, 55), (0, 55, 55, 0), (0, 54, 54, 0), (1, 51, 2, 53), (0, 53, 53, 0), (1, 51, 1, 52), (0, 52, 52, 0), (0, 51, 51, 0), (0, 50, 50, 0), (1, 26, 0, 27), (1, 27, 6, 47), (1, 47, 1, 49), (0, 49, 49, 0), (1, 47, 0, 48), (0, 48, 48, 0), (0, 47, 47, 0), (1, 27, 5, 46), (0, 46, 46, 0), (1, 27, 4, 45), (0, 45, 45, 0), (1, 27, 3, 44), (0, 44, 44, 0), (1, 27, 2, 43), (0, 43, 43, 0), (1, 27, 1, 42), (0, 42, 42, 0), (1, 27, 0, 28), (1, 28, 10, 41), (0, 41, 41, 0), (1, 28, 9, 40), (0, 40, 40, 0), (1, 28, 8, 37), (1, 37, 1, 39), (0, 39, 39, 0), (1, 37, 0, 38), (0, 38, 38, 0), (0, 37, 37, 0), (1, 28, 6, 34), (1, 34, 1, 36), (0, 36, 36, 0), (1, 34, 0, 35), (0, 35, 35, 0), (0, 34, 34, 0), (1, 28, 4, 31), (1, 31, 1, 33), (0, 33, 33, 0), (1, 31, 0, 32), (0, 32, 32, 0), (0, 31, 31, 0), (1, 28, 2, 30), (0, 30, 30, 0), (1, 28, 1, 29), (0, 29, 29, 0), (0, 28, 28, 0), (0, 27, 27, 0), (0, 26, 26, 0), (1, 1, 2, 3), (1, 3, 6, 23), (1, 23, 1, 25), (0, 25, 25, 0), (1, 23, 0, 24), (0, 24, 24, 0), (0, 23, 23, 0), (1, 3, 5, 22), (0, 22, 22, 0), (1, 3, 4, 21), (0, 21, 21, 0), (1, 3, 3, 20), (0, 20, 20, 0), (1, 3, 2, 19), (0, 19, 19, 0), (1, 3, 1, 18), (0, 18, 18, 0), (1, 3, 0, 4), (1, 4, 10, 17), (0, 17, 17, 0), (1, 4, 9, 16), (0, 16, 16, 0), (1, 4, 8, 13), (1, 13, 1, 15), (0, 15, 15, 0), (1, 13, 0, 14), (0, 14, 14, 0), (0, 13, 13, 0), (1, 4, 6, 10), (1, 10, 1, 12), (0, 12, 12, 0), (1, 10, 0, 11), (0, 11, 11, 0), (0, 10, 10, 0), (1, 4, 4, 7), (1, 7, 1, 9), (0, 9, 9, 0), (1, 7, 0, 8), (0, 8, 8, 0), (0, 7, 7, 0), (1, 4, 2, 6), (0, 6, 6, 0), (1, 4, 1, 5), (0, 5, 5, 0), (0, 4, 4, 0), (0, 3, 3, 0), (1, 1, 0, 2), (0, 2, 2, 0), (0, 1, 1, 0)])
set_option maxRecDepth 100000 in
theorem wLit_1 : Nat.beq (fMo 189 (nL (fWP 1 (nL w00 19 20)) 20 51)).1 wLit.1 = true := by decide +kernel
def eqK : List (Int × Int × Nat × Int) → List (Int × Int × Nat × Int) → Bool
  | [], [] => true
  | a :: as, b :: bs => decide (a.1 = b.1) && decide (a.2.1 = b.2.1) && Nat.beq a.2.2.1 b.2.2.1 && decide (a.2.2.2 = b.2.2.2) && eqK as bs
  | _, _ => false
def eqR : List (Nat × Int × Int × Int) → List (Nat × Int × Int × Int) → Bool
  | [], [] => true
  | a :: as, b :: bs => Nat.beq a.1 b.1 && decide (a.2.1 = b.2.1) && decide (a.2.2.1 = b.2.2.1) && decide (a.2.2.2 = b.2.2.2) && eqR as bs
  | _, _ => false
theorem eqK_eq : ∀ {a b : List (Int × Int × Nat × Int)}, eqK a b = true → a = b
  | [], [], _ => rfl
  | [], _ :: _, h => by cases h
  | _ :: _, [], h => by cases h
  | (a1, a2, a3, a4) :: as, (b1, b2, b3, b4) :: bs, h => by
    simp only [eqK, Bool.and_eq_true, decide_eq_true_eq] at h
    obtain ⟨⟨⟨⟨h1, h2⟩, h3⟩, h4⟩, h5⟩ := h
    rw [h1, h2, Nat.eq_of_beq_eq_true h3, h4, eqK_eq h5]
theorem eqR_eq : ∀ {a b : List (Nat × Int × Int × Int)}, eqR a b = true → a = b
  | [], [], _ => rfl
  | [], _ :: _, h => by cases h
  | _ :: _, [], h => by cases h
  | (a1, a2, a3, a4) :: as, (b1, b2, b3, b4) :: bs, h => by
    simp only [eqR, Bool.and_eq_true, decide_eq_true_eq] at h
    obtain ⟨⟨⟨⟨h1, h2⟩, h3⟩, h4⟩, h5⟩ := h
    rw [Nat.eq_of_beq_eq_true h1, h2, h3, h4, eqR_eq h5]
set_option maxRecDepth 100000 in
theorem wLit_2 : eqK (fMo 189 (nL (fWP 1 (nL w00 19 20)) 20 51)).2.1 wLit.2.1 = true := by decide +kernel
set_option maxRecDepth 100000 in
theorem wLit_3 : eqR (fMo 189 (nL (fWP 1 (nL w00 19 20)) 20 51)).2.2 wLit.2.2 = true := by decide +kernel
theorem wLit_eq : fMo 189 (nL (fWP 1 (nL w00 19 20)) 20 51) = wLit := Prod.ext (Nat.eq_of_beq_eq_true wLit_1) (Prod.ext (eqK_eq wLit_2) (eqR_eq wLit_3))
theorem lkK_out {o : Int} (ho : o < 1 ∨ 232 < o) : ∀ ks : List (Int × Int × Nat × Int), ks.all (fun e => decide (1 ≤ e.1) && decide (e.2.1 ≤ 232)) = true → lkK ks o = (0, 0)
  | [], _ => rfl
  | e :: ks, h => by
    rw [List.all_cons, Bool.and_eq_true, Bool.and_eq_true, decide_eq_true_eq, decide_eq_true_eq] at h
    show (if e.1 ≤ o ∧ o ≤ e.2.1 then e.2.2 else lkK ks o) = (0, 0)
    rw [if_neg (by omega)]
    exact lkK_out ho ks h.2
set_option maxRecDepth 100000 in
theorem wLit_in : ∀ n : Nat, n < 232 → lkK wLit.2.1 ((n : Int) + 1) = gtl.getD n (0, 0) := by decide +kernel
set_option maxRecDepth 100000 in
theorem wLit_rng : wLit.2.1.all (fun e => decide (1 ≤ e.1) && decide (e.2.1 ≤ 232)) = true := by decide +kernel
def chkR : Bool := (List.range 232).all (fun n => (fun q : Nat × Int => Nat.blt q.1 5 || (List.range q.2.toNat).all (fun j => decide (lkR wLit.2.2 ((n : Int) + 1) (j : Int) = (grl.getD n []).getD j 0))) (gtl.getD n (0, 0)))
set_option maxRecDepth 100000 in
theorem chkR_ok : chkR = true := by decide +kernel
theorem gtl_len : gtl.length = 232 := by decide +kernel
theorem wLit_k : (toG wLit).2.1 = gW.2.1 := by
  funext o
  show lkK wLit.2.1 o = if o < 1 then (0, 0) else gtl.getD (o.toNat - 1) (0, 0)
  by_cases h : o < 1
  · rw [if_pos h]
    exact lkK_out (Or.inl h) _ wLit_rng
  · rw [if_neg h]
    by_cases h2 : 232 < o
    · rw [lkK_out (Or.inr h2) _ wLit_rng, List.getD_eq_getElem?_getD, List.getElem?_eq_none (by rw [gtl_len]; omega)]
      rfl
    · have := wLit_in (o.toNat - 1) (by omega)
      rw [show ((o.toNat - 1 : Nat) : Int) + 1 = o by omega] at this
      exact this
theorem wLit_r {o : Int} {j : Nat} (h5 : 5 ≤ (gW.2.1 o).1) (hj : (j : Int) < (gW.2.1 o).2) : (toG wLit).2.2 o (j : Int) = gW.2.2 o (j : Int) := by
  have ho : 1 ≤ o ∧ o ≤ 232 := by
    have e : gW.2.1 o = if o < 1 then (0, 0) else gtl.getD (o.toNat - 1) (0, 0) := rfl
    by_cases a : o < 1
    · rw [e, if_pos a] at h5
      exact absurd h5 (by decide)
    · by_cases b : 232 < o
      · rw [e, if_neg a, List.getD_eq_getElem?_getD, List.getElem?_eq_none (by rw [gtl_len]; omega)] at h5
        exact absurd h5 (by decide)
      · omega
  have e : gW.2.1 o = gtl.getD (o.toNat - 1) (0, 0) := by
    show (if o < 1 then (0, 0) else gtl.getD (o.toNat - 1) (0, 0)) = _
    rw [if_neg (by omega)]
  have h := List.all_eq_true.mp chkR_ok (o.toNat - 1) (List.mem_range.mpr (by omega))
  rw [e] at h5 hj
  simp only [Bool.or_eq_true] at h
  rcases h with h | h
  · have := Nat.le_of_ble_eq_true h
    omega
  · have h2 := of_decide_eq_true (List.all_eq_true.mp h j (List.mem_range.mpr (by omega)))
    rw [show ((o.toNat - 1 : Nat) : Int) + 1 = o by omega] at h2
    show lkR wLit.2.2 o (j : Int) = if o < 1 ∨ (j : Int) < 0 then 0 else (grl.getD (o.toNat - 1) []).getD ((j : Int)).toNat 0
    rw [if_neg (by omega), h2, Int.toNat_natCast]
theorem arrV_eq {c : ClassId} {n : Nat} {f g : Nat → Value} (h : ∀ j, j < n → f j = g j) : arrV c n f = arrV c n g := by
  unfold arrV
  congr 2
  funext j
  exact h j.val j.isLt
theorem jworld_lit {E : jE} {H : Heap} {σ : jH} (h : jworld E (toG wLit) σ H) : jworld E gW σ H := by
  obtain ⟨h1, h2, h3, h4⟩ := h
  have hk := wLit_k
  refine ⟨h1, fun o ho => ?_, fun o i hi => ?_, fun k q hq => ?_⟩
  · have := h2 o (by rw [hk]; exact ho)
    rw [hk] at this
    exact this
  · have := h3 o i (by rw [hk]; exact hi)
    rw [hk] at this
    exact this
  · have kl : k < gW.1 := by
      have := (List.getElem?_eq_some_iff.mp hq).1
      rwa [jW_len] at this
    rw [jW_at kl] at hq
    cases hq
    have h5 := h4 k _ (jW_at (G := toG wLit) kl)
    generalize ho : ((k + 1 : Nat) : Int) = o at h5 ⊢
    have ko : (toG wLit).2.1 o = gW.2.1 o := by rw [hk]
    by_cases g5 : 5 ≤ (gW.2.1 o).1
    · by_cases g8 : (gW.2.1 o).1 ≤ 7
      · have a1 := jcell_q (E := E) (σ := σ) (G := toG wLit) (o := o) rfl (by rw [ko]; exact g5) (by rw [ko]; exact g8)
        have a2 := jcell_q (E := E) (σ := σ) (G := gW) (o := o) rfl g5 g8
        rw [a1] at h5
        rw [a2]
        rw [ko] at h5
        have h6 : H[E.1 + (k + 1)]? = some (vp_cell (E.2.2.1 (gW.2.1 o).1) ((gW.2.1 o).2.toNat, .inr (.inr (.inr (.inr (fun j => jrf E.1 ((toG wLit).2.2 o (j : Int)))))))) := h5
        show H[E.1 + (k + 1)]? = some (vp_cell (E.2.2.1 (gW.2.1 o).1) ((gW.2.1 o).2.toNat, .inr (.inr (.inr (.inr (fun j => jrf E.1 (gW.2.2 o (j : Int))))))))
        rw [h6]
        congr 1
        exact arrV_eq (f := fun j => va_rf (jrf E.1 ((toG wLit).2.2 o (j : Int)))) (g := fun j => va_rf (jrf E.1 (gW.2.2 o (j : Int)))) (fun j hj => by
          show va_rf (jrf E.1 ((toG wLit).2.2 o (j : Int))) = va_rf (jrf E.1 (gW.2.2 o (j : Int)))
          rw [wLit_r g5 (by omega)])
      · obtain ⟨ci, hci⟩ : ∃ ci, (gW.2.1 o).1 = ci + 8 := ⟨(gW.2.1 o).1 - 8, by omega⟩
        have a1 := jcell_ob (E := E) (σ := σ) (G := toG wLit) (o := o) (by rw [ko]; exact hci)
        have a2 := jcell_ob (E := E) (σ := σ) (G := gW) (o := o) hci
        rw [a1] at h5
        rw [a2]
        rw [ko] at h5
        rw [show (List.range (gW.2.1 o).2.toNat).map (fun k => cv E (jfv (jft ci k) (σ o (k : Int)) (gW.2.2 o (k : Int)))) = (List.range (gW.2.1 o).2.toNat).map (fun k => cv E (jfv (jft ci k) (σ o (k : Int)) ((toG wLit).2.2 o (k : Int)))) from List.map_congr_left (fun j hj => by rw [wLit_r g5 (by have := List.mem_range.mp hj; omega)])]
        exact h5
    · have same : jcell E gW σ o = jcell E (toG wLit) σ o := by
        unfold jcell
        rw [ko]
        split
        all_goals first | rfl | (exfalso; rename_i h9; omega)
      rw [same]
      exact h5
theorem Ev_lit {C : jC} {d mc ms : Nat} {m : jM} {RT : Int → jG → jH → Prop} {pc : Nat} {ls : List (Option jV)} {st : List jV} {σ : jH} {cs ss : Nat} (h : Ev C d mc ms m RT pc ls st gW σ cs ss) : Ev C d mc ms m RT pc ls st (toG wLit) σ cs ss :=
  fun p e R s mi args below meth c E Q H locs lc X => h p e R s mi args below meth c E Q H locs lc ⟨X.1, X.2.1, X.2.2.1, X.2.2.2.1, jworld_lit X.2.2.2.2.1, X.2.2.2.2.2⟩
/-- the first row -/
def om0 : Int → Int := plainR (fun _ => 0)
section CZ
variable {l : Launch} {d : Nat} {σ : jH}
theorem l_p0_37 (hd : 10 ≤ d) : ∀ (k i : Nat) (τ : jH), i + k = 26 → (∀ c, c ≠ 190 → τ c = σ c) → (∀ j, τ 190 j = if 5 ≤ j ∧ j < 5 + (i : Int) then -1 else if 31 ≤ j ∧ j < 31 + (i : Int) then j - 31 else 0) →
    Ev (l, (fun _ => 0), 0) d 0 0 m_Model_plain (RW fun _ τ => (∀ c, c ≠ 190 → τ c = σ c) ∧ τ 190 = om0) 37 [some (vR 190), some (vI i)] [] gW τ 0 0
  | 0, i, τ, hk, F, V => by
    have e : i = 26 := by omega
    subst e
    refine jwp_sound t_Model_plain _ (b_Model_plain_37 ?_)
    refine ⟨fun _ => ⟨rfl, F, ?_⟩, fun x => absurd x (by omega)⟩
    funext j
    rw [V j]
    unfold om0 plainR
    by_cases q : 5 ≤ j ∧ j < 31
    · rw [if_pos q, if_pos (by omega)]
    · rw [if_neg q, if_neg (by omega)]
      by_cases q2 : 31 ≤ j ∧ j < 57
      · rw [if_pos q2, if_pos (by omega)]
      · rw [if_neg q2, if_neg (by omega)]
        split
        · split <;> rfl
        · rfl
  | k + 1, i, τ, hk, F, V => by
    refine jwp_sound t_Model_plain _ (b_Model_plain_37 ?_)
    simp only [RW, true_and, and_true, and_self, true_or, or_true, Nat.reduceLeDiff, Nat.reduceEqDiff, Nat.reduceAdd, Int.reduceLE, Int.reduceLT, Int.reduceEq, Int.reduceNeg, Int.reduceNe, Nat.reduceSub, reduceIte, implies_true, gt_190]
    rw [w32_of (x := 5 + (i : Int)) (by omega) (by omega), w32_of (x := 31 + (i : Int)) (by omega) (by omega), w32_of (x := (i : Int) + 1) (by omega) (by omega)]
    refine ⟨fun x => absurd x (by omega), fun _ => ?_⟩
    repeat (refine And.intro (by omega) ?_)
    have IH := l_p0_37 hd k (i + 1) (ju (ju τ 190 (5 + i) (-1)) 190 (31 + i) i) (by omega) (fun c hc => by rw [ju_row hc, ju_row hc, F c hc]) (fun j => by
      by_cases q : j = 31 + i
      · rw [q, ju_self, if_neg (by omega), if_pos (by omega)]
        omega
      · rw [ju_ne2 q]
        by_cases q2 : j = 5 + i
        · rw [q2, ju_self, if_pos (by omega)]
        · rw [ju_ne2 q2, V j]
          by_cases x : 5 ≤ j ∧ j < 5 + (i : Int)
          · rw [if_pos x, if_pos (by omega)]
          · rw [if_neg x, if_neg (show ¬ (5 ≤ j ∧ j < 5 + ((i + 1 : Nat) : Int)) by omega)]
            by_cases y : 31 ≤ j ∧ j < 31 + (i : Int)
            · rw [if_pos y, if_pos (by omega)]
            · rw [if_neg y, if_neg (by omega)])
    rw [show ((i + 1 : Nat) : Int) = (i : Int) + 1 by omega] at IH
    exact IH
theorem l_p0_2 (hd : 10 ≤ d) : ∀ (k i : Nat) (τ : jH), i + k = 2597 → (∀ c, c ≠ 190 → τ c = σ c) → (∀ j : Int, τ 190 j = 0) →
    Ev (l, (fun _ => 0), 0) d 0 0 m_Model_plain (RW fun _ τ => (∀ c, c ≠ 190 → τ c = σ c) ∧ τ 190 = om0) 2 [some (vR 190), some (vI i)] [] gW τ 0 0
  | 0, i, τ, hk, F, V => by
    have e : i = 2597 := by omega
    subst e
    refine jwp_sound t_Model_plain _ (b_Model_plain_2 ?_)
    refine ⟨fun _ => ?_, fun x => absurd x (by omega)⟩
    have go := l_p0_37 (l := l) (σ := τ) hd 26 0 τ rfl (fun _ _ => rfl) (fun j => by rw [if_neg (by omega), if_neg (by omega)]; exact V j)
    exact Ev_post go (fun _ υ h => ⟨fun c hc => (h.1 c hc).trans (F c hc), h.2⟩)
  | k + 1, i, τ, hk, F, V => by
    have go : ∀ v, v = 0 → Ev (l, (fun _ => 0), 0) d 0 0 m_Model_plain (RW fun _ τ => (∀ c, c ≠ 190 → τ c = σ c) ∧ τ 190 = om0) 2 [some (vR 190), some (vI (i + 1))] [] gW (ju τ 190 i v) 0 0 := fun v hv => by
      have IH := l_p0_2 hd k (i + 1) (ju τ 190 i v) (by omega) (fun c hc => by rw [ju_row hc, F c hc]) (fun j => by
        by_cases q : j = i
        · rw [q, ju_self]
          exact hv
        · rw [ju_ne2 q]
          exact V j)
      rw [show ((i + 1 : Nat) : Int) = (i : Int) + 1 by omega] at IH
      exact IH
    refine jwp_sound t_Model_plain _ (b_Model_plain_2 ?_)
    simp only [RW, true_and, and_true, and_self, true_or, or_true, Nat.reduceLeDiff, Nat.reduceEqDiff, Nat.reduceAdd, Int.reduceLE, Int.reduceLT, Int.reduceEq, Int.reduceNeg, Int.reduceNe, Nat.reduceSub, reduceIte, implies_true, gt_190]
    rw [w32_of (x := (i : Int) + 1) (by omega) (by omega)]
    refine ⟨fun x => absurd x (by omega), fun _ => ⟨fun a => ⟨by omega, by omega, go 0 rfl⟩, fun a => ⟨fun b => ⟨by omega, by omega, go 0 rfl⟩, fun b => ⟨by omega, by omega, by omega, by omega, go _ (V _)⟩⟩⟩⟩
theorem c_plain0 (V : ∀ j : Int, σ 190 j = 0) : Cw 10 m_Model_plain [vR 190] σ (fun _ τ => (∀ c, c ≠ 190 → τ c = σ c) ∧ τ 190 = om0) := by
  refine Cw_of o_Model_plain rfl fun l d hd => jwp_sound t_Model_plain _ (b_Model_plain_0 ?_)
  exact l_p0_2 hd 2597 0 σ rfl (fun _ _ => rfl) V
theorem om0_in {j : Int} (h : ¬ (5 ≤ j ∧ j < 57)) : om0 j = 0 := by
  unfold om0 plainR
  rw [if_neg (by omega), if_neg (by omega)]
  split
  · split <;> rfl
  · rfl
theorem om0_f {x : Int} (a : 0 ≤ x) (b : x < 26) : om0 (5 + x) = -1 := by
  unfold om0 plainR
  rw [if_pos (by omega)]
theorem om0_r {x : Int} (a : 0 ≤ x) (b : x < 26) : om0 (31 + x) = x := by
  unfold om0 plainR
  rw [if_neg (by omega), if_pos (by omega)]
  omega
theorem om0_fo {x : Int} (a : 0 ≤ x) (b : x < 26) : fo om0 x = x := by
  unfold fo
  rw [om0_f a b, if_pos rfl]
theorem om0_w (e : Int) (he : 0 ≤ e ∧ e ≤ 1) : (wW om0 e).1 = 0 := by
  unfold wW
  rw [om0_in (by omega)]
  rfl
theorem om0_g : OMG om0 := by
  have z : ∀ e, 0 ≤ e → e ≤ 1 → LOK om0 e := fun e a b => by
    unfold LOK
    rw [om0_in (by omega)]
    exact ⟨by omega, by omega, fun i x y => by omega⟩
  refine ⟨⟨z 0 (by omega) (by omega), z 1 (by omega) (by omega), fun x a b => by rw [om0_fo a b]; omega, ⟨fun x a b => ?_, fun x y a b c e h => ?_⟩, ?_, ?_⟩, ⟨?_, ?_, ?_, fun s a b => ?_, fun r a b => ?_⟩, fun q a b => ?_⟩
  · unfold rnk
    rw [om0_r a b]
    omega
  · unfold rnk at h
    rw [om0_r a b, om0_r c e] at h
    exact h
  · rw [om0_w 0 (by omega)]
    omega
  · rw [om0_w 1 (by omega)]
    omega
  · rw [om0_in (by omega)]
    omega
  · rw [om0_in (by omega)]
    omega
  · rw [om0_in (by omega)]
    omega
  · rw [om0_in (by omega)] at b
    omega
  · rw [om0_in (by omega)] at b
    omega
  · unfold RV
    rw [om0_in (by omega)]
    exact ⟨by omega, by omega, fun j x y => by omega⟩
/-- what the reference's constructor leaves -/
def MI0 (σ τ : jH) : Prop := RFR τ om0 ∧ ALP τ ∧ (∀ c, (c < 189 ∨ c = 191 ∨ c = 192 ∨ 199 < c) → τ c = σ c) ∧ ∀ j, j ≠ 10 → τ 189 j = σ 189 j
theorem Model_end {cs ss : Nat} (hd : 16 ≤ d) (V : ∀ j : Int, σ 190 j = 0) (A : ALP σ) : Ev (l, (fun _ => 0), 0) d 43 263091 m_Model_init (fun _ G' τ => G' = gW ∧ MI0 σ τ) 448 [some (vR 189)] [] (toG wLit) σ cs ss := by
  refine Ev_lit (jwp_sound t_Model_init _ (b_Model_init_448 ?_))
  simp only [gt_189, gr_189_1, true_and]
  refine cN_w (c_plain0 V) (by omega) (fun _ τ h => ?_)
  have M := mok_of h.2 om0_g.1 (fun x a b => by rw [h.1 200 (by omega)]; exact A x a b)
  refine cN_w (c_Model_makes _ M.1 M.2) (by omega) (fun _ υ h2 => ?_)
  have D := h2.rdr M.1 M.2
  rw [h.2] at D
  have K := h2.fmk
  exact ⟨⟨om0_g.1, D⟩, fun x a b => by rw [K.1 200 (by omega) (by omega), h.1 200 (by omega)]; exact A x a b, fun c hc => by rw [K.1 c (by omega) (by omega), h.1 c (by omega)], fun j hj => by rw [K.2 j hj, h.1 189 (by omega)]⟩
end CZ
