def RT : List (Int × Int × Int) := [(0, -1, 11), (0, -2, 0), (0, 0, 1), (0, 1, 50), (0, 2, 99), (0, 4, 148), (0, 5, 150), (0, 7, 151), (0, 8, 152), (0, 9, 159), (0, 10, 166), (0, 11, 167), (0, 12, 168), (1, -1, 10), (1, -2, 0), (1, 0, 2), (1, 1, 3), (1, 2, 4), (1, 3, 11), (1, 5, 18), (1, 6, 19), (1, 8, 20), (1, 9, 27), (1, 10, 39), (1, 12, 49), (2, -1, 25), (2, -2, 6), (3, -1, 22), (3, -2, 6), (4, -1, 23), (4, -2, 6), (4, 0, 5), (4, 1, 6), (4, 2, 7), (4, 3, 8), (4, 4, 9), (4, 5, 10), (5, -1, 20), (5, -2, 5), (6, -1, 20), (6, -2, 5), (7, -1, 20), (7, -2, 5), (8, -1, 20), (8, -2, 5), (9, -1, 20), (9, -2, 5), (10, -1, 20), (10, -2, 5), (11, -1, 23), (11, -2, 6), (11, 0, 12), (11, 1, 13), (11, 2, 14), (11, 3, 15), (11, 4, 16), (11, 5, 17), (12, -1, 20), (12, -2, 4), (13, -1, 20), (13, -2, 4), (14, -1, 20), (14, -2, 4), (15, -1, 20), (15, -2, 4), (16, -1, 20), (16, -2, 4), (17, -1, 20), (17, -2, 4), (18, -1, 20), (18, -2, 5), (19, -1, 20), (19, -2, 5), (20, -1, 7), (20, -2, 0), (20, 0, 21), (21, -1, 23), (21, -2, 5), (21, 0, 22), (21, 1, 23), (21, 2, 24), (21, 3, 25), (21, 4, 26), (22, -1, 20), (22, -2, 4), (23, -1, 20), (23, -2, 4), (24, -1, 20), (24, -2, 4), (25, -1, 20), (25, -2, 4), (26, -1, 20), (26, -2, 4), (27, -1, 7), (27, -2, 0), (27, 0, 28), (28, -1, 23), (28, -2, 10), (28, 0, 29), (28, 1, 30), (28, 2, 31), (28, 3, 32), (28, 4, 33), (28, 5, 34), (28, 6, 35), (28, 7, 36), (28, 8, 37), (28, 9, 38), (29, -1, 20), (29, -2, 4), (30, -1, 20), (30, -2, 4), (31, -1, 20), (31, -2, 4), (32, -1, 20), (32, -2, 4), (33, -1, 20), (33, -2, 4), (34, -1, 20), (34, -2, 4), (35, -1, 20), (35, -2, 4), (36, -1, 20), (36, -2, 4), (37, -1, 20), (37, -2, 4), (38, -1, 20), (38, -2, 4), (39, -1, 7), (39, -2, 0), (39, 0, 40), (40, -1, 23), (40, -2, 8), (40, 0, 41), (40, 1, 42), (40, 2, 43), (40, 3, 44), (40, 4, 45), (40, 5, 46), (40, 6, 47), (40, 7, 48), (41, -1, 20), (41, -2, 4), (42, -1, 20), (42, -2, 4), (43, -1, 20), (43, -2, 4), (44, -1, 20), (44, -2, 4), (45, -1, 20), (45, -2, 4), (46, -1, 20), (46, -2, 4), (47, -1, 20), (47, -2, 4), (48, -1, 20), (48, -2, 4), (49, -1, 20), (49, -2, 6), (50, -1, 10), (50, -2, 0), (50, 0, 51), (50, 1, 52), (50, 2, 53), (50, 3, 60), (50, 5, 67), (50, 6, 68), (50, 8, 69), (50, 9, 76), (50, 10, 88), (50, 12, 98), (51, -1, 25), (51, -2, 6), (52, -1, 22), (52, -2, 6), (53, -1, 23), (53, -2, 6), (53, 0, 54), (53, 1, 55), (53, 2, 56), (53, 3, 57), (53, 4, 58), (53, 5, 59), (54, -1, 20), (54, -2, 5), (55, -1, 20), (55, -2, 5), (56, -1, 20), (56, -2, 5), (57, -1, 20), (57, -2, 5), (58, -1, 20), (58, -2, 5), (59, -1, 20), (59, -2, 5), (60, -1, 23), (60, -2, 6), (60, 0, 61), (60, 1, 62), (60, 2, 63), (60, 3, 64), (60, 4, 65), (60, 5, 66), (61, -1, 20), (61, -2, 4), (62, -1, 20), (62, -2, 4), (63, -1, 20), (63, -2, 4), (64, -1, 20), (64, -2, 4), (65, -1, 20), (65, -2, 4), (66, -1, 20), (66, -2, 4), (67, -1, 20), (67, -2, 5), (68, -1, 20), (68, -2, 5), (69, -1, 7), (69, -2, 0), (69, 0, 70), (70, -1, 23), (70, -2, 5), (70, 0, 71), (70, 1, 72), (70, 2, 73), (70, 3, 74), (70, 4, 75), (71, -1, 20), (71, -2, 4), (72, -1, 20), (72, -2, 4), (73, -1, 20), (73, -2, 4), (74, -1, 20), (74, -2, 4), (75, -1, 20), (75, -2, 4), (76, -1, 7), (76, -2, 0), (76, 0, 77), (77, -1, 23), (77, -2, 10), (77, 0, 78), (77, 1, 79), (77, 2, 80), (77, 3, 81), (77, 4, 82), (77, 5, 83), (77, 6, 84), (77, 7, 85), (77, 8, 86), (77, 9, 87), (78, -1, 20), (78, -2, 4), (79, -1, 20), (79, -2, 4), (80, -1, 20), (80, -2, 4), (81, -1, 20), (81, -2, 4), (82, -1, 20), (82, -2, 4), (83, -1, 20), (83, -2, 4), (84, -1, 20), (84, -2, 4), (85, -1, 20), (85, -2, 4), (86, -1, 20), (86, -2, 4), (87, -1, 20), (87, -2, 4), (88, -1, 7), (88, -2, 0), (88, 0, 89), (89, -1, 23), (89, -2, 8), (89, 0, 90), (89, 1, 91), (89, 2, 92), (89, 3, 93), (89, 4, 94), (89, 5, 95), (89, 6, 96), (89, 7, 97), (90, -1, 20), (90, -2, 4), (91, -1, 20), (91, -2, 4), (92, -1, 20), (92, -2, 4), (93, -1, 20), (93, -2, 4), (94, -1, 20), (94, -2, 4), (95, -1, 20), (95, -2, 4), (96, -1, 20), (96, -2, 4), (97, -1, 20), (97, -2, 4), (98, -1, 20), (98, -2, 6), (99, -1, 10), (99, -2, 0), (99, 0, 100), (99, 1, 101), (99, 2, 102), (99, 3, 109), (99, 5, 116), (99, 6, 117), (99, 8, 118), (99, 9, 125), (99, 10, 137), (99, 12, 147), (100, -1, 25), (100, -2, 6), (101, -1, 22), (101, -2, 6), (102, -1, 23), (102, -2, 6), (102, 0, 103), (102, 1, 104), (102, 2, 105), (102, 3, 106), (102, 4, 107), (102, 5, 108), (103, -1, 20), (103, -2, 5), (104, -1, 20), (104, -2, 5), (105, -1, 20), (105, -2, 5), (106, -1, 20), (106, -2, 5), (107, -1, 20), (107, -2, 5), (108, -1, 20), (108, -2, 5), (109, -1, 23), (109, -2, 6), (109, 0, 110), (109, 1, 111), (109, 2, 112), (109, 3, 113), (109, 4, 114), (109, 5, 115), (110, -1, 20), (110, -2, 4), (111, -1, 20), (111, -2, 4), (112, -1, 20), (112, -2, 4), (113, -1, 20), (113, -2, 4), (114, -1, 20), (114, -2, 4), (115, -1, 20), (115, -2, 4), (116, -1, 20), (116, -2, 5), (117, -1, 20), (117, -2, 5), (118, -1, 7), (118, -2, 0), (118, 0, 119), (119, -1, 23), (119, -2, 5), (119, 0, 120), (119, 1, 121), (119, 2, 122), (119, 3, 123), (119, 4, 124), (120, -1, 20), (120, -2, 4), (121, -1, 20), (121, -2, 4), (122, -1, 20), (122, -2, 4), (123, -1, 20), (123, -2, 4), (124, -1, 20), (124, -2, 4), (125, -1, 7), (125, -2, 0), (125, 0, 126), (126, -1, 23), (126, -2, 10), (126, 0, 127), (126, 1, 128), (126, 2, 129), (126, 3, 130), (126, 4, 131), (126, 5, 132), (126, 6, 133), (126, 7, 134), (126, 8, 135), (126, 9, 136), (127, -1, 20), (127, -2, 4), (128, -1, 20), (128, -2, 4), (129, -1, 20), (129, -2, 4), (130, -1, 20), (130, -2, 4), (131, -1, 20), (131, -2, 4), (132, -1, 20), (132, -2, 4), (133, -1, 20), (133, -2, 4), (134, -1, 20), (134, -2, 4), (135, -1, 20), (135, -2, 4), (136, -1, 20), (136, -2, 4), (137, -1, 7), (137, -2, 0), (137, 0, 138), (138, -1, 23), (138, -2, 8), (138, 0, 139), (138, 1, 140), (138, 2, 141), (138, 3, 142), (138, 4, 143), (138, 5, 144), (138, 6, 145), (138, 7, 146), (139, -1, 20), (139, -2, 4), (140, -1, 20), (140, -2, 4), (141, -1, 20), (141, -2, 4), (142, -1, 20), (142, -2, 4), (143, -1, 20), (143, -2, 4), (144, -1, 20), (144, -2, 4), (145, -1, 20), (145, -2, 4), (146, -1, 20), (146, -2, 4), (147, -1, 20), (147, -2, 6), (148, -1, 6), (148, -2, 0), (148, 0, 149), (149, -1, 20), (149, -2, 100), (150, -1, 26), (150, -2, 6), (150, 0, 175), (150, 1, 178), (150, 2, 181), (150, 3, 184), (150, 4, 187), (150, 5, 190), (151, -1, 13), (151, -2, 0), (152, -1, 23), (152, -2, 6), (152, 0, 153), (152, 1, 154), (152, 2, 155), (152, 3, 156), (152, 4, 157), (152, 5, 158), (153, -1, 20), (153, -2, 5), (154, -1, 20), (154, -2, 5), (155, -1, 20), (155, -2, 5), (156, -1, 20), (156, -2, 5), (157, -1, 20), (157, -2, 5), (158, -1, 20), (158, -2, 5), (159, -1, 23), (159, -2, 6), (159, 0, 160), (159, 1, 161), (159, 2, 162), (159, 3, 163), (159, 4, 164), (159, 5, 165), (160, -1, 20), (160, -2, 64), (161, -1, 20), (161, -2, 64), (162, -1, 20), (162, -2, 64), (163, -1, 20), (163, -2, 64), (164, -1, 20), (164, -2, 64), (165, -1, 20), (165, -2, 64), (166, -1, 20), (166, -2, 6), (167, -1, 20), (167, -2, 6), (168, -1, 24), (168, -2, 6), (168, 0, 169), (168, 1, 170), (168, 2, 171), (168, 3, 172), (168, 4, 173), (168, 5, 174), (169, -1, 21), (169, -2, 60), (170, -1, 21), (170, -2, 60), (171, -1, 21), (171, -2, 60), (172, -1, 21), (172, -2, 60), (173, -1, 21), (173, -2, 60), (174, -1, 21), (174, -2, 60), (175, -1, 5), (175, -2, 0), (175, 2, 176), (175, 3, 177), (176, -1, 20), (176, -2, 100), (177, -1, 20), (177, -2, 100), (178, -1, 5), (178, -2, 0), (178, 2, 179), (178, 3, 180), (179, -1, 20), (179, -2, 100), (180, -1, 20), (180, -2, 100), (181, -1, 5), (181, -2, 0), (181, 2, 182), (181, 3, 183), (182, -1, 20), (182, -2, 100), (183, -1, 20), (183, -2, 100), (184, -1, 5), (184, -2, 0), (184, 2, 185), (184, 3, 186), (185, -1, 20), (185, -2, 100), (186, -1, 20), (186, -2, 100), (187, -1, 5), (187, -2, 0), (187, 2, 188), (187, 3, 189), (188, -1, 20), (188, -2, 100), (189, -1, 20), (189, -2, 100), (190, -1, 5), (190, -2, 0), (190, 2, 191), (190, 3, 192), (191, -1, 20), (191, -2, 100), (192, -1, 20), (192, -2, 100), (193, -1, 12), (193, -2, 0), (193, 3, 194), (193, 4, 195), (193, 5, 196), (193, 6, 197), (193, 7, 198), (193, 8, 199), (193, 14, 200), (193, 15, 201), (193, 16, 202), (193, 17, 203), (193, 18, 204), (193, 19, 205), (193, 20, 206), (193, 21, 207), (193, 25, 208), (193, 26, 209), (193, 30, 210), (193, 31, 211), (193, 32, 212), (193, 33, 213), (193, 34, 214), (193, 35, 215), (193, 39, 216), (193, 40, 217), (193, 41, 218), (193, 42, 219), (193, 45, 220), (193, 46, 221), (193, 47, 222), (193, 48, 223), (193, 57, 224), (193, 58, 225), (193, 59, 226), (193, 60, 227), (193, 61, 228), (193, 62, 229), (193, 63, 230), (193, 64, 231), (193, 65, 232), (193, 66, 233), (193, 67, 234), (193, 68, 235), (193, 69, 236), (193, 70, 237), (193, 72, 238), (193, 73, 239), (193, 74, 240), (193, 75, 241), (193, 76, 242), (194, -1, 20), (194, -2, 6), (195, -1, 20), (195, -2, 6), (196, -1, 20), (196, -2, 30), (197, -1, 20), (197, -2, 24), (198, -1, 20), (198, -2, 5), (199, -1, 20), (199, -2, 5), (200, -1, 20), (200, -2, 100), (201, -1, 20), (201, -2, 6), (202, -1, 20), (202, -2, 60), (203, -1, 20), (203, -2, 60), (204, -1, 20), (204, -2, 60), (205, -1, 20), (205, -2, 60), (206, -1, 20), (206, -2, 600), (207, -1, 20), (207, -2, 101), (208, -1, 20), (208, -2, 15), (209, -1, 22), (209, -2, 100), (210, -1, 20), (210, -2, 30), (211, -1, 20), (211, -2, 5), (212, -1, 20), (212, -2, 5), (213, -1, 20), (213, -2, 30), (214, -1, 20), (214, -2, 5), (215, -1, 20), (215, -2, 5), (216, -1, 20), (216, -2, 5), (217, -1, 20), (217, -2, 5), (218, -1, 20), (218, -2, 5), (219, -1, 22), (219, -2, 5), (220, -1, 20), (220, -2, 10), (221, -1, 20), (221, -2, 10), (222, -1, 20), (222, -2, 8), (223, -1, 20), (223, -2, 8), (224, -1, 20), (224, -2, 6), (225, -1, 20), (225, -2, 6), (226, -1, 20), (226, -2, 30), (227, -1, 20), (227, -2, 24), (228, -1, 20), (228, -2, 5), (229, -1, 20), (229, -2, 5), (230, -1, 20), (230, -2, 5), (231, -1, 20), (231, -2, 5), (232, -1, 20), (232, -2, 5), (233, -1, 20), (233, -2, 10), (234, -1, 20), (234, -2, 10), (235, -1, 20), (235, -2, 8), (236, -1, 20), (236, -2, 8), (237, -1, 22), (237, -2, 5), (238, -1, 20), (238, -2, 20), (239, -1, 20), (239, -2, 6), (240, -1, 20), (240, -2, 6), (241, -1, 21), (241, -2, 360), (242, -1, 21), (242, -2, 60)]
/-- the fixed shape: kinds, lengths, references that are never changed -/
def Fx (S : SS) : Prop := 243 ≤ S.2 ∧ ∀ q ∈ RT, S.1 q.1 q.2.1 = q.2.2
theorem K_193 {S : SS} (hF : Fx S) : KD S 193 12 0 := ⟨by decide, by have := hF.1; omega, hF.2 (193, -1, 12) (List.mem_of_getElem? (i := 578) (by decide +kernel)), hF.2 (193, -2, 0) (List.mem_of_getElem? (i := 579) (by decide +kernel))⟩
theorem K_194 {S : SS} (hF : Fx S) : KD S 194 20 6 := ⟨by decide, by have := hF.1; omega, hF.2 (194, -1, 20) (List.mem_of_getElem? (i := 629) (by decide +kernel)), hF.2 (194, -2, 6) (List.mem_of_getElem? (i := 630) (by decide +kernel))⟩
theorem K_195 {S : SS} (hF : Fx S) : KD S 195 20 6 := ⟨by decide, by have := hF.1; omega, hF.2 (195, -1, 20) (List.mem_of_getElem? (i := 631) (by decide +kernel)), hF.2 (195, -2, 6) (List.mem_of_getElem? (i := 632) (by decide +kernel))⟩
theorem K_196 {S : SS} (hF : Fx S) : KD S 196 20 30 := ⟨by decide, by have := hF.1; omega, hF.2 (196, -1, 20) (List.mem_of_getElem? (i := 633) (by decide +kernel)), hF.2 (196, -2, 30) (List.mem_of_getElem? (i := 634) (by decide +kernel))⟩
theorem K_197 {S : SS} (hF : Fx S) : KD S 197 20 24 := ⟨by decide, by have := hF.1; omega, hF.2 (197, -1, 20) (List.mem_of_getElem? (i := 635) (by decide +kernel)), hF.2 (197, -2, 24) (List.mem_of_getElem? (i := 636) (by decide +kernel))⟩
theorem K_198 {S : SS} (hF : Fx S) : KD S 198 20 5 := ⟨by decide, by have := hF.1; omega, hF.2 (198, -1, 20) (List.mem_of_getElem? (i := 637) (by decide +kernel)), hF.2 (198, -2, 5) (List.mem_of_getElem? (i := 638) (by decide +kernel))⟩
theorem K_199 {S : SS} (hF : Fx S) : KD S 199 20 5 := ⟨by decide, by have := hF.1; omega, hF.2 (199, -1, 20) (List.mem_of_getElem? (i := 639) (by decide +kernel)), hF.2 (199, -2, 5) (List.mem_of_getElem? (i := 640) (by decide +kernel))⟩
theorem K_200 {S : SS} (hF : Fx S) : KD S 200 20 100 := ⟨by decide, by have := hF.1; omega, hF.2 (200, -1, 20) (List.mem_of_getElem? (i := 641) (by decide +kernel)), hF.2 (200, -2, 100) (List.mem_of_getElem? (i := 642) (by decide +kernel))⟩
theorem K_201 {S : SS} (hF : Fx S) : KD S 201 20 6 := ⟨by decide, by have := hF.1; omega, hF.2 (201, -1, 20) (List.mem_of_getElem? (i := 643) (by decide +kernel)), hF.2 (201, -2, 6) (List.mem_of_getElem? (i := 644) (by decide +kernel))⟩
theorem K_202 {S : SS} (hF : Fx S) : KD S 202 20 60 := ⟨by decide, by have := hF.1; omega, hF.2 (202, -1, 20) (List.mem_of_getElem? (i := 645) (by decide +kernel)), hF.2 (202, -2, 60) (List.mem_of_getElem? (i := 646) (by decide +kernel))⟩
theorem K_203 {S : SS} (hF : Fx S) : KD S 203 20 60 := ⟨by decide, by have := hF.1; omega, hF.2 (203, -1, 20) (List.mem_of_getElem? (i := 647) (by decide +kernel)), hF.2 (203, -2, 60) (List.mem_of_getElem? (i := 648) (by decide +kernel))⟩
theorem K_204 {S : SS} (hF : Fx S) : KD S 204 20 60 := ⟨by decide, by have := hF.1; omega, hF.2 (204, -1, 20) (List.mem_of_getElem? (i := 649) (by decide +kernel)), hF.2 (204, -2, 60) (List.mem_of_getElem? (i := 650) (by decide +kernel))⟩
theorem K_205 {S : SS} (hF : Fx S) : KD S 205 20 60 := ⟨by decide, by have := hF.1; omega, hF.2 (205, -1, 20) (List.mem_of_getElem? (i := 651) (by decide +kernel)), hF.2 (205, -2, 60) (List.mem_of_getElem? (i := 652) (by decide +kernel))⟩
theorem K_206 {S : SS} (hF : Fx S) : KD S 206 20 600 := ⟨by decide, by have := hF.1; omega, hF.2 (206, -1, 20) (List.mem_of_getElem? (i := 653) (by decide +kernel)), hF.2 (206, -2, 600) (List.mem_of_getElem? (i := 654) (by decide +kernel))⟩
theorem K_207 {S : SS} (hF : Fx S) : KD S 207 20 101 := ⟨by decide, by have := hF.1; omega, hF.2 (207, -1, 20) (List.mem_of_getElem? (i := 655) (by decide +kernel)), hF.2 (207, -2, 101) (List.mem_of_getElem? (i := 656) (by decide +kernel))⟩
theorem K_208 {S : SS} (hF : Fx S) : KD S 208 20 15 := ⟨by decide, by have := hF.1; omega, hF.2 (208, -1, 20) (List.mem_of_getElem? (i := 657) (by decide +kernel)), hF.2 (208, -2, 15) (List.mem_of_getElem? (i := 658) (by decide +kernel))⟩
theorem K_209 {S : SS} (hF : Fx S) : KD S 209 22 100 := ⟨by decide, by have := hF.1; omega, hF.2 (209, -1, 22) (List.mem_of_getElem? (i := 659) (by decide +kernel)), hF.2 (209, -2, 100) (List.mem_of_getElem? (i := 660) (by decide +kernel))⟩
theorem K_210 {S : SS} (hF : Fx S) : KD S 210 20 30 := ⟨by decide, by have := hF.1; omega, hF.2 (210, -1, 20) (List.mem_of_getElem? (i := 661) (by decide +kernel)), hF.2 (210, -2, 30) (List.mem_of_getElem? (i := 662) (by decide +kernel))⟩
theorem K_211 {S : SS} (hF : Fx S) : KD S 211 20 5 := ⟨by decide, by have := hF.1; omega, hF.2 (211, -1, 20) (List.mem_of_getElem? (i := 663) (by decide +kernel)), hF.2 (211, -2, 5) (List.mem_of_getElem? (i := 664) (by decide +kernel))⟩
theorem K_212 {S : SS} (hF : Fx S) : KD S 212 20 5 := ⟨by decide, by have := hF.1; omega, hF.2 (212, -1, 20) (List.mem_of_getElem? (i := 665) (by decide +kernel)), hF.2 (212, -2, 5) (List.mem_of_getElem? (i := 666) (by decide +kernel))⟩
theorem K_213 {S : SS} (hF : Fx S) : KD S 213 20 30 := ⟨by decide, by have := hF.1; omega, hF.2 (213, -1, 20) (List.mem_of_getElem? (i := 667) (by decide +kernel)), hF.2 (213, -2, 30) (List.mem_of_getElem? (i := 668) (by decide +kernel))⟩
theorem K_214 {S : SS} (hF : Fx S) : KD S 214 20 5 := ⟨by decide, by have := hF.1; omega, hF.2 (214, -1, 20) (List.mem_of_getElem? (i := 669) (by decide +kernel)), hF.2 (214, -2, 5) (List.mem_of_getElem? (i := 670) (by decide +kernel))⟩
theorem K_215 {S : SS} (hF : Fx S) : KD S 215 20 5 := ⟨by decide, by have := hF.1; omega, hF.2 (215, -1, 20) (List.mem_of_getElem? (i := 671) (by decide +kernel)), hF.2 (215, -2, 5) (List.mem_of_getElem? (i := 672) (by decide +kernel))⟩
theorem K_216 {S : SS} (hF : Fx S) : KD S 216 20 5 := ⟨by decide, by have := hF.1; omega, hF.2 (216, -1, 20) (List.mem_of_getElem? (i := 673) (by decide +kernel)), hF.2 (216, -2, 5) (List.mem_of_getElem? (i := 674) (by decide +kernel))⟩
theorem K_217 {S : SS} (hF : Fx S) : KD S 217 20 5 := ⟨by decide, by have := hF.1; omega, hF.2 (217, -1, 20) (List.mem_of_getElem? (i := 675) (by decide +kernel)), hF.2 (217, -2, 5) (List.mem_of_getElem? (i := 676) (by decide +kernel))⟩
theorem K_218 {S : SS} (hF : Fx S) : KD S 218 20 5 := ⟨by decide, by have := hF.1; omega, hF.2 (218, -1, 20) (List.mem_of_getElem? (i := 677) (by decide +kernel)), hF.2 (218, -2, 5) (List.mem_of_getElem? (i := 678) (by decide +kernel))⟩
theorem K_219 {S : SS} (hF : Fx S) : KD S 219 22 5 := ⟨by decide, by have := hF.1; omega, hF.2 (219, -1, 22) (List.mem_of_getElem? (i := 679) (by decide +kernel)), hF.2 (219, -2, 5) (List.mem_of_getElem? (i := 680) (by decide +kernel))⟩
theorem K_220 {S : SS} (hF : Fx S) : KD S 220 20 10 := ⟨by decide, by have := hF.1; omega, hF.2 (220, -1, 20) (List.mem_of_getElem? (i := 681) (by decide +kernel)), hF.2 (220, -2, 10) (List.mem_of_getElem? (i := 682) (by decide +kernel))⟩
theorem K_221 {S : SS} (hF : Fx S) : KD S 221 20 10 := ⟨by decide, by have := hF.1; omega, hF.2 (221, -1, 20) (List.mem_of_getElem? (i := 683) (by decide +kernel)), hF.2 (221, -2, 10) (List.mem_of_getElem? (i := 684) (by decide +kernel))⟩
theorem K_222 {S : SS} (hF : Fx S) : KD S 222 20 8 := ⟨by decide, by have := hF.1; omega, hF.2 (222, -1, 20) (List.mem_of_getElem? (i := 685) (by decide +kernel)), hF.2 (222, -2, 8) (List.mem_of_getElem? (i := 686) (by decide +kernel))⟩
theorem K_223 {S : SS} (hF : Fx S) : KD S 223 20 8 := ⟨by decide, by have := hF.1; omega, hF.2 (223, -1, 20) (List.mem_of_getElem? (i := 687) (by decide +kernel)), hF.2 (223, -2, 8) (List.mem_of_getElem? (i := 688) (by decide +kernel))⟩
theorem K_224 {S : SS} (hF : Fx S) : KD S 224 20 6 := ⟨by decide, by have := hF.1; omega, hF.2 (224, -1, 20) (List.mem_of_getElem? (i := 689) (by decide +kernel)), hF.2 (224, -2, 6) (List.mem_of_getElem? (i := 690) (by decide +kernel))⟩
theorem K_225 {S : SS} (hF : Fx S) : KD S 225 20 6 := ⟨by decide, by have := hF.1; omega, hF.2 (225, -1, 20) (List.mem_of_getElem? (i := 691) (by decide +kernel)), hF.2 (225, -2, 6) (List.mem_of_getElem? (i := 692) (by decide +kernel))⟩
theorem K_226 {S : SS} (hF : Fx S) : KD S 226 20 30 := ⟨by decide, by have := hF.1; omega, hF.2 (226, -1, 20) (List.mem_of_getElem? (i := 693) (by decide +kernel)), hF.2 (226, -2, 30) (List.mem_of_getElem? (i := 694) (by decide +kernel))⟩
theorem K_227 {S : SS} (hF : Fx S) : KD S 227 20 24 := ⟨by decide, by have := hF.1; omega, hF.2 (227, -1, 20) (List.mem_of_getElem? (i := 695) (by decide +kernel)), hF.2 (227, -2, 24) (List.mem_of_getElem? (i := 696) (by decide +kernel))⟩
theorem K_228 {S : SS} (hF : Fx S) : KD S 228 20 5 := ⟨by decide, by have := hF.1; omega, hF.2 (228, -1, 20) (List.mem_of_getElem? (i := 697) (by decide +kernel)), hF.2 (228, -2, 5) (List.mem_of_getElem? (i := 698) (by decide +kernel))⟩
theorem K_229 {S : SS} (hF : Fx S) : KD S 229 20 5 := ⟨by decide, by have := hF.1; omega, hF.2 (229, -1, 20) (List.mem_of_getElem? (i := 699) (by decide +kernel)), hF.2 (229, -2, 5) (List.mem_of_getElem? (i := 700) (by decide +kernel))⟩
theorem K_230 {S : SS} (hF : Fx S) : KD S 230 20 5 := ⟨by decide, by have := hF.1; omega, hF.2 (230, -1, 20) (List.mem_of_getElem? (i := 701) (by decide +kernel)), hF.2 (230, -2, 5) (List.mem_of_getElem? (i := 702) (by decide +kernel))⟩
theorem K_231 {S : SS} (hF : Fx S) : KD S 231 20 5 := ⟨by decide, by have := hF.1; omega, hF.2 (231, -1, 20) (List.mem_of_getElem? (i := 703) (by decide +kernel)), hF.2 (231, -2, 5) (List.mem_of_getElem? (i := 704) (by decide +kernel))⟩
theorem K_232 {S : SS} (hF : Fx S) : KD S 232 20 5 := ⟨by decide, by have := hF.1; omega, hF.2 (232, -1, 20) (List.mem_of_getElem? (i := 705) (by decide +kernel)), hF.2 (232, -2, 5) (List.mem_of_getElem? (i := 706) (by decide +kernel))⟩
theorem K_233 {S : SS} (hF : Fx S) : KD S 233 20 10 := ⟨by decide, by have := hF.1; omega, hF.2 (233, -1, 20) (List.mem_of_getElem? (i := 707) (by decide +kernel)), hF.2 (233, -2, 10) (List.mem_of_getElem? (i := 708) (by decide +kernel))⟩
theorem K_234 {S : SS} (hF : Fx S) : KD S 234 20 10 := ⟨by decide, by have := hF.1; omega, hF.2 (234, -1, 20) (List.mem_of_getElem? (i := 709) (by decide +kernel)), hF.2 (234, -2, 10) (List.mem_of_getElem? (i := 710) (by decide +kernel))⟩
theorem K_235 {S : SS} (hF : Fx S) : KD S 235 20 8 := ⟨by decide, by have := hF.1; omega, hF.2 (235, -1, 20) (List.mem_of_getElem? (i := 711) (by decide +kernel)), hF.2 (235, -2, 8) (List.mem_of_getElem? (i := 712) (by decide +kernel))⟩
theorem K_236 {S : SS} (hF : Fx S) : KD S 236 20 8 := ⟨by decide, by have := hF.1; omega, hF.2 (236, -1, 20) (List.mem_of_getElem? (i := 713) (by decide +kernel)), hF.2 (236, -2, 8) (List.mem_of_getElem? (i := 714) (by decide +kernel))⟩
theorem K_237 {S : SS} (hF : Fx S) : KD S 237 22 5 := ⟨by decide, by have := hF.1; omega, hF.2 (237, -1, 22) (List.mem_of_getElem? (i := 715) (by decide +kernel)), hF.2 (237, -2, 5) (List.mem_of_getElem? (i := 716) (by decide +kernel))⟩
theorem K_238 {S : SS} (hF : Fx S) : KD S 238 20 20 := ⟨by decide, by have := hF.1; omega, hF.2 (238, -1, 20) (List.mem_of_getElem? (i := 717) (by decide +kernel)), hF.2 (238, -2, 20) (List.mem_of_getElem? (i := 718) (by decide +kernel))⟩
theorem K_239 {S : SS} (hF : Fx S) : KD S 239 20 6 := ⟨by decide, by have := hF.1; omega, hF.2 (239, -1, 20) (List.mem_of_getElem? (i := 719) (by decide +kernel)), hF.2 (239, -2, 6) (List.mem_of_getElem? (i := 720) (by decide +kernel))⟩
theorem K_240 {S : SS} (hF : Fx S) : KD S 240 20 6 := ⟨by decide, by have := hF.1; omega, hF.2 (240, -1, 20) (List.mem_of_getElem? (i := 721) (by decide +kernel)), hF.2 (240, -2, 6) (List.mem_of_getElem? (i := 722) (by decide +kernel))⟩
theorem K_241 {S : SS} (hF : Fx S) : KD S 241 21 360 := ⟨by decide, by have := hF.1; omega, hF.2 (241, -1, 21) (List.mem_of_getElem? (i := 723) (by decide +kernel)), hF.2 (241, -2, 360) (List.mem_of_getElem? (i := 724) (by decide +kernel))⟩
theorem K_242 {S : SS} (hF : Fx S) : KD S 242 21 60 := ⟨by decide, by have := hF.1; omega, hF.2 (242, -1, 21) (List.mem_of_getElem? (i := 725) (by decide +kernel)), hF.2 (242, -2, 60) (List.mem_of_getElem? (i := 726) (by decide +kernel))⟩
theorem F_193_3 {S : SS} (hF : Fx S) : S.1 193 3 = 194 := hF.2 (193, 3, 194) (List.mem_of_getElem? (i := 580) (by decide +kernel))
theorem F_193_4 {S : SS} (hF : Fx S) : S.1 193 4 = 195 := hF.2 (193, 4, 195) (List.mem_of_getElem? (i := 581) (by decide +kernel))
theorem F_193_5 {S : SS} (hF : Fx S) : S.1 193 5 = 196 := hF.2 (193, 5, 196) (List.mem_of_getElem? (i := 582) (by decide +kernel))
theorem F_193_6 {S : SS} (hF : Fx S) : S.1 193 6 = 197 := hF.2 (193, 6, 197) (List.mem_of_getElem? (i := 583) (by decide +kernel))
theorem F_193_7 {S : SS} (hF : Fx S) : S.1 193 7 = 198 := hF.2 (193, 7, 198) (List.mem_of_getElem? (i := 584) (by decide +kernel))
theorem F_193_8 {S : SS} (hF : Fx S) : S.1 193 8 = 199 := hF.2 (193, 8, 199) (List.mem_of_getElem? (i := 585) (by decide +kernel))
theorem F_193_14 {S : SS} (hF : Fx S) : S.1 193 14 = 200 := hF.2 (193, 14, 200) (List.mem_of_getElem? (i := 586) (by decide +kernel))
theorem F_193_15 {S : SS} (hF : Fx S) : S.1 193 15 = 201 := hF.2 (193, 15, 201) (List.mem_of_getElem? (i := 587) (by decide +kernel))
theorem F_193_16 {S : SS} (hF : Fx S) : S.1 193 16 = 202 := hF.2 (193, 16, 202) (List.mem_of_getElem? (i := 588) (by decide +kernel))
theorem F_193_17 {S : SS} (hF : Fx S) : S.1 193 17 = 203 := hF.2 (193, 17, 203) (List.mem_of_getElem? (i := 589) (by decide +kernel))
theorem F_193_18 {S : SS} (hF : Fx S) : S.1 193 18 = 204 := hF.2 (193, 18, 204) (List.mem_of_getElem? (i := 590) (by decide +kernel))
theorem F_193_19 {S : SS} (hF : Fx S) : S.1 193 19 = 205 := hF.2 (193, 19, 205) (List.mem_of_getElem? (i := 591) (by decide +kernel))
theorem F_193_20 {S : SS} (hF : Fx S) : S.1 193 20 = 206 := hF.2 (193, 20, 206) (List.mem_of_getElem? (i := 592) (by decide +kernel))
theorem F_193_21 {S : SS} (hF : Fx S) : S.1 193 21 = 207 := hF.2 (193, 21, 207) (List.mem_of_getElem? (i := 593) (by decide +kernel))
theorem F_193_25 {S : SS} (hF : Fx S) : S.1 193 25 = 208 := hF.2 (193, 25, 208) (List.mem_of_getElem? (i := 594) (by decide +kernel))
theorem F_193_26 {S : SS} (hF : Fx S) : S.1 193 26 = 209 := hF.2 (193, 26, 209) (List.mem_of_getElem? (i := 595) (by decide +kernel))
theorem F_193_30 {S : SS} (hF : Fx S) : S.1 193 30 = 210 := hF.2 (193, 30, 210) (List.mem_of_getElem? (i := 596) (by decide +kernel))
theorem F_193_31 {S : SS} (hF : Fx S) : S.1 193 31 = 211 := hF.2 (193, 31, 211) (List.mem_of_getElem? (i := 597) (by decide +kernel))
theorem F_193_32 {S : SS} (hF : Fx S) : S.1 193 32 = 212 := hF.2 (193, 32, 212) (List.mem_of_getElem? (i := 598) (by decide +kernel))
theorem F_193_33 {S : SS} (hF : Fx S) : S.1 193 33 = 213 := hF.2 (193, 33, 213) (List.mem_of_getElem? (i := 599) (by decide +kernel))
theorem F_193_34 {S : SS} (hF : Fx S) : S.1 193 34 = 214 := hF.2 (193, 34, 214) (List.mem_of_getElem? (i := 600) (by decide +kernel))
theorem F_193_35 {S : SS} (hF : Fx S) : S.1 193 35 = 215 := hF.2 (193, 35, 215) (List.mem_of_getElem? (i := 601) (by decide +kernel))
theorem F_193_39 {S : SS} (hF : Fx S) : S.1 193 39 = 216 := hF.2 (193, 39, 216) (List.mem_of_getElem? (i := 602) (by decide +kernel))
theorem F_193_40 {S : SS} (hF : Fx S) : S.1 193 40 = 217 := hF.2 (193, 40, 217) (List.mem_of_getElem? (i := 603) (by decide +kernel))
theorem F_193_41 {S : SS} (hF : Fx S) : S.1 193 41 = 218 := hF.2 (193, 41, 218) (List.mem_of_getElem? (i := 604) (by decide +kernel))
theorem F_193_42 {S : SS} (hF : Fx S) : S.1 193 42 = 219 := hF.2 (193, 42, 219) (List.mem_of_getElem? (i := 605) (by decide +kernel))
theorem F_193_45 {S : SS} (hF : Fx S) : S.1 193 45 = 220 := hF.2 (193, 45, 220) (List.mem_of_getElem? (i := 606) (by decide +kernel))
theorem F_193_46 {S : SS} (hF : Fx S) : S.1 193 46 = 221 := hF.2 (193, 46, 221) (List.mem_of_getElem? (i := 607) (by decide +kernel))
theorem F_193_47 {S : SS} (hF : Fx S) : S.1 193 47 = 222 := hF.2 (193, 47, 222) (List.mem_of_getElem? (i := 608) (by decide +kernel))
theorem F_193_48 {S : SS} (hF : Fx S) : S.1 193 48 = 223 := hF.2 (193, 48, 223) (List.mem_of_getElem? (i := 609) (by decide +kernel))
theorem F_193_57 {S : SS} (hF : Fx S) : S.1 193 57 = 224 := hF.2 (193, 57, 224) (List.mem_of_getElem? (i := 610) (by decide +kernel))
theorem F_193_58 {S : SS} (hF : Fx S) : S.1 193 58 = 225 := hF.2 (193, 58, 225) (List.mem_of_getElem? (i := 611) (by decide +kernel))
theorem F_193_59 {S : SS} (hF : Fx S) : S.1 193 59 = 226 := hF.2 (193, 59, 226) (List.mem_of_getElem? (i := 612) (by decide +kernel))
theorem F_193_60 {S : SS} (hF : Fx S) : S.1 193 60 = 227 := hF.2 (193, 60, 227) (List.mem_of_getElem? (i := 613) (by decide +kernel))
theorem F_193_61 {S : SS} (hF : Fx S) : S.1 193 61 = 228 := hF.2 (193, 61, 228) (List.mem_of_getElem? (i := 614) (by decide +kernel))
theorem F_193_62 {S : SS} (hF : Fx S) : S.1 193 62 = 229 := hF.2 (193, 62, 229) (List.mem_of_getElem? (i := 615) (by decide +kernel))
theorem F_193_63 {S : SS} (hF : Fx S) : S.1 193 63 = 230 := hF.2 (193, 63, 230) (List.mem_of_getElem? (i := 616) (by decide +kernel))
theorem F_193_64 {S : SS} (hF : Fx S) : S.1 193 64 = 231 := hF.2 (193, 64, 231) (List.mem_of_getElem? (i := 617) (by decide +kernel))
theorem F_193_65 {S : SS} (hF : Fx S) : S.1 193 65 = 232 := hF.2 (193, 65, 232) (List.mem_of_getElem? (i := 618) (by decide +kernel))
theorem F_193_66 {S : SS} (hF : Fx S) : S.1 193 66 = 233 := hF.2 (193, 66, 233) (List.mem_of_getElem? (i := 619) (by decide +kernel))
theorem F_193_67 {S : SS} (hF : Fx S) : S.1 193 67 = 234 := hF.2 (193, 67, 234) (List.mem_of_getElem? (i := 620) (by decide +kernel))
theorem F_193_68 {S : SS} (hF : Fx S) : S.1 193 68 = 235 := hF.2 (193, 68, 235) (List.mem_of_getElem? (i := 621) (by decide +kernel))
theorem F_193_69 {S : SS} (hF : Fx S) : S.1 193 69 = 236 := hF.2 (193, 69, 236) (List.mem_of_getElem? (i := 622) (by decide +kernel))
theorem F_193_70 {S : SS} (hF : Fx S) : S.1 193 70 = 237 := hF.2 (193, 70, 237) (List.mem_of_getElem? (i := 623) (by decide +kernel))
theorem F_193_72 {S : SS} (hF : Fx S) : S.1 193 72 = 238 := hF.2 (193, 72, 238) (List.mem_of_getElem? (i := 624) (by decide +kernel))
theorem F_193_73 {S : SS} (hF : Fx S) : S.1 193 73 = 239 := hF.2 (193, 73, 239) (List.mem_of_getElem? (i := 625) (by decide +kernel))
theorem F_193_74 {S : SS} (hF : Fx S) : S.1 193 74 = 240 := hF.2 (193, 74, 240) (List.mem_of_getElem? (i := 626) (by decide +kernel))
theorem F_193_75 {S : SS} (hF : Fx S) : S.1 193 75 = 241 := hF.2 (193, 75, 241) (List.mem_of_getElem? (i := 627) (by decide +kernel))
theorem F_193_76 {S : SS} (hF : Fx S) : S.1 193 76 = 242 := hF.2 (193, 76, 242) (List.mem_of_getElem? (i := 628) (by decide +kernel))
theorem ww_m2000000000 : ww (-2000000000) = (-2000000000) := by decide
theorem ww_m38 : ww (-38) = (-38) := by decide
theorem ww_m33 : ww (-33) = (-33) := by decide
theorem ww_m1 : ww (-1) = (-1) := by decide
theorem ww_n0 : ww 0 = 0 := by decide
theorem ww_n1 : ww 1 = 1 := by decide
theorem ww_n2 : ww 2 = 2 := by decide
theorem ww_n3 : ww 3 = 3 := by decide
theorem ww_n4 : ww 4 = 4 := by decide
theorem ww_n5 : ww 5 = 5 := by decide
theorem ww_n6 : ww 6 = 6 := by decide
theorem ww_n7 : ww 7 = 7 := by decide
theorem ww_n8 : ww 8 = 8 := by decide
theorem ww_n9 : ww 9 = 9 := by decide
theorem ww_n10 : ww 10 = 10 := by decide
theorem ww_n20 : ww 20 = 20 := by decide
theorem ww_n24 : ww 24 = 24 := by decide
theorem ww_n30 : ww 30 = 30 := by decide
theorem ww_n33 : ww 33 = 33 := by decide
theorem ww_n38 : ww 38 = 38 := by decide
theorem ww_n40 : ww 40 = 40 := by decide
theorem ww_n41 : ww 41 = 41 := by decide
theorem ww_n50 : ww 50 = 50 := by decide
theorem ww_n60 : ww 60 = 60 := by decide
theorem ww_n100 : ww 100 = 100 := by decide
theorem ww_n124 : ww 124 = 124 := by decide
theorem ww_n1000 : ww 1000 = 1000 := by decide
theorem ww_n9999 : ww 9999 = 9999 := by decide
theorem ww_n16807 : ww 16807 = 16807 := by decide
theorem cl_12 : 12 < 20 ∧ clX[12]? = some (RX12, TX12, 77) := ⟨by decide, rfl⟩
theorem uin_12 : ∀ w ∈ u_ws RX12 TX12 77, w ∈ lwb := uin_of [1248, 1250, 1252, 1254, 1256, 1258, 1260, 1262, 1264, 1266, 1268, 1270, 1272, 1274, 1276, 1278, 1280, 1282, 1284, 1286, 1288, 1290, 1292, 1294, 1296, 1298, 1300, 1302, 1304, 1306, 1308, 1310, 1312, 1314, 1316, 1318, 1320, 1322, 1324, 1326, 1328, 1330, 1332, 1334, 1336, 1338, 1340, 1342, 1344, 1346, 1348, 1350, 1352, 1354, 1356, 1358, 1360, 1362, 1364, 1366, 1368, 1370, 1372, 1374, 1376, 1378, 1380, 1382, 1384, 1386, 1388, 1390, 1392, 1394, 1396, 1398, 1400] (by decide +kernel) (by decide +kernel)
theorem fb_12_0 : FB 12 0 77 RX12 TX12 false := ⟨by decide, rfl, uin_12, by decide, by decide +kernel⟩
theorem fb_12_1 : FB 12 1 77 RX12 TX12 false := ⟨by decide, rfl, uin_12, by decide, by decide +kernel⟩
theorem fb_12_2 : FB 12 2 77 RX12 TX12 false := ⟨by decide, rfl, uin_12, by decide, by decide +kernel⟩
theorem fb_12_3 : FB 12 3 77 RX12 TX12 true := ⟨by decide, rfl, uin_12, by decide, by decide +kernel⟩
theorem fb_12_4 : FB 12 4 77 RX12 TX12 true := ⟨by decide, rfl, uin_12, by decide, by decide +kernel⟩
theorem fb_12_5 : FB 12 5 77 RX12 TX12 true := ⟨by decide, rfl, uin_12, by decide, by decide +kernel⟩
theorem fb_12_6 : FB 12 6 77 RX12 TX12 true := ⟨by decide, rfl, uin_12, by decide, by decide +kernel⟩
theorem fb_12_7 : FB 12 7 77 RX12 TX12 true := ⟨by decide, rfl, uin_12, by decide, by decide +kernel⟩
theorem fb_12_8 : FB 12 8 77 RX12 TX12 true := ⟨by decide, rfl, uin_12, by decide, by decide +kernel⟩
theorem fb_12_9 : FB 12 9 77 RX12 TX12 false := ⟨by decide, rfl, uin_12, by decide, by decide +kernel⟩
theorem fb_12_10 : FB 12 10 77 RX12 TX12 false := ⟨by decide, rfl, uin_12, by decide, by decide +kernel⟩
theorem fb_12_11 : FB 12 11 77 RX12 TX12 false := ⟨by decide, rfl, uin_12, by decide, by decide +kernel⟩
theorem fb_12_12 : FB 12 12 77 RX12 TX12 false := ⟨by decide, rfl, uin_12, by decide, by decide +kernel⟩
theorem fb_12_13 : FB 12 13 77 RX12 TX12 false := ⟨by decide, rfl, uin_12, by decide, by decide +kernel⟩
theorem fb_12_14 : FB 12 14 77 RX12 TX12 true := ⟨by decide, rfl, uin_12, by decide, by decide +kernel⟩
theorem fb_12_15 : FB 12 15 77 RX12 TX12 true := ⟨by decide, rfl, uin_12, by decide, by decide +kernel⟩
theorem fb_12_16 : FB 12 16 77 RX12 TX12 true := ⟨by decide, rfl, uin_12, by decide, by decide +kernel⟩
theorem fb_12_17 : FB 12 17 77 RX12 TX12 true := ⟨by decide, rfl, uin_12, by decide, by decide +kernel⟩
theorem fb_12_18 : FB 12 18 77 RX12 TX12 true := ⟨by decide, rfl, uin_12, by decide, by decide +kernel⟩
theorem fb_12_19 : FB 12 19 77 RX12 TX12 true := ⟨by decide, rfl, uin_12, by decide, by decide +kernel⟩
theorem fb_12_20 : FB 12 20 77 RX12 TX12 true := ⟨by decide, rfl, uin_12, by decide, by decide +kernel⟩
theorem fb_12_21 : FB 12 21 77 RX12 TX12 true := ⟨by decide, rfl, uin_12, by decide, by decide +kernel⟩
theorem fb_12_22 : FB 12 22 77 RX12 TX12 false := ⟨by decide, rfl, uin_12, by decide, by decide +kernel⟩
theorem fb_12_23 : FB 12 23 77 RX12 TX12 false := ⟨by decide, rfl, uin_12, by decide, by decide +kernel⟩
theorem fb_12_24 : FB 12 24 77 RX12 TX12 false := ⟨by decide, rfl, uin_12, by decide, by decide +kernel⟩
theorem fb_12_25 : FB 12 25 77 RX12 TX12 true := ⟨by decide, rfl, uin_12, by decide, by decide +kernel⟩
theorem fb_12_26 : FB 12 26 77 RX12 TX12 true := ⟨by decide, rfl, uin_12, by decide, by decide +kernel⟩
theorem fb_12_27 : FB 12 27 77 RX12 TX12 false := ⟨by decide, rfl, uin_12, by decide, by decide +kernel⟩
theorem fb_12_28 : FB 12 28 77 RX12 TX12 false := ⟨by decide, rfl, uin_12, by decide, by decide +kernel⟩
theorem fb_12_29 : FB 12 29 77 RX12 TX12 false := ⟨by decide, rfl, uin_12, by decide, by decide +kernel⟩
theorem fb_12_30 : FB 12 30 77 RX12 TX12 true := ⟨by decide, rfl, uin_12, by decide, by decide +kernel⟩
theorem fb_12_31 : FB 12 31 77 RX12 TX12 true := ⟨by decide, rfl, uin_12, by decide, by decide +kernel⟩
theorem fb_12_32 : FB 12 32 77 RX12 TX12 true := ⟨by decide, rfl, uin_12, by decide, by decide +kernel⟩
theorem fb_12_33 : FB 12 33 77 RX12 TX12 true := ⟨by decide, rfl, uin_12, by decide, by decide +kernel⟩
theorem fb_12_34 : FB 12 34 77 RX12 TX12 true := ⟨by decide, rfl, uin_12, by decide, by decide +kernel⟩
theorem fb_12_35 : FB 12 35 77 RX12 TX12 true := ⟨by decide, rfl, uin_12, by decide, by decide +kernel⟩
theorem fb_12_36 : FB 12 36 77 RX12 TX12 false := ⟨by decide, rfl, uin_12, by decide, by decide +kernel⟩
theorem fb_12_37 : FB 12 37 77 RX12 TX12 false := ⟨by decide, rfl, uin_12, by decide, by decide +kernel⟩
theorem fb_12_38 : FB 12 38 77 RX12 TX12 false := ⟨by decide, rfl, uin_12, by decide, by decide +kernel⟩
theorem fb_12_39 : FB 12 39 77 RX12 TX12 true := ⟨by decide, rfl, uin_12, by decide, by decide +kernel⟩
theorem fb_12_40 : FB 12 40 77 RX12 TX12 true := ⟨by decide, rfl, uin_12, by decide, by decide +kernel⟩
theorem fb_12_41 : FB 12 41 77 RX12 TX12 true := ⟨by decide, rfl, uin_12, by decide, by decide +kernel⟩
theorem fb_12_42 : FB 12 42 77 RX12 TX12 true := ⟨by decide, rfl, uin_12, by decide, by decide +kernel⟩
theorem fb_12_43 : FB 12 43 77 RX12 TX12 false := ⟨by decide, rfl, uin_12, by decide, by decide +kernel⟩
theorem fb_12_44 : FB 12 44 77 RX12 TX12 false := ⟨by decide, rfl, uin_12, by decide, by decide +kernel⟩
theorem fb_12_45 : FB 12 45 77 RX12 TX12 true := ⟨by decide, rfl, uin_12, by decide, by decide +kernel⟩
theorem fb_12_46 : FB 12 46 77 RX12 TX12 true := ⟨by decide, rfl, uin_12, by decide, by decide +kernel⟩
theorem fb_12_47 : FB 12 47 77 RX12 TX12 true := ⟨by decide, rfl, uin_12, by decide, by decide +kernel⟩
theorem fb_12_48 : FB 12 48 77 RX12 TX12 true := ⟨by decide, rfl, uin_12, by decide, by decide +kernel⟩
theorem fb_12_49 : FB 12 49 77 RX12 TX12 false := ⟨by decide, rfl, uin_12, by decide, by decide +kernel⟩
theorem fb_12_50 : FB 12 50 77 RX12 TX12 false := ⟨by decide, rfl, uin_12, by decide, by decide +kernel⟩
theorem fb_12_51 : FB 12 51 77 RX12 TX12 false := ⟨by decide, rfl, uin_12, by decide, by decide +kernel⟩
theorem fb_12_52 : FB 12 52 77 RX12 TX12 false := ⟨by decide, rfl, uin_12, by decide, by decide +kernel⟩
theorem fb_12_53 : FB 12 53 77 RX12 TX12 false := ⟨by decide, rfl, uin_12, by decide, by decide +kernel⟩
theorem fb_12_54 : FB 12 54 77 RX12 TX12 false := ⟨by decide, rfl, uin_12, by decide, by decide +kernel⟩
theorem fb_12_55 : FB 12 55 77 RX12 TX12 false := ⟨by decide, rfl, uin_12, by decide, by decide +kernel⟩
theorem fb_12_56 : FB 12 56 77 RX12 TX12 false := ⟨by decide, rfl, uin_12, by decide, by decide +kernel⟩
theorem fb_12_57 : FB 12 57 77 RX12 TX12 true := ⟨by decide, rfl, uin_12, by decide, by decide +kernel⟩
theorem fb_12_58 : FB 12 58 77 RX12 TX12 true := ⟨by decide, rfl, uin_12, by decide, by decide +kernel⟩
theorem fb_12_59 : FB 12 59 77 RX12 TX12 true := ⟨by decide, rfl, uin_12, by decide, by decide +kernel⟩
theorem fb_12_60 : FB 12 60 77 RX12 TX12 true := ⟨by decide, rfl, uin_12, by decide, by decide +kernel⟩
theorem fb_12_61 : FB 12 61 77 RX12 TX12 true := ⟨by decide, rfl, uin_12, by decide, by decide +kernel⟩
theorem fb_12_62 : FB 12 62 77 RX12 TX12 true := ⟨by decide, rfl, uin_12, by decide, by decide +kernel⟩
theorem fb_12_63 : FB 12 63 77 RX12 TX12 true := ⟨by decide, rfl, uin_12, by decide, by decide +kernel⟩
theorem fb_12_64 : FB 12 64 77 RX12 TX12 true := ⟨by decide, rfl, uin_12, by decide, by decide +kernel⟩
theorem fb_12_65 : FB 12 65 77 RX12 TX12 true := ⟨by decide, rfl, uin_12, by decide, by decide +kernel⟩
theorem fb_12_66 : FB 12 66 77 RX12 TX12 true := ⟨by decide, rfl, uin_12, by decide, by decide +kernel⟩
theorem fb_12_67 : FB 12 67 77 RX12 TX12 true := ⟨by decide, rfl, uin_12, by decide, by decide +kernel⟩
theorem fb_12_68 : FB 12 68 77 RX12 TX12 true := ⟨by decide, rfl, uin_12, by decide, by decide +kernel⟩
theorem fb_12_69 : FB 12 69 77 RX12 TX12 true := ⟨by decide, rfl, uin_12, by decide, by decide +kernel⟩
theorem fb_12_70 : FB 12 70 77 RX12 TX12 true := ⟨by decide, rfl, uin_12, by decide, by decide +kernel⟩
theorem fb_12_71 : FB 12 71 77 RX12 TX12 false := ⟨by decide, rfl, uin_12, by decide, by decide +kernel⟩
theorem fb_12_72 : FB 12 72 77 RX12 TX12 true := ⟨by decide, rfl, uin_12, by decide, by decide +kernel⟩
theorem fb_12_73 : FB 12 73 77 RX12 TX12 true := ⟨by decide, rfl, uin_12, by decide, by decide +kernel⟩
theorem fb_12_74 : FB 12 74 77 RX12 TX12 true := ⟨by decide, rfl, uin_12, by decide, by decide +kernel⟩
theorem fb_12_75 : FB 12 75 77 RX12 TX12 true := ⟨by decide, rfl, uin_12, by decide, by decide +kernel⟩
theorem fb_12_76 : FB 12 76 77 RX12 TX12 true := ⟨by decide, rfl, uin_12, by decide, by decide +kernel⟩
theorem fp_12_0 : FP 77 0 TX12 tyX12 .int := ⟨tyX12_ok, nmX12, by decide +kernel⟩
theorem fp_12_1 : FP 77 1 TX12 tyX12 .int := ⟨tyX12_ok, nmX12, by decide +kernel⟩
theorem fp_12_2 : FP 77 2 TX12 tyX12 .int := ⟨tyX12_ok, nmX12, by decide +kernel⟩
theorem fp_12_9 : FP 77 9 TX12 tyX12 .int := ⟨tyX12_ok, nmX12, by decide +kernel⟩
theorem fp_12_10 : FP 77 10 TX12 tyX12 .int := ⟨tyX12_ok, nmX12, by decide +kernel⟩
theorem fp_12_11 : FP 77 11 TX12 tyX12 .int := ⟨tyX12_ok, nmX12, by decide +kernel⟩
theorem fp_12_12 : FP 77 12 TX12 tyX12 .int := ⟨tyX12_ok, nmX12, by decide +kernel⟩
theorem fp_12_13 : FP 77 13 TX12 tyX12 .int := ⟨tyX12_ok, nmX12, by decide +kernel⟩
theorem fp_12_22 : FP 77 22 TX12 tyX12 .int := ⟨tyX12_ok, nmX12, by decide +kernel⟩
theorem fp_12_23 : FP 77 23 TX12 tyX12 .int := ⟨tyX12_ok, nmX12, by decide +kernel⟩
theorem fp_12_24 : FP 77 24 TX12 tyX12 .int := ⟨tyX12_ok, nmX12, by decide +kernel⟩
theorem fp_12_27 : FP 77 27 TX12 tyX12 .int := ⟨tyX12_ok, nmX12, by decide +kernel⟩
theorem fp_12_28 : FP 77 28 TX12 tyX12 .int := ⟨tyX12_ok, nmX12, by decide +kernel⟩
theorem fp_12_29 : FP 77 29 TX12 tyX12 .int := ⟨tyX12_ok, nmX12, by decide +kernel⟩
theorem fp_12_36 : FP 77 36 TX12 tyX12 .int := ⟨tyX12_ok, nmX12, by decide +kernel⟩
theorem fp_12_37 : FP 77 37 TX12 tyX12 .int := ⟨tyX12_ok, nmX12, by decide +kernel⟩
theorem fp_12_38 : FP 77 38 TX12 tyX12 .int := ⟨tyX12_ok, nmX12, by decide +kernel⟩
theorem fp_12_43 : FP 77 43 TX12 tyX12 .int := ⟨tyX12_ok, nmX12, by decide +kernel⟩
theorem fp_12_44 : FP 77 44 TX12 tyX12 .int := ⟨tyX12_ok, nmX12, by decide +kernel⟩
theorem fp_12_49 : FP 77 49 TX12 tyX12 .boolean := ⟨tyX12_ok, nmX12, by decide +kernel⟩
theorem fp_12_50 : FP 77 50 TX12 tyX12 .int := ⟨tyX12_ok, nmX12, by decide +kernel⟩
theorem fp_12_51 : FP 77 51 TX12 tyX12 .int := ⟨tyX12_ok, nmX12, by decide +kernel⟩
theorem fp_12_52 : FP 77 52 TX12 tyX12 .int := ⟨tyX12_ok, nmX12, by decide +kernel⟩
theorem fp_12_53 : FP 77 53 TX12 tyX12 .int := ⟨tyX12_ok, nmX12, by decide +kernel⟩
theorem fp_12_54 : FP 77 54 TX12 tyX12 .int := ⟨tyX12_ok, nmX12, by decide +kernel⟩
theorem fp_12_55 : FP 77 55 TX12 tyX12 .int := ⟨tyX12_ok, nmX12, by decide +kernel⟩
theorem fp_12_56 : FP 77 56 TX12 tyX12 .int := ⟨tyX12_ok, nmX12, by decide +kernel⟩
theorem fp_12_71 : FP 77 71 TX12 tyX12 .int := ⟨tyX12_ok, nmX12, by decide +kernel⟩
theorem wv_RX12_245 : WV RX12 245 RX12 yX12_in cX12_in 4 (some Jvm.ClassFile.FieldType.boolean) 3 := ⟨lwb_callV wd_1407 wd_1409 wd_30 wd_105 wd_1410, rfl, by decide, by decide, by decide +kernel⟩
theorem wv_RX12_249 : WV RX12 249 RX12 yX12_isHate cX12_isHate 2 (some Jvm.ClassFile.FieldType.boolean) 1 := ⟨lwb_callV wd_1411 wd_1413 wd_31 wd_105 wd_1414, rfl, by decide, by decide, by decide +kernel⟩
theorem wv_RX12_253 : WV RX12 253 RX12 yX12_isHater cX12_isHater 2 (some Jvm.ClassFile.FieldType.boolean) 1 := ⟨lwb_callV wd_1419 wd_1421 wd_32 wd_105 wd_1422, rfl, by decide, by decide, by decide +kernel⟩
theorem wv_RX12_256 : WV RX12 256 RX12 yX12_isTree cX12_isTree 2 (some Jvm.ClassFile.FieldType.boolean) 1 := ⟨lwb_callV wd_1423 wd_1425 wd_33 wd_105 wd_1426, rfl, by decide, by decide, by decide +kernel⟩
theorem wv_RX12_259 : WV RX12 259 RX12 yX12_leads cX12_leads 4 (Option.none : Option Jvm.ClassFile.FieldType) 2 := ⟨lwb_callV wd_1431 wd_1433 wd_34 wd_105 wd_1434, rfl, by decide, by decide, by decide +kernel⟩
theorem wv_RX12_263 : WV RX12 263 RX12 yX12_has cX12_has 3 (some Jvm.ClassFile.FieldType.boolean) 2 := ⟨lwb_callV wd_1439 wd_1441 wd_35 wd_105 wd_1442, rfl, by decide, by decide, by decide +kernel⟩
theorem wv_RX12_267 : WV RX12 267 RX12 yX12_goes cX12_goes 3 (Option.none : Option Jvm.ClassFile.FieldType) 2 := ⟨lwb_callV wd_1443 wd_1445 wd_36 wd_105 wd_1446, rfl, by decide, by decide, by decide +kernel⟩
theorem wv_RX12_271 : WV RX12 271 RX12 yX12_next cX12_next 1 (some Jvm.ClassFile.FieldType.int) 0 := ⟨lwb_callV wd_1471 wd_1473 wd_40 wd_105 wd_1474, rfl, by decide, by decide, by decide +kernel⟩
theorem wv_RX12_275 : WV RX12 275 RX12 yX12_takes cX12_takes 2 (some Jvm.ClassFile.FieldType.boolean) 1 := ⟨lwb_callV wd_1479 wd_1481 wd_42 wd_105 wd_1482, rfl, by decide, by decide, by decide +kernel⟩
theorem wv_RX12_278 : WV RX12 278 RX12 yX12_isDigit cX12_isDigit 1 (some Jvm.ClassFile.FieldType.boolean) 0 := ⟨lwb_callV wd_1487 wd_1489 wd_44 wd_105 wd_1490, rfl, by decide, by decide, by decide +kernel⟩
theorem wv_RX12_282 : WV RX12 282 RX12 yX12_emits cX12_emits 2 (Option.none : Option Jvm.ClassFile.FieldType) 1 := ⟨lwb_callV wd_1503 wd_1505 wd_48 wd_105 wd_1506, rfl, by decide, by decide, by decide +kernel⟩
theorem wv_RX12_286 : WV RX12 286 RX12 yX12_place cX12_place 2 (some Jvm.ClassFile.FieldType.int) 1 := ⟨lwb_callV wd_1499 wd_1501 wd_47 wd_105 wd_1502, rfl, by decide, by decide, by decide +kernel⟩
theorem wv_RX12_290 : WV RX12 290 RX12 yX12_takesNumber cX12_takesNumber 2 (some Jvm.ClassFile.FieldType.boolean) 0 := ⟨lwb_callV wd_1483 wd_1485 wd_43 wd_105 wd_1486, rfl, by decide, by decide, by decide +kernel⟩
theorem wv_RX12_293 : WV RX12 293 RX12 yX12_whole cX12_whole 1 (Option.none : Option Jvm.ClassFile.FieldType) 0 := ⟨lwb_callV wd_1507 wd_1509 wd_49 wd_105 wd_1510, rfl, by decide, by decide, by decide +kernel⟩
theorem wv_RX12_296 : WV RX12 296 RX12 yX12_takesTest cX12_takesTest 3 (some Jvm.ClassFile.FieldType.boolean) 0 := ⟨lwb_callV wd_1495 wd_1497 wd_46 wd_105 wd_1498, rfl, by decide, by decide, by decide +kernel⟩
theorem wv_RX12_299 : WV RX12 299 RX12 yX12_settle cX12_settle 2 (Option.none : Option Jvm.ClassFile.FieldType) 1 := ⟨lwb_callV wd_1511 wd_1513 wd_50 wd_105 wd_1514, rfl, by decide, by decide, by decide +kernel⟩
theorem wv_RX12_302 : WV RX12 302 RX12 yX12_takesWord cX12_takesWord 4 (some Jvm.ClassFile.FieldType.boolean) 2 := ⟨lwb_callV wd_1475 wd_1477 wd_41 wd_105 wd_1478, rfl, by decide, by decide, by decide +kernel⟩
theorem wv_RX12_305 : WV RX12 305 RX12 yX12_takesHead cX12_takesHead 2 (some Jvm.ClassFile.FieldType.boolean) 1 := ⟨lwb_callV wd_1467 wd_1469 wd_39 wd_105 wd_1470, rfl, by decide, by decide, by decide +kernel⟩
theorem wv_RX12_308 : WV RX12 308 RX12 yX12_takesE cX12_takesE 4 (some Jvm.ClassFile.FieldType.boolean) 1 := ⟨lwb_callV wd_1491 wd_1493 wd_45 wd_105 wd_1494, rfl, by decide, by decide, by decide +kernel⟩
theorem wv_RX12_311 : WV RX12 311 RX12 yX12_takesClause cX12_takesClause 2 (some Jvm.ClassFile.FieldType.boolean) 1 := ⟨lwb_callV wd_1463 wd_1465 wd_38 wd_105 wd_1466, rfl, by decide, by decide, by decide +kernel⟩
theorem wv_RX12_314 : WV RX12 314 RX12 yX12_goesText cX12_goesText 3 (some Jvm.ClassFile.FieldType.boolean) 1 := ⟨lwb_callV wd_1459 wd_1461 wd_37 wd_105 wd_1462, rfl, by decide, by decide, by decide +kernel⟩
theorem wv_RX12_317 : WV RX12 317 RX12 yX12_begin cX12_begin 1 (some Jvm.ClassFile.FieldType.int) 0 := ⟨lwb_callV wd_1547 wd_1549 wd_58 wd_105 wd_1550, rfl, by decide, by decide, by decide +kernel⟩
theorem wv_RX12_320 : WV RX12 320 RX12 yX12_behind cX12_behind 1 (some Jvm.ClassFile.FieldType.int) 0 := ⟨lwb_callV wd_1551 wd_1553 wd_59 wd_105 wd_1554, rfl, by decide, by decide, by decide +kernel⟩
theorem wv_RX12_323 : WV RX12 323 RX12 yX12_lastOf cX12_lastOf 5 (some Jvm.ClassFile.FieldType.int) 2 := ⟨lwb_callV wd_1567 wd_1569 wd_63 wd_105 wd_1570, rfl, by decide, by decide, by decide +kernel⟩
theorem wv_RX12_327 : WV RX12 327 RX12 yX12_factOf cX12_factOf 4 (some Jvm.ClassFile.FieldType.int) 3 := ⟨lwb_callV wd_1559 wd_1561 wd_61 wd_105 wd_1562, rfl, by decide, by decide, by decide +kernel⟩
theorem wv_RX12_331 : WV RX12 331 RX12 yX12_holds cX12_holds 9 (some Jvm.ClassFile.FieldType.boolean) 3 := ⟨lwb_callV wd_1555 wd_1557 wd_60 wd_105 wd_1558, rfl, by decide, by decide, by decide +kernel⟩
theorem wv_RX12_334 : WV RX12 334 RX12 yX12_sum cX12_sum 5 (some Jvm.ClassFile.FieldType.int) 2 := ⟨lwb_callV wd_1543 wd_1545 wd_57 wd_105 wd_1546, rfl, by decide, by decide, by decide +kernel⟩
theorem wv_RX12_337 : WV RX12 337 RX12 yX12_force cX12_force 6 (some Jvm.ClassFile.FieldType.int) 2 := ⟨lwb_callV wd_1539 wd_1541 wd_56 wd_105 wd_1542, rfl, by decide, by decide, by decide +kernel⟩
theorem wv_RX12_340 : WV RX12 340 RX12 yX12_need cX12_need 1 (some Jvm.ClassFile.FieldType.int) 0 := ⟨lwb_callV wd_1563 wd_1565 wd_62 wd_105 wd_1566, rfl, by decide, by decide, by decide +kernel⟩
theorem wv_RX12_343 : WV RX12 343 RX12 yX12_bears cX12_bears 3 (some Jvm.ClassFile.FieldType.boolean) 2 := ⟨lwb_callV wd_1535 wd_1537 wd_55 wd_105 wd_1538, rfl, by decide, by decide, by decide +kernel⟩
theorem wv_RX12_346 : WV RX12 346 RX12 yX12_wear cX12_wear 1 (some Jvm.ClassFile.FieldType.int) 0 := ⟨lwb_callV wd_1579 wd_1581 wd_66 wd_105 wd_1582, rfl, by decide, by decide, by decide +kernel⟩
theorem wv_RX12_349 : WV RX12 349 RX12 yX12_bearSet cX12_bearSet 3 (some Jvm.ClassFile.FieldType.int) 0 := ⟨lwb_callV wd_1531 wd_1533 wd_54 wd_105 wd_1534, rfl, by decide, by decide, by decide +kernel⟩
theorem wv_RX12_352 : WV RX12 352 RX12 yX12_least cX12_least 3 (some Jvm.ClassFile.FieldType.int) 2 := ⟨lwb_callV wd_1571 wd_1573 wd_64 wd_105 wd_1574, rfl, by decide, by decide, by decide +kernel⟩
theorem wv_RX12_355 : WV RX12 355 RX12 yX12_wears cX12_wears 4 (Option.none : Option Jvm.ClassFile.FieldType) 2 := ⟨lwb_callV wd_1575 wd_1577 wd_65 wd_105 wd_1578, rfl, by decide, by decide, by decide +kernel⟩
theorem wv_RX12_358 : WV RX12 358 RX12 yX12_goYear cX12_goYear 3 (Option.none : Option Jvm.ClassFile.FieldType) 0 := ⟨lwb_callV wd_1527 wd_1529 wd_53 wd_105 wd_1530, rfl, by decide, by decide, by decide +kernel⟩
theorem wv_RX12_361 : WV RX12 361 RX12 yX12_isYears cX12_isYears 2 (some Jvm.ClassFile.FieldType.boolean) 1 := ⟨lwb_callV wd_1519 wd_1521 wd_51 wd_105 wd_1522, rfl, by decide, by decide, by decide +kernel⟩
theorem wv_RX12_364 : WV RX12 364 RX12 yX12_goYears cX12_goYears 3 (Option.none : Option Jvm.ClassFile.FieldType) 1 := ⟨lwb_callV wd_1523 wd_1525 wd_52 wd_105 wd_1526, rfl, by decide, by decide, by decide +kernel⟩
theorem wv_RX12_368 : WV RX12 368 RX12 yX12_save cX12_save 2 (Option.none : Option Jvm.ClassFile.FieldType) 0 := ⟨lwb_callV wd_1591 wd_1593 wd_68 wd_105 wd_1594, rfl, by decide, by decide, by decide +kernel⟩
theorem wv_RX12_371 : WV RX12 371 RX12 yX12_putBack cX12_putBack 2 (Option.none : Option Jvm.ClassFile.FieldType) 0 := ⟨lwb_callV wd_1596 wd_1598 wd_69 wd_105 wd_1599, rfl, by decide, by decide, by decide +kernel⟩
theorem wv_RX12_374 : WV RX12 374 RX12 yX12_lasts cX12_lasts 4 (some Jvm.ClassFile.FieldType.int) 2 := ⟨lwb_callV wd_1587 wd_1589 wd_67 wd_105 wd_1590, rfl, by decide, by decide, by decide +kernel⟩
theorem wv_RX12_377 : WV RX12 377 RX12 yX12_whereLeads cX12_whereLeads 3 (some Jvm.ClassFile.FieldType.int) 1 := ⟨lwb_callV wd_1600 wd_1602 wd_70 wd_105 wd_1603, rfl, by decide, by decide, by decide +kernel⟩
theorem wv_RX12_381 : WV RX12 381 RX12 yX12_layForces cX12_layForces 3 (Option.none : Option Jvm.ClassFile.FieldType) 0 := ⟨lwb_callV wd_1616 wd_1618 wd_72 wd_105 wd_1619, rfl, by decide, by decide, by decide +kernel⟩
theorem wv_RX12_384 : WV RX12 384 RX12 yX12_layRing cX12_layRing 6 (some Jvm.ClassFile.FieldType.boolean) 1 := ⟨lwb_callV wd_1621 wd_1623 wd_73 wd_105 wd_1624, rfl, by decide, by decide, by decide +kernel⟩
theorem wv_RX12_387 : WV RX12 387 RX12 yX12_layBest cX12_layBest 5 (Option.none : Option Jvm.ClassFile.FieldType) 0 := ⟨lwb_callV wd_1612 wd_1614 wd_71 wd_105 wd_1615, rfl, by decide, by decide, by decide +kernel⟩
theorem wv_RX12_390 : WV RX12 390 RX12 yX12_allBore cX12_allBore 3 (some Jvm.ClassFile.FieldType.int) 0 := ⟨lwb_callV wd_1629 wd_1631 wd_74 wd_105 wd_1632, rfl, by decide, by decide, by decide +kernel⟩
theorem wv_RX12_393 : WV RX12 393 RX12 yX12_worst cX12_worst 6 (some Jvm.ClassFile.FieldType.int) 1 := ⟨lwb_callV wd_1633 wd_1635 wd_75 wd_105 wd_1636, rfl, by decide, by decide, by decide +kernel⟩
theorem wv_RX12_397 : WV RX12 397 RX12 yX12_leaderAt cX12_leaderAt 6 (some Jvm.ClassFile.FieldType.int) 3 := ⟨lwb_callV wd_1645 wd_1647 wd_77 wd_105 wd_1648, rfl, by decide, by decide, by decide +kernel⟩
theorem wv_RX12_400 : WV RX12 400 RX12 yX12_bearsBy cX12_bearsBy 7 (some Jvm.ClassFile.FieldType.int) 3 := ⟨lwb_callV wd_1641 wd_1643 wd_76 wd_105 wd_1644, rfl, by decide, by decide, by decide +kernel⟩
theorem wv_RX12_403 : WV RX12 403 RX12 yX12_isSeen cX12_isSeen 6 (some Jvm.ClassFile.FieldType.boolean) 2 := ⟨lwb_callV wd_1657 wd_1659 wd_78 wd_105 wd_1660, rfl, by decide, by decide, by decide +kernel⟩
theorem wv_RX12_406 : WV RX12 406 RX12 yX12_divisor cX12_divisor 6 (some Jvm.ClassFile.FieldType.int) 2 := ⟨lwb_callV wd_1674 wd_1676 wd_80 wd_105 wd_1677, rfl, by decide, by decide, by decide +kernel⟩
theorem wv_RX12_411 : WV RX12 411 RX12 yX12_lowest cX12_lowest 5 (some Jvm.ClassFile.FieldType.long) 3 := ⟨lwb_callV wd_1670 wd_1672 wd_79 wd_105 wd_1673, rfl, by decide, by decide, by decide +kernel⟩
theorem wv_RX12_415 : WV RX12 415 RX12 yX12_isLead cX12_isLead 2 (some Jvm.ClassFile.FieldType.boolean) 1 := ⟨lwb_callV wd_1686 wd_1688 wd_81 wd_105 wd_1689, rfl, by decide, by decide, by decide +kernel⟩
theorem wv_RX12_418 : WV RX12 418 RX12 yX12_goPlan cX12_goPlan 3 (Option.none : Option Jvm.ClassFile.FieldType) 2 := ⟨lwb_callV wd_1694 wd_1696 wd_82 wd_105 wd_1697, rfl, by decide, by decide, by decide +kernel⟩
theorem wv_RX12_421 : WV RX12 421 RX12 yX12_allHate cX12_allHate 3 (some Jvm.ClassFile.FieldType.int) 0 := ⟨lwb_callV wd_1698 wd_1700 wd_83 wd_105 wd_1701, rfl, by decide, by decide, by decide +kernel⟩
theorem wv_RX12_424 : WV RX12 424 RX12 yX12_isTape cX12_isTape 2 (some Jvm.ClassFile.FieldType.boolean) 1 := ⟨lwb_callV wd_1714 wd_1716 wd_84 wd_105 wd_1717, rfl, by decide, by decide, by decide +kernel⟩
theorem wv_RX12_427 : WV RX12 427 RX12 yX12_body cX12_body 2 (Option.none : Option Jvm.ClassFile.FieldType) 1 := ⟨lwb_callV wd_1734 wd_1736 wd_86 wd_105 wd_1737, rfl, by decide, by decide, by decide +kernel⟩
theorem wv_RX12_430 : WV RX12 430 RX12 yX12_haterSings cX12_haterSings 3 (some Jvm.ClassFile.FieldType.int) 2 := ⟨lwb_callV wd_1738 wd_1740 wd_87 wd_105 wd_1741, rfl, by decide, by decide, by decide +kernel⟩
theorem wv_RX12_433 : WV RX12 433 RX12 yX12_singsAct cX12_singsAct 3 (some Jvm.ClassFile.FieldType.int) 2 := ⟨lwb_callV wd_1730 wd_1732 wd_85 wd_105 wd_1733, rfl, by decide, by decide, by decide +kernel⟩
theorem wv_RX12_436 : WV RX12 436 RX12 yX12_haterSpits cX12_haterSpits 3 (some Jvm.ClassFile.FieldType.int) 2 := ⟨lwb_callV wd_1750 wd_1752 wd_90 wd_105 wd_1753, rfl, by decide, by decide, by decide +kernel⟩
theorem wv_RX12_439 : WV RX12 439 RX12 yX12_uncleSpits cX12_uncleSpits 3 (some Jvm.ClassFile.FieldType.int) 2 := ⟨lwb_callV wd_1746 wd_1748 wd_89 wd_105 wd_1749, rfl, by decide, by decide, by decide +kernel⟩
theorem wv_RX12_442 : WV RX12 442 RX12 yX12_spitsAct cX12_spitsAct 4 (some Jvm.ClassFile.FieldType.int) 2 := ⟨lwb_callV wd_1742 wd_1744 wd_88 wd_105 wd_1745, rfl, by decide, by decide, by decide +kernel⟩
theorem wv_RX12_445 : WV RX12 445 RX12 yX12_haterTells cX12_haterTells 3 (some Jvm.ClassFile.FieldType.int) 2 := ⟨lwb_callV wd_1758 wd_1760 wd_92 wd_105 wd_1761, rfl, by decide, by decide, by decide +kernel⟩
theorem wv_RX12_448 : WV RX12 448 RX12 yX12_tellsAct cX12_tellsAct 4 (some Jvm.ClassFile.FieldType.int) 2 := ⟨lwb_callV wd_1754 wd_1756 wd_91 wd_105 wd_1757, rfl, by decide, by decide, by decide +kernel⟩
theorem wv_RX12_451 : WV RX12 451 RX12 yX12_narrow cX12_narrow 4 (some Jvm.ClassFile.FieldType.long) 2 := ⟨lwb_callV wd_1782 wd_1784 wd_93 wd_105 wd_1785, rfl, by decide, by decide, by decide +kernel⟩
