theorem K_0 {S : SS} (hF : Fx S) : KD S 0 11 0 := ⟨by decide, by have := hF.1; omega, hF.2 (0, -1, 11) (List.mem_of_getElem? (i := 0) (by decide +kernel)), hF.2 (0, -2, 0) (List.mem_of_getElem? (i := 1) (by decide +kernel))⟩
theorem K_1 {S : SS} (hF : Fx S) : KD S 1 10 0 := ⟨by decide, by have := hF.1; omega, hF.2 (1, -1, 10) (List.mem_of_getElem? (i := 13) (by decide +kernel)), hF.2 (1, -2, 0) (List.mem_of_getElem? (i := 14) (by decide +kernel))⟩
theorem K_2 {S : SS} (hF : Fx S) : KD S 2 25 6 := ⟨by decide, by have := hF.1; omega, hF.2 (2, -1, 25) (List.mem_of_getElem? (i := 25) (by decide +kernel)), hF.2 (2, -2, 6) (List.mem_of_getElem? (i := 26) (by decide +kernel))⟩
theorem K_3 {S : SS} (hF : Fx S) : KD S 3 22 6 := ⟨by decide, by have := hF.1; omega, hF.2 (3, -1, 22) (List.mem_of_getElem? (i := 27) (by decide +kernel)), hF.2 (3, -2, 6) (List.mem_of_getElem? (i := 28) (by decide +kernel))⟩
theorem K_4 {S : SS} (hF : Fx S) : KD S 4 23 6 := ⟨by decide, by have := hF.1; omega, hF.2 (4, -1, 23) (List.mem_of_getElem? (i := 29) (by decide +kernel)), hF.2 (4, -2, 6) (List.mem_of_getElem? (i := 30) (by decide +kernel))⟩
theorem K_5 {S : SS} (hF : Fx S) : KD S 5 20 5 := ⟨by decide, by have := hF.1; omega, hF.2 (5, -1, 20) (List.mem_of_getElem? (i := 37) (by decide +kernel)), hF.2 (5, -2, 5) (List.mem_of_getElem? (i := 38) (by decide +kernel))⟩
theorem K_6 {S : SS} (hF : Fx S) : KD S 6 20 5 := ⟨by decide, by have := hF.1; omega, hF.2 (6, -1, 20) (List.mem_of_getElem? (i := 39) (by decide +kernel)), hF.2 (6, -2, 5) (List.mem_of_getElem? (i := 40) (by decide +kernel))⟩
theorem K_7 {S : SS} (hF : Fx S) : KD S 7 20 5 := ⟨by decide, by have := hF.1; omega, hF.2 (7, -1, 20) (List.mem_of_getElem? (i := 41) (by decide +kernel)), hF.2 (7, -2, 5) (List.mem_of_getElem? (i := 42) (by decide +kernel))⟩
theorem K_8 {S : SS} (hF : Fx S) : KD S 8 20 5 := ⟨by decide, by have := hF.1; omega, hF.2 (8, -1, 20) (List.mem_of_getElem? (i := 43) (by decide +kernel)), hF.2 (8, -2, 5) (List.mem_of_getElem? (i := 44) (by decide +kernel))⟩
theorem K_9 {S : SS} (hF : Fx S) : KD S 9 20 5 := ⟨by decide, by have := hF.1; omega, hF.2 (9, -1, 20) (List.mem_of_getElem? (i := 45) (by decide +kernel)), hF.2 (9, -2, 5) (List.mem_of_getElem? (i := 46) (by decide +kernel))⟩
theorem K_10 {S : SS} (hF : Fx S) : KD S 10 20 5 := ⟨by decide, by have := hF.1; omega, hF.2 (10, -1, 20) (List.mem_of_getElem? (i := 47) (by decide +kernel)), hF.2 (10, -2, 5) (List.mem_of_getElem? (i := 48) (by decide +kernel))⟩
theorem K_11 {S : SS} (hF : Fx S) : KD S 11 23 6 := ⟨by decide, by have := hF.1; omega, hF.2 (11, -1, 23) (List.mem_of_getElem? (i := 49) (by decide +kernel)), hF.2 (11, -2, 6) (List.mem_of_getElem? (i := 50) (by decide +kernel))⟩
theorem K_12 {S : SS} (hF : Fx S) : KD S 12 20 4 := ⟨by decide, by have := hF.1; omega, hF.2 (12, -1, 20) (List.mem_of_getElem? (i := 57) (by decide +kernel)), hF.2 (12, -2, 4) (List.mem_of_getElem? (i := 58) (by decide +kernel))⟩
theorem K_13 {S : SS} (hF : Fx S) : KD S 13 20 4 := ⟨by decide, by have := hF.1; omega, hF.2 (13, -1, 20) (List.mem_of_getElem? (i := 59) (by decide +kernel)), hF.2 (13, -2, 4) (List.mem_of_getElem? (i := 60) (by decide +kernel))⟩
theorem K_14 {S : SS} (hF : Fx S) : KD S 14 20 4 := ⟨by decide, by have := hF.1; omega, hF.2 (14, -1, 20) (List.mem_of_getElem? (i := 61) (by decide +kernel)), hF.2 (14, -2, 4) (List.mem_of_getElem? (i := 62) (by decide +kernel))⟩
theorem K_15 {S : SS} (hF : Fx S) : KD S 15 20 4 := ⟨by decide, by have := hF.1; omega, hF.2 (15, -1, 20) (List.mem_of_getElem? (i := 63) (by decide +kernel)), hF.2 (15, -2, 4) (List.mem_of_getElem? (i := 64) (by decide +kernel))⟩
theorem K_16 {S : SS} (hF : Fx S) : KD S 16 20 4 := ⟨by decide, by have := hF.1; omega, hF.2 (16, -1, 20) (List.mem_of_getElem? (i := 65) (by decide +kernel)), hF.2 (16, -2, 4) (List.mem_of_getElem? (i := 66) (by decide +kernel))⟩
theorem K_17 {S : SS} (hF : Fx S) : KD S 17 20 4 := ⟨by decide, by have := hF.1; omega, hF.2 (17, -1, 20) (List.mem_of_getElem? (i := 67) (by decide +kernel)), hF.2 (17, -2, 4) (List.mem_of_getElem? (i := 68) (by decide +kernel))⟩
theorem K_18 {S : SS} (hF : Fx S) : KD S 18 20 5 := ⟨by decide, by have := hF.1; omega, hF.2 (18, -1, 20) (List.mem_of_getElem? (i := 69) (by decide +kernel)), hF.2 (18, -2, 5) (List.mem_of_getElem? (i := 70) (by decide +kernel))⟩
theorem K_19 {S : SS} (hF : Fx S) : KD S 19 20 5 := ⟨by decide, by have := hF.1; omega, hF.2 (19, -1, 20) (List.mem_of_getElem? (i := 71) (by decide +kernel)), hF.2 (19, -2, 5) (List.mem_of_getElem? (i := 72) (by decide +kernel))⟩
theorem K_20 {S : SS} (hF : Fx S) : KD S 20 7 0 := ⟨by decide, by have := hF.1; omega, hF.2 (20, -1, 7) (List.mem_of_getElem? (i := 73) (by decide +kernel)), hF.2 (20, -2, 0) (List.mem_of_getElem? (i := 74) (by decide +kernel))⟩
theorem K_21 {S : SS} (hF : Fx S) : KD S 21 23 5 := ⟨by decide, by have := hF.1; omega, hF.2 (21, -1, 23) (List.mem_of_getElem? (i := 76) (by decide +kernel)), hF.2 (21, -2, 5) (List.mem_of_getElem? (i := 77) (by decide +kernel))⟩
theorem K_22 {S : SS} (hF : Fx S) : KD S 22 20 4 := ⟨by decide, by have := hF.1; omega, hF.2 (22, -1, 20) (List.mem_of_getElem? (i := 83) (by decide +kernel)), hF.2 (22, -2, 4) (List.mem_of_getElem? (i := 84) (by decide +kernel))⟩
theorem K_23 {S : SS} (hF : Fx S) : KD S 23 20 4 := ⟨by decide, by have := hF.1; omega, hF.2 (23, -1, 20) (List.mem_of_getElem? (i := 85) (by decide +kernel)), hF.2 (23, -2, 4) (List.mem_of_getElem? (i := 86) (by decide +kernel))⟩
theorem K_24 {S : SS} (hF : Fx S) : KD S 24 20 4 := ⟨by decide, by have := hF.1; omega, hF.2 (24, -1, 20) (List.mem_of_getElem? (i := 87) (by decide +kernel)), hF.2 (24, -2, 4) (List.mem_of_getElem? (i := 88) (by decide +kernel))⟩
theorem K_25 {S : SS} (hF : Fx S) : KD S 25 20 4 := ⟨by decide, by have := hF.1; omega, hF.2 (25, -1, 20) (List.mem_of_getElem? (i := 89) (by decide +kernel)), hF.2 (25, -2, 4) (List.mem_of_getElem? (i := 90) (by decide +kernel))⟩
theorem K_26 {S : SS} (hF : Fx S) : KD S 26 20 4 := ⟨by decide, by have := hF.1; omega, hF.2 (26, -1, 20) (List.mem_of_getElem? (i := 91) (by decide +kernel)), hF.2 (26, -2, 4) (List.mem_of_getElem? (i := 92) (by decide +kernel))⟩
theorem K_27 {S : SS} (hF : Fx S) : KD S 27 7 0 := ⟨by decide, by have := hF.1; omega, hF.2 (27, -1, 7) (List.mem_of_getElem? (i := 93) (by decide +kernel)), hF.2 (27, -2, 0) (List.mem_of_getElem? (i := 94) (by decide +kernel))⟩
theorem K_28 {S : SS} (hF : Fx S) : KD S 28 23 10 := ⟨by decide, by have := hF.1; omega, hF.2 (28, -1, 23) (List.mem_of_getElem? (i := 96) (by decide +kernel)), hF.2 (28, -2, 10) (List.mem_of_getElem? (i := 97) (by decide +kernel))⟩
theorem K_29 {S : SS} (hF : Fx S) : KD S 29 20 4 := ⟨by decide, by have := hF.1; omega, hF.2 (29, -1, 20) (List.mem_of_getElem? (i := 108) (by decide +kernel)), hF.2 (29, -2, 4) (List.mem_of_getElem? (i := 109) (by decide +kernel))⟩
theorem K_30 {S : SS} (hF : Fx S) : KD S 30 20 4 := ⟨by decide, by have := hF.1; omega, hF.2 (30, -1, 20) (List.mem_of_getElem? (i := 110) (by decide +kernel)), hF.2 (30, -2, 4) (List.mem_of_getElem? (i := 111) (by decide +kernel))⟩
theorem K_31 {S : SS} (hF : Fx S) : KD S 31 20 4 := ⟨by decide, by have := hF.1; omega, hF.2 (31, -1, 20) (List.mem_of_getElem? (i := 112) (by decide +kernel)), hF.2 (31, -2, 4) (List.mem_of_getElem? (i := 113) (by decide +kernel))⟩
theorem K_32 {S : SS} (hF : Fx S) : KD S 32 20 4 := ⟨by decide, by have := hF.1; omega, hF.2 (32, -1, 20) (List.mem_of_getElem? (i := 114) (by decide +kernel)), hF.2 (32, -2, 4) (List.mem_of_getElem? (i := 115) (by decide +kernel))⟩
theorem K_33 {S : SS} (hF : Fx S) : KD S 33 20 4 := ⟨by decide, by have := hF.1; omega, hF.2 (33, -1, 20) (List.mem_of_getElem? (i := 116) (by decide +kernel)), hF.2 (33, -2, 4) (List.mem_of_getElem? (i := 117) (by decide +kernel))⟩
theorem K_34 {S : SS} (hF : Fx S) : KD S 34 20 4 := ⟨by decide, by have := hF.1; omega, hF.2 (34, -1, 20) (List.mem_of_getElem? (i := 118) (by decide +kernel)), hF.2 (34, -2, 4) (List.mem_of_getElem? (i := 119) (by decide +kernel))⟩
theorem K_35 {S : SS} (hF : Fx S) : KD S 35 20 4 := ⟨by decide, by have := hF.1; omega, hF.2 (35, -1, 20) (List.mem_of_getElem? (i := 120) (by decide +kernel)), hF.2 (35, -2, 4) (List.mem_of_getElem? (i := 121) (by decide +kernel))⟩
theorem K_36 {S : SS} (hF : Fx S) : KD S 36 20 4 := ⟨by decide, by have := hF.1; omega, hF.2 (36, -1, 20) (List.mem_of_getElem? (i := 122) (by decide +kernel)), hF.2 (36, -2, 4) (List.mem_of_getElem? (i := 123) (by decide +kernel))⟩
theorem K_37 {S : SS} (hF : Fx S) : KD S 37 20 4 := ⟨by decide, by have := hF.1; omega, hF.2 (37, -1, 20) (List.mem_of_getElem? (i := 124) (by decide +kernel)), hF.2 (37, -2, 4) (List.mem_of_getElem? (i := 125) (by decide +kernel))⟩
theorem K_38 {S : SS} (hF : Fx S) : KD S 38 20 4 := ⟨by decide, by have := hF.1; omega, hF.2 (38, -1, 20) (List.mem_of_getElem? (i := 126) (by decide +kernel)), hF.2 (38, -2, 4) (List.mem_of_getElem? (i := 127) (by decide +kernel))⟩
theorem K_39 {S : SS} (hF : Fx S) : KD S 39 7 0 := ⟨by decide, by have := hF.1; omega, hF.2 (39, -1, 7) (List.mem_of_getElem? (i := 128) (by decide +kernel)), hF.2 (39, -2, 0) (List.mem_of_getElem? (i := 129) (by decide +kernel))⟩
theorem K_40 {S : SS} (hF : Fx S) : KD S 40 23 8 := ⟨by decide, by have := hF.1; omega, hF.2 (40, -1, 23) (List.mem_of_getElem? (i := 131) (by decide +kernel)), hF.2 (40, -2, 8) (List.mem_of_getElem? (i := 132) (by decide +kernel))⟩
theorem K_41 {S : SS} (hF : Fx S) : KD S 41 20 4 := ⟨by decide, by have := hF.1; omega, hF.2 (41, -1, 20) (List.mem_of_getElem? (i := 141) (by decide +kernel)), hF.2 (41, -2, 4) (List.mem_of_getElem? (i := 142) (by decide +kernel))⟩
theorem K_42 {S : SS} (hF : Fx S) : KD S 42 20 4 := ⟨by decide, by have := hF.1; omega, hF.2 (42, -1, 20) (List.mem_of_getElem? (i := 143) (by decide +kernel)), hF.2 (42, -2, 4) (List.mem_of_getElem? (i := 144) (by decide +kernel))⟩
theorem K_43 {S : SS} (hF : Fx S) : KD S 43 20 4 := ⟨by decide, by have := hF.1; omega, hF.2 (43, -1, 20) (List.mem_of_getElem? (i := 145) (by decide +kernel)), hF.2 (43, -2, 4) (List.mem_of_getElem? (i := 146) (by decide +kernel))⟩
theorem K_44 {S : SS} (hF : Fx S) : KD S 44 20 4 := ⟨by decide, by have := hF.1; omega, hF.2 (44, -1, 20) (List.mem_of_getElem? (i := 147) (by decide +kernel)), hF.2 (44, -2, 4) (List.mem_of_getElem? (i := 148) (by decide +kernel))⟩
theorem K_45 {S : SS} (hF : Fx S) : KD S 45 20 4 := ⟨by decide, by have := hF.1; omega, hF.2 (45, -1, 20) (List.mem_of_getElem? (i := 149) (by decide +kernel)), hF.2 (45, -2, 4) (List.mem_of_getElem? (i := 150) (by decide +kernel))⟩
theorem K_46 {S : SS} (hF : Fx S) : KD S 46 20 4 := ⟨by decide, by have := hF.1; omega, hF.2 (46, -1, 20) (List.mem_of_getElem? (i := 151) (by decide +kernel)), hF.2 (46, -2, 4) (List.mem_of_getElem? (i := 152) (by decide +kernel))⟩
theorem K_47 {S : SS} (hF : Fx S) : KD S 47 20 4 := ⟨by decide, by have := hF.1; omega, hF.2 (47, -1, 20) (List.mem_of_getElem? (i := 153) (by decide +kernel)), hF.2 (47, -2, 4) (List.mem_of_getElem? (i := 154) (by decide +kernel))⟩
theorem K_48 {S : SS} (hF : Fx S) : KD S 48 20 4 := ⟨by decide, by have := hF.1; omega, hF.2 (48, -1, 20) (List.mem_of_getElem? (i := 155) (by decide +kernel)), hF.2 (48, -2, 4) (List.mem_of_getElem? (i := 156) (by decide +kernel))⟩
theorem K_49 {S : SS} (hF : Fx S) : KD S 49 20 6 := ⟨by decide, by have := hF.1; omega, hF.2 (49, -1, 20) (List.mem_of_getElem? (i := 157) (by decide +kernel)), hF.2 (49, -2, 6) (List.mem_of_getElem? (i := 158) (by decide +kernel))⟩
theorem K_50 {S : SS} (hF : Fx S) : KD S 50 10 0 := ⟨by decide, by have := hF.1; omega, hF.2 (50, -1, 10) (List.mem_of_getElem? (i := 159) (by decide +kernel)), hF.2 (50, -2, 0) (List.mem_of_getElem? (i := 160) (by decide +kernel))⟩
theorem K_51 {S : SS} (hF : Fx S) : KD S 51 25 6 := ⟨by decide, by have := hF.1; omega, hF.2 (51, -1, 25) (List.mem_of_getElem? (i := 171) (by decide +kernel)), hF.2 (51, -2, 6) (List.mem_of_getElem? (i := 172) (by decide +kernel))⟩
theorem K_52 {S : SS} (hF : Fx S) : KD S 52 22 6 := ⟨by decide, by have := hF.1; omega, hF.2 (52, -1, 22) (List.mem_of_getElem? (i := 173) (by decide +kernel)), hF.2 (52, -2, 6) (List.mem_of_getElem? (i := 174) (by decide +kernel))⟩
theorem K_53 {S : SS} (hF : Fx S) : KD S 53 23 6 := ⟨by decide, by have := hF.1; omega, hF.2 (53, -1, 23) (List.mem_of_getElem? (i := 175) (by decide +kernel)), hF.2 (53, -2, 6) (List.mem_of_getElem? (i := 176) (by decide +kernel))⟩
theorem K_54 {S : SS} (hF : Fx S) : KD S 54 20 5 := ⟨by decide, by have := hF.1; omega, hF.2 (54, -1, 20) (List.mem_of_getElem? (i := 183) (by decide +kernel)), hF.2 (54, -2, 5) (List.mem_of_getElem? (i := 184) (by decide +kernel))⟩
theorem K_55 {S : SS} (hF : Fx S) : KD S 55 20 5 := ⟨by decide, by have := hF.1; omega, hF.2 (55, -1, 20) (List.mem_of_getElem? (i := 185) (by decide +kernel)), hF.2 (55, -2, 5) (List.mem_of_getElem? (i := 186) (by decide +kernel))⟩
theorem K_56 {S : SS} (hF : Fx S) : KD S 56 20 5 := ⟨by decide, by have := hF.1; omega, hF.2 (56, -1, 20) (List.mem_of_getElem? (i := 187) (by decide +kernel)), hF.2 (56, -2, 5) (List.mem_of_getElem? (i := 188) (by decide +kernel))⟩
theorem K_57 {S : SS} (hF : Fx S) : KD S 57 20 5 := ⟨by decide, by have := hF.1; omega, hF.2 (57, -1, 20) (List.mem_of_getElem? (i := 189) (by decide +kernel)), hF.2 (57, -2, 5) (List.mem_of_getElem? (i := 190) (by decide +kernel))⟩
theorem K_58 {S : SS} (hF : Fx S) : KD S 58 20 5 := ⟨by decide, by have := hF.1; omega, hF.2 (58, -1, 20) (List.mem_of_getElem? (i := 191) (by decide +kernel)), hF.2 (58, -2, 5) (List.mem_of_getElem? (i := 192) (by decide +kernel))⟩
theorem K_59 {S : SS} (hF : Fx S) : KD S 59 20 5 := ⟨by decide, by have := hF.1; omega, hF.2 (59, -1, 20) (List.mem_of_getElem? (i := 193) (by decide +kernel)), hF.2 (59, -2, 5) (List.mem_of_getElem? (i := 194) (by decide +kernel))⟩
theorem K_60 {S : SS} (hF : Fx S) : KD S 60 23 6 := ⟨by decide, by have := hF.1; omega, hF.2 (60, -1, 23) (List.mem_of_getElem? (i := 195) (by decide +kernel)), hF.2 (60, -2, 6) (List.mem_of_getElem? (i := 196) (by decide +kernel))⟩
theorem K_61 {S : SS} (hF : Fx S) : KD S 61 20 4 := ⟨by decide, by have := hF.1; omega, hF.2 (61, -1, 20) (List.mem_of_getElem? (i := 203) (by decide +kernel)), hF.2 (61, -2, 4) (List.mem_of_getElem? (i := 204) (by decide +kernel))⟩
theorem K_62 {S : SS} (hF : Fx S) : KD S 62 20 4 := ⟨by decide, by have := hF.1; omega, hF.2 (62, -1, 20) (List.mem_of_getElem? (i := 205) (by decide +kernel)), hF.2 (62, -2, 4) (List.mem_of_getElem? (i := 206) (by decide +kernel))⟩
theorem K_63 {S : SS} (hF : Fx S) : KD S 63 20 4 := ⟨by decide, by have := hF.1; omega, hF.2 (63, -1, 20) (List.mem_of_getElem? (i := 207) (by decide +kernel)), hF.2 (63, -2, 4) (List.mem_of_getElem? (i := 208) (by decide +kernel))⟩
theorem K_64 {S : SS} (hF : Fx S) : KD S 64 20 4 := ⟨by decide, by have := hF.1; omega, hF.2 (64, -1, 20) (List.mem_of_getElem? (i := 209) (by decide +kernel)), hF.2 (64, -2, 4) (List.mem_of_getElem? (i := 210) (by decide +kernel))⟩
theorem K_65 {S : SS} (hF : Fx S) : KD S 65 20 4 := ⟨by decide, by have := hF.1; omega, hF.2 (65, -1, 20) (List.mem_of_getElem? (i := 211) (by decide +kernel)), hF.2 (65, -2, 4) (List.mem_of_getElem? (i := 212) (by decide +kernel))⟩
theorem K_66 {S : SS} (hF : Fx S) : KD S 66 20 4 := ⟨by decide, by have := hF.1; omega, hF.2 (66, -1, 20) (List.mem_of_getElem? (i := 213) (by decide +kernel)), hF.2 (66, -2, 4) (List.mem_of_getElem? (i := 214) (by decide +kernel))⟩
theorem K_67 {S : SS} (hF : Fx S) : KD S 67 20 5 := ⟨by decide, by have := hF.1; omega, hF.2 (67, -1, 20) (List.mem_of_getElem? (i := 215) (by decide +kernel)), hF.2 (67, -2, 5) (List.mem_of_getElem? (i := 216) (by decide +kernel))⟩
theorem K_68 {S : SS} (hF : Fx S) : KD S 68 20 5 := ⟨by decide, by have := hF.1; omega, hF.2 (68, -1, 20) (List.mem_of_getElem? (i := 217) (by decide +kernel)), hF.2 (68, -2, 5) (List.mem_of_getElem? (i := 218) (by decide +kernel))⟩
theorem K_69 {S : SS} (hF : Fx S) : KD S 69 7 0 := ⟨by decide, by have := hF.1; omega, hF.2 (69, -1, 7) (List.mem_of_getElem? (i := 219) (by decide +kernel)), hF.2 (69, -2, 0) (List.mem_of_getElem? (i := 220) (by decide +kernel))⟩
theorem K_70 {S : SS} (hF : Fx S) : KD S 70 23 5 := ⟨by decide, by have := hF.1; omega, hF.2 (70, -1, 23) (List.mem_of_getElem? (i := 222) (by decide +kernel)), hF.2 (70, -2, 5) (List.mem_of_getElem? (i := 223) (by decide +kernel))⟩
theorem K_71 {S : SS} (hF : Fx S) : KD S 71 20 4 := ⟨by decide, by have := hF.1; omega, hF.2 (71, -1, 20) (List.mem_of_getElem? (i := 229) (by decide +kernel)), hF.2 (71, -2, 4) (List.mem_of_getElem? (i := 230) (by decide +kernel))⟩
theorem K_72 {S : SS} (hF : Fx S) : KD S 72 20 4 := ⟨by decide, by have := hF.1; omega, hF.2 (72, -1, 20) (List.mem_of_getElem? (i := 231) (by decide +kernel)), hF.2 (72, -2, 4) (List.mem_of_getElem? (i := 232) (by decide +kernel))⟩
theorem K_73 {S : SS} (hF : Fx S) : KD S 73 20 4 := ⟨by decide, by have := hF.1; omega, hF.2 (73, -1, 20) (List.mem_of_getElem? (i := 233) (by decide +kernel)), hF.2 (73, -2, 4) (List.mem_of_getElem? (i := 234) (by decide +kernel))⟩
theorem K_74 {S : SS} (hF : Fx S) : KD S 74 20 4 := ⟨by decide, by have := hF.1; omega, hF.2 (74, -1, 20) (List.mem_of_getElem? (i := 235) (by decide +kernel)), hF.2 (74, -2, 4) (List.mem_of_getElem? (i := 236) (by decide +kernel))⟩
theorem K_75 {S : SS} (hF : Fx S) : KD S 75 20 4 := ⟨by decide, by have := hF.1; omega, hF.2 (75, -1, 20) (List.mem_of_getElem? (i := 237) (by decide +kernel)), hF.2 (75, -2, 4) (List.mem_of_getElem? (i := 238) (by decide +kernel))⟩
theorem K_76 {S : SS} (hF : Fx S) : KD S 76 7 0 := ⟨by decide, by have := hF.1; omega, hF.2 (76, -1, 7) (List.mem_of_getElem? (i := 239) (by decide +kernel)), hF.2 (76, -2, 0) (List.mem_of_getElem? (i := 240) (by decide +kernel))⟩
theorem K_77 {S : SS} (hF : Fx S) : KD S 77 23 10 := ⟨by decide, by have := hF.1; omega, hF.2 (77, -1, 23) (List.mem_of_getElem? (i := 242) (by decide +kernel)), hF.2 (77, -2, 10) (List.mem_of_getElem? (i := 243) (by decide +kernel))⟩
theorem K_78 {S : SS} (hF : Fx S) : KD S 78 20 4 := ⟨by decide, by have := hF.1; omega, hF.2 (78, -1, 20) (List.mem_of_getElem? (i := 254) (by decide +kernel)), hF.2 (78, -2, 4) (List.mem_of_getElem? (i := 255) (by decide +kernel))⟩
theorem K_79 {S : SS} (hF : Fx S) : KD S 79 20 4 := ⟨by decide, by have := hF.1; omega, hF.2 (79, -1, 20) (List.mem_of_getElem? (i := 256) (by decide +kernel)), hF.2 (79, -2, 4) (List.mem_of_getElem? (i := 257) (by decide +kernel))⟩
theorem K_80 {S : SS} (hF : Fx S) : KD S 80 20 4 := ⟨by decide, by have := hF.1; omega, hF.2 (80, -1, 20) (List.mem_of_getElem? (i := 258) (by decide +kernel)), hF.2 (80, -2, 4) (List.mem_of_getElem? (i := 259) (by decide +kernel))⟩
theorem K_81 {S : SS} (hF : Fx S) : KD S 81 20 4 := ⟨by decide, by have := hF.1; omega, hF.2 (81, -1, 20) (List.mem_of_getElem? (i := 260) (by decide +kernel)), hF.2 (81, -2, 4) (List.mem_of_getElem? (i := 261) (by decide +kernel))⟩
theorem K_82 {S : SS} (hF : Fx S) : KD S 82 20 4 := ⟨by decide, by have := hF.1; omega, hF.2 (82, -1, 20) (List.mem_of_getElem? (i := 262) (by decide +kernel)), hF.2 (82, -2, 4) (List.mem_of_getElem? (i := 263) (by decide +kernel))⟩
theorem K_83 {S : SS} (hF : Fx S) : KD S 83 20 4 := ⟨by decide, by have := hF.1; omega, hF.2 (83, -1, 20) (List.mem_of_getElem? (i := 264) (by decide +kernel)), hF.2 (83, -2, 4) (List.mem_of_getElem? (i := 265) (by decide +kernel))⟩
theorem K_84 {S : SS} (hF : Fx S) : KD S 84 20 4 := ⟨by decide, by have := hF.1; omega, hF.2 (84, -1, 20) (List.mem_of_getElem? (i := 266) (by decide +kernel)), hF.2 (84, -2, 4) (List.mem_of_getElem? (i := 267) (by decide +kernel))⟩
theorem K_85 {S : SS} (hF : Fx S) : KD S 85 20 4 := ⟨by decide, by have := hF.1; omega, hF.2 (85, -1, 20) (List.mem_of_getElem? (i := 268) (by decide +kernel)), hF.2 (85, -2, 4) (List.mem_of_getElem? (i := 269) (by decide +kernel))⟩
theorem K_86 {S : SS} (hF : Fx S) : KD S 86 20 4 := ⟨by decide, by have := hF.1; omega, hF.2 (86, -1, 20) (List.mem_of_getElem? (i := 270) (by decide +kernel)), hF.2 (86, -2, 4) (List.mem_of_getElem? (i := 271) (by decide +kernel))⟩
theorem K_87 {S : SS} (hF : Fx S) : KD S 87 20 4 := ⟨by decide, by have := hF.1; omega, hF.2 (87, -1, 20) (List.mem_of_getElem? (i := 272) (by decide +kernel)), hF.2 (87, -2, 4) (List.mem_of_getElem? (i := 273) (by decide +kernel))⟩
theorem K_88 {S : SS} (hF : Fx S) : KD S 88 7 0 := ⟨by decide, by have := hF.1; omega, hF.2 (88, -1, 7) (List.mem_of_getElem? (i := 274) (by decide +kernel)), hF.2 (88, -2, 0) (List.mem_of_getElem? (i := 275) (by decide +kernel))⟩
theorem K_89 {S : SS} (hF : Fx S) : KD S 89 23 8 := ⟨by decide, by have := hF.1; omega, hF.2 (89, -1, 23) (List.mem_of_getElem? (i := 277) (by decide +kernel)), hF.2 (89, -2, 8) (List.mem_of_getElem? (i := 278) (by decide +kernel))⟩
theorem K_90 {S : SS} (hF : Fx S) : KD S 90 20 4 := ⟨by decide, by have := hF.1; omega, hF.2 (90, -1, 20) (List.mem_of_getElem? (i := 287) (by decide +kernel)), hF.2 (90, -2, 4) (List.mem_of_getElem? (i := 288) (by decide +kernel))⟩
theorem K_91 {S : SS} (hF : Fx S) : KD S 91 20 4 := ⟨by decide, by have := hF.1; omega, hF.2 (91, -1, 20) (List.mem_of_getElem? (i := 289) (by decide +kernel)), hF.2 (91, -2, 4) (List.mem_of_getElem? (i := 290) (by decide +kernel))⟩
theorem K_92 {S : SS} (hF : Fx S) : KD S 92 20 4 := ⟨by decide, by have := hF.1; omega, hF.2 (92, -1, 20) (List.mem_of_getElem? (i := 291) (by decide +kernel)), hF.2 (92, -2, 4) (List.mem_of_getElem? (i := 292) (by decide +kernel))⟩
theorem K_93 {S : SS} (hF : Fx S) : KD S 93 20 4 := ⟨by decide, by have := hF.1; omega, hF.2 (93, -1, 20) (List.mem_of_getElem? (i := 293) (by decide +kernel)), hF.2 (93, -2, 4) (List.mem_of_getElem? (i := 294) (by decide +kernel))⟩
theorem K_94 {S : SS} (hF : Fx S) : KD S 94 20 4 := ⟨by decide, by have := hF.1; omega, hF.2 (94, -1, 20) (List.mem_of_getElem? (i := 295) (by decide +kernel)), hF.2 (94, -2, 4) (List.mem_of_getElem? (i := 296) (by decide +kernel))⟩
theorem K_95 {S : SS} (hF : Fx S) : KD S 95 20 4 := ⟨by decide, by have := hF.1; omega, hF.2 (95, -1, 20) (List.mem_of_getElem? (i := 297) (by decide +kernel)), hF.2 (95, -2, 4) (List.mem_of_getElem? (i := 298) (by decide +kernel))⟩
theorem K_96 {S : SS} (hF : Fx S) : KD S 96 20 4 := ⟨by decide, by have := hF.1; omega, hF.2 (96, -1, 20) (List.mem_of_getElem? (i := 299) (by decide +kernel)), hF.2 (96, -2, 4) (List.mem_of_getElem? (i := 300) (by decide +kernel))⟩
theorem K_97 {S : SS} (hF : Fx S) : KD S 97 20 4 := ⟨by decide, by have := hF.1; omega, hF.2 (97, -1, 20) (List.mem_of_getElem? (i := 301) (by decide +kernel)), hF.2 (97, -2, 4) (List.mem_of_getElem? (i := 302) (by decide +kernel))⟩
theorem K_98 {S : SS} (hF : Fx S) : KD S 98 20 6 := ⟨by decide, by have := hF.1; omega, hF.2 (98, -1, 20) (List.mem_of_getElem? (i := 303) (by decide +kernel)), hF.2 (98, -2, 6) (List.mem_of_getElem? (i := 304) (by decide +kernel))⟩
theorem K_99 {S : SS} (hF : Fx S) : KD S 99 10 0 := ⟨by decide, by have := hF.1; omega, hF.2 (99, -1, 10) (List.mem_of_getElem? (i := 305) (by decide +kernel)), hF.2 (99, -2, 0) (List.mem_of_getElem? (i := 306) (by decide +kernel))⟩
theorem K_100 {S : SS} (hF : Fx S) : KD S 100 25 6 := ⟨by decide, by have := hF.1; omega, hF.2 (100, -1, 25) (List.mem_of_getElem? (i := 317) (by decide +kernel)), hF.2 (100, -2, 6) (List.mem_of_getElem? (i := 318) (by decide +kernel))⟩
theorem K_101 {S : SS} (hF : Fx S) : KD S 101 22 6 := ⟨by decide, by have := hF.1; omega, hF.2 (101, -1, 22) (List.mem_of_getElem? (i := 319) (by decide +kernel)), hF.2 (101, -2, 6) (List.mem_of_getElem? (i := 320) (by decide +kernel))⟩
theorem K_102 {S : SS} (hF : Fx S) : KD S 102 23 6 := ⟨by decide, by have := hF.1; omega, hF.2 (102, -1, 23) (List.mem_of_getElem? (i := 321) (by decide +kernel)), hF.2 (102, -2, 6) (List.mem_of_getElem? (i := 322) (by decide +kernel))⟩
theorem K_103 {S : SS} (hF : Fx S) : KD S 103 20 5 := ⟨by decide, by have := hF.1; omega, hF.2 (103, -1, 20) (List.mem_of_getElem? (i := 329) (by decide +kernel)), hF.2 (103, -2, 5) (List.mem_of_getElem? (i := 330) (by decide +kernel))⟩
theorem K_104 {S : SS} (hF : Fx S) : KD S 104 20 5 := ⟨by decide, by have := hF.1; omega, hF.2 (104, -1, 20) (List.mem_of_getElem? (i := 331) (by decide +kernel)), hF.2 (104, -2, 5) (List.mem_of_getElem? (i := 332) (by decide +kernel))⟩
theorem K_105 {S : SS} (hF : Fx S) : KD S 105 20 5 := ⟨by decide, by have := hF.1; omega, hF.2 (105, -1, 20) (List.mem_of_getElem? (i := 333) (by decide +kernel)), hF.2 (105, -2, 5) (List.mem_of_getElem? (i := 334) (by decide +kernel))⟩
theorem K_106 {S : SS} (hF : Fx S) : KD S 106 20 5 := ⟨by decide, by have := hF.1; omega, hF.2 (106, -1, 20) (List.mem_of_getElem? (i := 335) (by decide +kernel)), hF.2 (106, -2, 5) (List.mem_of_getElem? (i := 336) (by decide +kernel))⟩
theorem K_107 {S : SS} (hF : Fx S) : KD S 107 20 5 := ⟨by decide, by have := hF.1; omega, hF.2 (107, -1, 20) (List.mem_of_getElem? (i := 337) (by decide +kernel)), hF.2 (107, -2, 5) (List.mem_of_getElem? (i := 338) (by decide +kernel))⟩
theorem K_108 {S : SS} (hF : Fx S) : KD S 108 20 5 := ⟨by decide, by have := hF.1; omega, hF.2 (108, -1, 20) (List.mem_of_getElem? (i := 339) (by decide +kernel)), hF.2 (108, -2, 5) (List.mem_of_getElem? (i := 340) (by decide +kernel))⟩
theorem K_109 {S : SS} (hF : Fx S) : KD S 109 23 6 := ⟨by decide, by have := hF.1; omega, hF.2 (109, -1, 23) (List.mem_of_getElem? (i := 341) (by decide +kernel)), hF.2 (109, -2, 6) (List.mem_of_getElem? (i := 342) (by decide +kernel))⟩
theorem K_110 {S : SS} (hF : Fx S) : KD S 110 20 4 := ⟨by decide, by have := hF.1; omega, hF.2 (110, -1, 20) (List.mem_of_getElem? (i := 349) (by decide +kernel)), hF.2 (110, -2, 4) (List.mem_of_getElem? (i := 350) (by decide +kernel))⟩
theorem K_111 {S : SS} (hF : Fx S) : KD S 111 20 4 := ⟨by decide, by have := hF.1; omega, hF.2 (111, -1, 20) (List.mem_of_getElem? (i := 351) (by decide +kernel)), hF.2 (111, -2, 4) (List.mem_of_getElem? (i := 352) (by decide +kernel))⟩
theorem K_112 {S : SS} (hF : Fx S) : KD S 112 20 4 := ⟨by decide, by have := hF.1; omega, hF.2 (112, -1, 20) (List.mem_of_getElem? (i := 353) (by decide +kernel)), hF.2 (112, -2, 4) (List.mem_of_getElem? (i := 354) (by decide +kernel))⟩
theorem K_113 {S : SS} (hF : Fx S) : KD S 113 20 4 := ⟨by decide, by have := hF.1; omega, hF.2 (113, -1, 20) (List.mem_of_getElem? (i := 355) (by decide +kernel)), hF.2 (113, -2, 4) (List.mem_of_getElem? (i := 356) (by decide +kernel))⟩
theorem K_114 {S : SS} (hF : Fx S) : KD S 114 20 4 := ⟨by decide, by have := hF.1; omega, hF.2 (114, -1, 20) (List.mem_of_getElem? (i := 357) (by decide +kernel)), hF.2 (114, -2, 4) (List.mem_of_getElem? (i := 358) (by decide +kernel))⟩
theorem K_115 {S : SS} (hF : Fx S) : KD S 115 20 4 := ⟨by decide, by have := hF.1; omega, hF.2 (115, -1, 20) (List.mem_of_getElem? (i := 359) (by decide +kernel)), hF.2 (115, -2, 4) (List.mem_of_getElem? (i := 360) (by decide +kernel))⟩
theorem K_116 {S : SS} (hF : Fx S) : KD S 116 20 5 := ⟨by decide, by have := hF.1; omega, hF.2 (116, -1, 20) (List.mem_of_getElem? (i := 361) (by decide +kernel)), hF.2 (116, -2, 5) (List.mem_of_getElem? (i := 362) (by decide +kernel))⟩
theorem K_117 {S : SS} (hF : Fx S) : KD S 117 20 5 := ⟨by decide, by have := hF.1; omega, hF.2 (117, -1, 20) (List.mem_of_getElem? (i := 363) (by decide +kernel)), hF.2 (117, -2, 5) (List.mem_of_getElem? (i := 364) (by decide +kernel))⟩
theorem K_118 {S : SS} (hF : Fx S) : KD S 118 7 0 := ⟨by decide, by have := hF.1; omega, hF.2 (118, -1, 7) (List.mem_of_getElem? (i := 365) (by decide +kernel)), hF.2 (118, -2, 0) (List.mem_of_getElem? (i := 366) (by decide +kernel))⟩
theorem K_119 {S : SS} (hF : Fx S) : KD S 119 23 5 := ⟨by decide, by have := hF.1; omega, hF.2 (119, -1, 23) (List.mem_of_getElem? (i := 368) (by decide +kernel)), hF.2 (119, -2, 5) (List.mem_of_getElem? (i := 369) (by decide +kernel))⟩
theorem K_120 {S : SS} (hF : Fx S) : KD S 120 20 4 := ⟨by decide, by have := hF.1; omega, hF.2 (120, -1, 20) (List.mem_of_getElem? (i := 375) (by decide +kernel)), hF.2 (120, -2, 4) (List.mem_of_getElem? (i := 376) (by decide +kernel))⟩
theorem K_121 {S : SS} (hF : Fx S) : KD S 121 20 4 := ⟨by decide, by have := hF.1; omega, hF.2 (121, -1, 20) (List.mem_of_getElem? (i := 377) (by decide +kernel)), hF.2 (121, -2, 4) (List.mem_of_getElem? (i := 378) (by decide +kernel))⟩
theorem K_122 {S : SS} (hF : Fx S) : KD S 122 20 4 := ⟨by decide, by have := hF.1; omega, hF.2 (122, -1, 20) (List.mem_of_getElem? (i := 379) (by decide +kernel)), hF.2 (122, -2, 4) (List.mem_of_getElem? (i := 380) (by decide +kernel))⟩
theorem K_123 {S : SS} (hF : Fx S) : KD S 123 20 4 := ⟨by decide, by have := hF.1; omega, hF.2 (123, -1, 20) (List.mem_of_getElem? (i := 381) (by decide +kernel)), hF.2 (123, -2, 4) (List.mem_of_getElem? (i := 382) (by decide +kernel))⟩
theorem K_124 {S : SS} (hF : Fx S) : KD S 124 20 4 := ⟨by decide, by have := hF.1; omega, hF.2 (124, -1, 20) (List.mem_of_getElem? (i := 383) (by decide +kernel)), hF.2 (124, -2, 4) (List.mem_of_getElem? (i := 384) (by decide +kernel))⟩
theorem K_125 {S : SS} (hF : Fx S) : KD S 125 7 0 := ⟨by decide, by have := hF.1; omega, hF.2 (125, -1, 7) (List.mem_of_getElem? (i := 385) (by decide +kernel)), hF.2 (125, -2, 0) (List.mem_of_getElem? (i := 386) (by decide +kernel))⟩
theorem K_126 {S : SS} (hF : Fx S) : KD S 126 23 10 := ⟨by decide, by have := hF.1; omega, hF.2 (126, -1, 23) (List.mem_of_getElem? (i := 388) (by decide +kernel)), hF.2 (126, -2, 10) (List.mem_of_getElem? (i := 389) (by decide +kernel))⟩
theorem K_127 {S : SS} (hF : Fx S) : KD S 127 20 4 := ⟨by decide, by have := hF.1; omega, hF.2 (127, -1, 20) (List.mem_of_getElem? (i := 400) (by decide +kernel)), hF.2 (127, -2, 4) (List.mem_of_getElem? (i := 401) (by decide +kernel))⟩
theorem K_128 {S : SS} (hF : Fx S) : KD S 128 20 4 := ⟨by decide, by have := hF.1; omega, hF.2 (128, -1, 20) (List.mem_of_getElem? (i := 402) (by decide +kernel)), hF.2 (128, -2, 4) (List.mem_of_getElem? (i := 403) (by decide +kernel))⟩
theorem K_129 {S : SS} (hF : Fx S) : KD S 129 20 4 := ⟨by decide, by have := hF.1; omega, hF.2 (129, -1, 20) (List.mem_of_getElem? (i := 404) (by decide +kernel)), hF.2 (129, -2, 4) (List.mem_of_getElem? (i := 405) (by decide +kernel))⟩
theorem K_130 {S : SS} (hF : Fx S) : KD S 130 20 4 := ⟨by decide, by have := hF.1; omega, hF.2 (130, -1, 20) (List.mem_of_getElem? (i := 406) (by decide +kernel)), hF.2 (130, -2, 4) (List.mem_of_getElem? (i := 407) (by decide +kernel))⟩
theorem K_131 {S : SS} (hF : Fx S) : KD S 131 20 4 := ⟨by decide, by have := hF.1; omega, hF.2 (131, -1, 20) (List.mem_of_getElem? (i := 408) (by decide +kernel)), hF.2 (131, -2, 4) (List.mem_of_getElem? (i := 409) (by decide +kernel))⟩
theorem K_132 {S : SS} (hF : Fx S) : KD S 132 20 4 := ⟨by decide, by have := hF.1; omega, hF.2 (132, -1, 20) (List.mem_of_getElem? (i := 410) (by decide +kernel)), hF.2 (132, -2, 4) (List.mem_of_getElem? (i := 411) (by decide +kernel))⟩
theorem K_133 {S : SS} (hF : Fx S) : KD S 133 20 4 := ⟨by decide, by have := hF.1; omega, hF.2 (133, -1, 20) (List.mem_of_getElem? (i := 412) (by decide +kernel)), hF.2 (133, -2, 4) (List.mem_of_getElem? (i := 413) (by decide +kernel))⟩
theorem K_134 {S : SS} (hF : Fx S) : KD S 134 20 4 := ⟨by decide, by have := hF.1; omega, hF.2 (134, -1, 20) (List.mem_of_getElem? (i := 414) (by decide +kernel)), hF.2 (134, -2, 4) (List.mem_of_getElem? (i := 415) (by decide +kernel))⟩
theorem K_135 {S : SS} (hF : Fx S) : KD S 135 20 4 := ⟨by decide, by have := hF.1; omega, hF.2 (135, -1, 20) (List.mem_of_getElem? (i := 416) (by decide +kernel)), hF.2 (135, -2, 4) (List.mem_of_getElem? (i := 417) (by decide +kernel))⟩
theorem K_136 {S : SS} (hF : Fx S) : KD S 136 20 4 := ⟨by decide, by have := hF.1; omega, hF.2 (136, -1, 20) (List.mem_of_getElem? (i := 418) (by decide +kernel)), hF.2 (136, -2, 4) (List.mem_of_getElem? (i := 419) (by decide +kernel))⟩
theorem K_137 {S : SS} (hF : Fx S) : KD S 137 7 0 := ⟨by decide, by have := hF.1; omega, hF.2 (137, -1, 7) (List.mem_of_getElem? (i := 420) (by decide +kernel)), hF.2 (137, -2, 0) (List.mem_of_getElem? (i := 421) (by decide +kernel))⟩
theorem K_138 {S : SS} (hF : Fx S) : KD S 138 23 8 := ⟨by decide, by have := hF.1; omega, hF.2 (138, -1, 23) (List.mem_of_getElem? (i := 423) (by decide +kernel)), hF.2 (138, -2, 8) (List.mem_of_getElem? (i := 424) (by decide +kernel))⟩
theorem K_139 {S : SS} (hF : Fx S) : KD S 139 20 4 := ⟨by decide, by have := hF.1; omega, hF.2 (139, -1, 20) (List.mem_of_getElem? (i := 433) (by decide +kernel)), hF.2 (139, -2, 4) (List.mem_of_getElem? (i := 434) (by decide +kernel))⟩
theorem K_140 {S : SS} (hF : Fx S) : KD S 140 20 4 := ⟨by decide, by have := hF.1; omega, hF.2 (140, -1, 20) (List.mem_of_getElem? (i := 435) (by decide +kernel)), hF.2 (140, -2, 4) (List.mem_of_getElem? (i := 436) (by decide +kernel))⟩
theorem K_141 {S : SS} (hF : Fx S) : KD S 141 20 4 := ⟨by decide, by have := hF.1; omega, hF.2 (141, -1, 20) (List.mem_of_getElem? (i := 437) (by decide +kernel)), hF.2 (141, -2, 4) (List.mem_of_getElem? (i := 438) (by decide +kernel))⟩
theorem K_142 {S : SS} (hF : Fx S) : KD S 142 20 4 := ⟨by decide, by have := hF.1; omega, hF.2 (142, -1, 20) (List.mem_of_getElem? (i := 439) (by decide +kernel)), hF.2 (142, -2, 4) (List.mem_of_getElem? (i := 440) (by decide +kernel))⟩
theorem K_143 {S : SS} (hF : Fx S) : KD S 143 20 4 := ⟨by decide, by have := hF.1; omega, hF.2 (143, -1, 20) (List.mem_of_getElem? (i := 441) (by decide +kernel)), hF.2 (143, -2, 4) (List.mem_of_getElem? (i := 442) (by decide +kernel))⟩
theorem K_144 {S : SS} (hF : Fx S) : KD S 144 20 4 := ⟨by decide, by have := hF.1; omega, hF.2 (144, -1, 20) (List.mem_of_getElem? (i := 443) (by decide +kernel)), hF.2 (144, -2, 4) (List.mem_of_getElem? (i := 444) (by decide +kernel))⟩
theorem K_145 {S : SS} (hF : Fx S) : KD S 145 20 4 := ⟨by decide, by have := hF.1; omega, hF.2 (145, -1, 20) (List.mem_of_getElem? (i := 445) (by decide +kernel)), hF.2 (145, -2, 4) (List.mem_of_getElem? (i := 446) (by decide +kernel))⟩
theorem K_146 {S : SS} (hF : Fx S) : KD S 146 20 4 := ⟨by decide, by have := hF.1; omega, hF.2 (146, -1, 20) (List.mem_of_getElem? (i := 447) (by decide +kernel)), hF.2 (146, -2, 4) (List.mem_of_getElem? (i := 448) (by decide +kernel))⟩
theorem K_147 {S : SS} (hF : Fx S) : KD S 147 20 6 := ⟨by decide, by have := hF.1; omega, hF.2 (147, -1, 20) (List.mem_of_getElem? (i := 449) (by decide +kernel)), hF.2 (147, -2, 6) (List.mem_of_getElem? (i := 450) (by decide +kernel))⟩
theorem K_148 {S : SS} (hF : Fx S) : KD S 148 6 0 := ⟨by decide, by have := hF.1; omega, hF.2 (148, -1, 6) (List.mem_of_getElem? (i := 451) (by decide +kernel)), hF.2 (148, -2, 0) (List.mem_of_getElem? (i := 452) (by decide +kernel))⟩
theorem K_149 {S : SS} (hF : Fx S) : KD S 149 20 100 := ⟨by decide, by have := hF.1; omega, hF.2 (149, -1, 20) (List.mem_of_getElem? (i := 454) (by decide +kernel)), hF.2 (149, -2, 100) (List.mem_of_getElem? (i := 455) (by decide +kernel))⟩
theorem K_150 {S : SS} (hF : Fx S) : KD S 150 26 6 := ⟨by decide, by have := hF.1; omega, hF.2 (150, -1, 26) (List.mem_of_getElem? (i := 456) (by decide +kernel)), hF.2 (150, -2, 6) (List.mem_of_getElem? (i := 457) (by decide +kernel))⟩
theorem K_151 {S : SS} (hF : Fx S) : KD S 151 13 0 := ⟨by decide, by have := hF.1; omega, hF.2 (151, -1, 13) (List.mem_of_getElem? (i := 464) (by decide +kernel)), hF.2 (151, -2, 0) (List.mem_of_getElem? (i := 465) (by decide +kernel))⟩
theorem K_152 {S : SS} (hF : Fx S) : KD S 152 23 6 := ⟨by decide, by have := hF.1; omega, hF.2 (152, -1, 23) (List.mem_of_getElem? (i := 466) (by decide +kernel)), hF.2 (152, -2, 6) (List.mem_of_getElem? (i := 467) (by decide +kernel))⟩
theorem K_153 {S : SS} (hF : Fx S) : KD S 153 20 5 := ⟨by decide, by have := hF.1; omega, hF.2 (153, -1, 20) (List.mem_of_getElem? (i := 474) (by decide +kernel)), hF.2 (153, -2, 5) (List.mem_of_getElem? (i := 475) (by decide +kernel))⟩
theorem K_154 {S : SS} (hF : Fx S) : KD S 154 20 5 := ⟨by decide, by have := hF.1; omega, hF.2 (154, -1, 20) (List.mem_of_getElem? (i := 476) (by decide +kernel)), hF.2 (154, -2, 5) (List.mem_of_getElem? (i := 477) (by decide +kernel))⟩
theorem K_155 {S : SS} (hF : Fx S) : KD S 155 20 5 := ⟨by decide, by have := hF.1; omega, hF.2 (155, -1, 20) (List.mem_of_getElem? (i := 478) (by decide +kernel)), hF.2 (155, -2, 5) (List.mem_of_getElem? (i := 479) (by decide +kernel))⟩
theorem K_156 {S : SS} (hF : Fx S) : KD S 156 20 5 := ⟨by decide, by have := hF.1; omega, hF.2 (156, -1, 20) (List.mem_of_getElem? (i := 480) (by decide +kernel)), hF.2 (156, -2, 5) (List.mem_of_getElem? (i := 481) (by decide +kernel))⟩
theorem K_157 {S : SS} (hF : Fx S) : KD S 157 20 5 := ⟨by decide, by have := hF.1; omega, hF.2 (157, -1, 20) (List.mem_of_getElem? (i := 482) (by decide +kernel)), hF.2 (157, -2, 5) (List.mem_of_getElem? (i := 483) (by decide +kernel))⟩
theorem K_158 {S : SS} (hF : Fx S) : KD S 158 20 5 := ⟨by decide, by have := hF.1; omega, hF.2 (158, -1, 20) (List.mem_of_getElem? (i := 484) (by decide +kernel)), hF.2 (158, -2, 5) (List.mem_of_getElem? (i := 485) (by decide +kernel))⟩
theorem K_159 {S : SS} (hF : Fx S) : KD S 159 23 6 := ⟨by decide, by have := hF.1; omega, hF.2 (159, -1, 23) (List.mem_of_getElem? (i := 486) (by decide +kernel)), hF.2 (159, -2, 6) (List.mem_of_getElem? (i := 487) (by decide +kernel))⟩
theorem K_160 {S : SS} (hF : Fx S) : KD S 160 20 64 := ⟨by decide, by have := hF.1; omega, hF.2 (160, -1, 20) (List.mem_of_getElem? (i := 494) (by decide +kernel)), hF.2 (160, -2, 64) (List.mem_of_getElem? (i := 495) (by decide +kernel))⟩
theorem K_161 {S : SS} (hF : Fx S) : KD S 161 20 64 := ⟨by decide, by have := hF.1; omega, hF.2 (161, -1, 20) (List.mem_of_getElem? (i := 496) (by decide +kernel)), hF.2 (161, -2, 64) (List.mem_of_getElem? (i := 497) (by decide +kernel))⟩
theorem K_162 {S : SS} (hF : Fx S) : KD S 162 20 64 := ⟨by decide, by have := hF.1; omega, hF.2 (162, -1, 20) (List.mem_of_getElem? (i := 498) (by decide +kernel)), hF.2 (162, -2, 64) (List.mem_of_getElem? (i := 499) (by decide +kernel))⟩
theorem K_163 {S : SS} (hF : Fx S) : KD S 163 20 64 := ⟨by decide, by have := hF.1; omega, hF.2 (163, -1, 20) (List.mem_of_getElem? (i := 500) (by decide +kernel)), hF.2 (163, -2, 64) (List.mem_of_getElem? (i := 501) (by decide +kernel))⟩
theorem K_164 {S : SS} (hF : Fx S) : KD S 164 20 64 := ⟨by decide, by have := hF.1; omega, hF.2 (164, -1, 20) (List.mem_of_getElem? (i := 502) (by decide +kernel)), hF.2 (164, -2, 64) (List.mem_of_getElem? (i := 503) (by decide +kernel))⟩
theorem K_165 {S : SS} (hF : Fx S) : KD S 165 20 64 := ⟨by decide, by have := hF.1; omega, hF.2 (165, -1, 20) (List.mem_of_getElem? (i := 504) (by decide +kernel)), hF.2 (165, -2, 64) (List.mem_of_getElem? (i := 505) (by decide +kernel))⟩
theorem K_166 {S : SS} (hF : Fx S) : KD S 166 20 6 := ⟨by decide, by have := hF.1; omega, hF.2 (166, -1, 20) (List.mem_of_getElem? (i := 506) (by decide +kernel)), hF.2 (166, -2, 6) (List.mem_of_getElem? (i := 507) (by decide +kernel))⟩
theorem K_167 {S : SS} (hF : Fx S) : KD S 167 20 6 := ⟨by decide, by have := hF.1; omega, hF.2 (167, -1, 20) (List.mem_of_getElem? (i := 508) (by decide +kernel)), hF.2 (167, -2, 6) (List.mem_of_getElem? (i := 509) (by decide +kernel))⟩
theorem K_168 {S : SS} (hF : Fx S) : KD S 168 24 6 := ⟨by decide, by have := hF.1; omega, hF.2 (168, -1, 24) (List.mem_of_getElem? (i := 510) (by decide +kernel)), hF.2 (168, -2, 6) (List.mem_of_getElem? (i := 511) (by decide +kernel))⟩
theorem K_169 {S : SS} (hF : Fx S) : KD S 169 21 60 := ⟨by decide, by have := hF.1; omega, hF.2 (169, -1, 21) (List.mem_of_getElem? (i := 518) (by decide +kernel)), hF.2 (169, -2, 60) (List.mem_of_getElem? (i := 519) (by decide +kernel))⟩
theorem K_170 {S : SS} (hF : Fx S) : KD S 170 21 60 := ⟨by decide, by have := hF.1; omega, hF.2 (170, -1, 21) (List.mem_of_getElem? (i := 520) (by decide +kernel)), hF.2 (170, -2, 60) (List.mem_of_getElem? (i := 521) (by decide +kernel))⟩
theorem K_171 {S : SS} (hF : Fx S) : KD S 171 21 60 := ⟨by decide, by have := hF.1; omega, hF.2 (171, -1, 21) (List.mem_of_getElem? (i := 522) (by decide +kernel)), hF.2 (171, -2, 60) (List.mem_of_getElem? (i := 523) (by decide +kernel))⟩
theorem K_172 {S : SS} (hF : Fx S) : KD S 172 21 60 := ⟨by decide, by have := hF.1; omega, hF.2 (172, -1, 21) (List.mem_of_getElem? (i := 524) (by decide +kernel)), hF.2 (172, -2, 60) (List.mem_of_getElem? (i := 525) (by decide +kernel))⟩
theorem K_173 {S : SS} (hF : Fx S) : KD S 173 21 60 := ⟨by decide, by have := hF.1; omega, hF.2 (173, -1, 21) (List.mem_of_getElem? (i := 526) (by decide +kernel)), hF.2 (173, -2, 60) (List.mem_of_getElem? (i := 527) (by decide +kernel))⟩
theorem K_174 {S : SS} (hF : Fx S) : KD S 174 21 60 := ⟨by decide, by have := hF.1; omega, hF.2 (174, -1, 21) (List.mem_of_getElem? (i := 528) (by decide +kernel)), hF.2 (174, -2, 60) (List.mem_of_getElem? (i := 529) (by decide +kernel))⟩
theorem K_175 {S : SS} (hF : Fx S) : KD S 175 5 0 := ⟨by decide, by have := hF.1; omega, hF.2 (175, -1, 5) (List.mem_of_getElem? (i := 530) (by decide +kernel)), hF.2 (175, -2, 0) (List.mem_of_getElem? (i := 531) (by decide +kernel))⟩
theorem K_176 {S : SS} (hF : Fx S) : KD S 176 20 100 := ⟨by decide, by have := hF.1; omega, hF.2 (176, -1, 20) (List.mem_of_getElem? (i := 534) (by decide +kernel)), hF.2 (176, -2, 100) (List.mem_of_getElem? (i := 535) (by decide +kernel))⟩
theorem K_177 {S : SS} (hF : Fx S) : KD S 177 20 100 := ⟨by decide, by have := hF.1; omega, hF.2 (177, -1, 20) (List.mem_of_getElem? (i := 536) (by decide +kernel)), hF.2 (177, -2, 100) (List.mem_of_getElem? (i := 537) (by decide +kernel))⟩
theorem K_178 {S : SS} (hF : Fx S) : KD S 178 5 0 := ⟨by decide, by have := hF.1; omega, hF.2 (178, -1, 5) (List.mem_of_getElem? (i := 538) (by decide +kernel)), hF.2 (178, -2, 0) (List.mem_of_getElem? (i := 539) (by decide +kernel))⟩
theorem K_179 {S : SS} (hF : Fx S) : KD S 179 20 100 := ⟨by decide, by have := hF.1; omega, hF.2 (179, -1, 20) (List.mem_of_getElem? (i := 542) (by decide +kernel)), hF.2 (179, -2, 100) (List.mem_of_getElem? (i := 543) (by decide +kernel))⟩
theorem K_180 {S : SS} (hF : Fx S) : KD S 180 20 100 := ⟨by decide, by have := hF.1; omega, hF.2 (180, -1, 20) (List.mem_of_getElem? (i := 544) (by decide +kernel)), hF.2 (180, -2, 100) (List.mem_of_getElem? (i := 545) (by decide +kernel))⟩
theorem K_181 {S : SS} (hF : Fx S) : KD S 181 5 0 := ⟨by decide, by have := hF.1; omega, hF.2 (181, -1, 5) (List.mem_of_getElem? (i := 546) (by decide +kernel)), hF.2 (181, -2, 0) (List.mem_of_getElem? (i := 547) (by decide +kernel))⟩
theorem K_182 {S : SS} (hF : Fx S) : KD S 182 20 100 := ⟨by decide, by have := hF.1; omega, hF.2 (182, -1, 20) (List.mem_of_getElem? (i := 550) (by decide +kernel)), hF.2 (182, -2, 100) (List.mem_of_getElem? (i := 551) (by decide +kernel))⟩
theorem K_183 {S : SS} (hF : Fx S) : KD S 183 20 100 := ⟨by decide, by have := hF.1; omega, hF.2 (183, -1, 20) (List.mem_of_getElem? (i := 552) (by decide +kernel)), hF.2 (183, -2, 100) (List.mem_of_getElem? (i := 553) (by decide +kernel))⟩
theorem K_184 {S : SS} (hF : Fx S) : KD S 184 5 0 := ⟨by decide, by have := hF.1; omega, hF.2 (184, -1, 5) (List.mem_of_getElem? (i := 554) (by decide +kernel)), hF.2 (184, -2, 0) (List.mem_of_getElem? (i := 555) (by decide +kernel))⟩
theorem K_185 {S : SS} (hF : Fx S) : KD S 185 20 100 := ⟨by decide, by have := hF.1; omega, hF.2 (185, -1, 20) (List.mem_of_getElem? (i := 558) (by decide +kernel)), hF.2 (185, -2, 100) (List.mem_of_getElem? (i := 559) (by decide +kernel))⟩
theorem K_186 {S : SS} (hF : Fx S) : KD S 186 20 100 := ⟨by decide, by have := hF.1; omega, hF.2 (186, -1, 20) (List.mem_of_getElem? (i := 560) (by decide +kernel)), hF.2 (186, -2, 100) (List.mem_of_getElem? (i := 561) (by decide +kernel))⟩
theorem K_187 {S : SS} (hF : Fx S) : KD S 187 5 0 := ⟨by decide, by have := hF.1; omega, hF.2 (187, -1, 5) (List.mem_of_getElem? (i := 562) (by decide +kernel)), hF.2 (187, -2, 0) (List.mem_of_getElem? (i := 563) (by decide +kernel))⟩
theorem K_188 {S : SS} (hF : Fx S) : KD S 188 20 100 := ⟨by decide, by have := hF.1; omega, hF.2 (188, -1, 20) (List.mem_of_getElem? (i := 566) (by decide +kernel)), hF.2 (188, -2, 100) (List.mem_of_getElem? (i := 567) (by decide +kernel))⟩
theorem K_189 {S : SS} (hF : Fx S) : KD S 189 20 100 := ⟨by decide, by have := hF.1; omega, hF.2 (189, -1, 20) (List.mem_of_getElem? (i := 568) (by decide +kernel)), hF.2 (189, -2, 100) (List.mem_of_getElem? (i := 569) (by decide +kernel))⟩
theorem K_190 {S : SS} (hF : Fx S) : KD S 190 5 0 := ⟨by decide, by have := hF.1; omega, hF.2 (190, -1, 5) (List.mem_of_getElem? (i := 570) (by decide +kernel)), hF.2 (190, -2, 0) (List.mem_of_getElem? (i := 571) (by decide +kernel))⟩
theorem K_191 {S : SS} (hF : Fx S) : KD S 191 20 100 := ⟨by decide, by have := hF.1; omega, hF.2 (191, -1, 20) (List.mem_of_getElem? (i := 574) (by decide +kernel)), hF.2 (191, -2, 100) (List.mem_of_getElem? (i := 575) (by decide +kernel))⟩
theorem K_192 {S : SS} (hF : Fx S) : KD S 192 20 100 := ⟨by decide, by have := hF.1; omega, hF.2 (192, -1, 20) (List.mem_of_getElem? (i := 576) (by decide +kernel)), hF.2 (192, -2, 100) (List.mem_of_getElem? (i := 577) (by decide +kernel))⟩
theorem F_0_0 {S : SS} (hF : Fx S) : S.1 0 0 = 1 := hF.2 (0, 0, 1) (List.mem_of_getElem? (i := 2) (by decide +kernel))
theorem F_0_1 {S : SS} (hF : Fx S) : S.1 0 1 = 50 := hF.2 (0, 1, 50) (List.mem_of_getElem? (i := 3) (by decide +kernel))
theorem F_0_2 {S : SS} (hF : Fx S) : S.1 0 2 = 99 := hF.2 (0, 2, 99) (List.mem_of_getElem? (i := 4) (by decide +kernel))
theorem F_0_4 {S : SS} (hF : Fx S) : S.1 0 4 = 148 := hF.2 (0, 4, 148) (List.mem_of_getElem? (i := 5) (by decide +kernel))
theorem F_0_5 {S : SS} (hF : Fx S) : S.1 0 5 = 150 := hF.2 (0, 5, 150) (List.mem_of_getElem? (i := 6) (by decide +kernel))
theorem F_0_7 {S : SS} (hF : Fx S) : S.1 0 7 = 151 := hF.2 (0, 7, 151) (List.mem_of_getElem? (i := 7) (by decide +kernel))
theorem F_0_8 {S : SS} (hF : Fx S) : S.1 0 8 = 152 := hF.2 (0, 8, 152) (List.mem_of_getElem? (i := 8) (by decide +kernel))
theorem F_0_9 {S : SS} (hF : Fx S) : S.1 0 9 = 159 := hF.2 (0, 9, 159) (List.mem_of_getElem? (i := 9) (by decide +kernel))
theorem F_0_10 {S : SS} (hF : Fx S) : S.1 0 10 = 166 := hF.2 (0, 10, 166) (List.mem_of_getElem? (i := 10) (by decide +kernel))
theorem F_0_11 {S : SS} (hF : Fx S) : S.1 0 11 = 167 := hF.2 (0, 11, 167) (List.mem_of_getElem? (i := 11) (by decide +kernel))
theorem F_0_12 {S : SS} (hF : Fx S) : S.1 0 12 = 168 := hF.2 (0, 12, 168) (List.mem_of_getElem? (i := 12) (by decide +kernel))
theorem F_1_0 {S : SS} (hF : Fx S) : S.1 1 0 = 2 := hF.2 (1, 0, 2) (List.mem_of_getElem? (i := 15) (by decide +kernel))
theorem F_1_1 {S : SS} (hF : Fx S) : S.1 1 1 = 3 := hF.2 (1, 1, 3) (List.mem_of_getElem? (i := 16) (by decide +kernel))
theorem F_1_2 {S : SS} (hF : Fx S) : S.1 1 2 = 4 := hF.2 (1, 2, 4) (List.mem_of_getElem? (i := 17) (by decide +kernel))
theorem F_1_3 {S : SS} (hF : Fx S) : S.1 1 3 = 11 := hF.2 (1, 3, 11) (List.mem_of_getElem? (i := 18) (by decide +kernel))
theorem F_1_5 {S : SS} (hF : Fx S) : S.1 1 5 = 18 := hF.2 (1, 5, 18) (List.mem_of_getElem? (i := 19) (by decide +kernel))
theorem F_1_6 {S : SS} (hF : Fx S) : S.1 1 6 = 19 := hF.2 (1, 6, 19) (List.mem_of_getElem? (i := 20) (by decide +kernel))
theorem F_1_8 {S : SS} (hF : Fx S) : S.1 1 8 = 20 := hF.2 (1, 8, 20) (List.mem_of_getElem? (i := 21) (by decide +kernel))
theorem F_1_9 {S : SS} (hF : Fx S) : S.1 1 9 = 27 := hF.2 (1, 9, 27) (List.mem_of_getElem? (i := 22) (by decide +kernel))
theorem F_1_10 {S : SS} (hF : Fx S) : S.1 1 10 = 39 := hF.2 (1, 10, 39) (List.mem_of_getElem? (i := 23) (by decide +kernel))
theorem F_1_12 {S : SS} (hF : Fx S) : S.1 1 12 = 49 := hF.2 (1, 12, 49) (List.mem_of_getElem? (i := 24) (by decide +kernel))
theorem F_4_0 {S : SS} (hF : Fx S) : S.1 4 0 = 5 := hF.2 (4, 0, 5) (List.mem_of_getElem? (i := 31) (by decide +kernel))
theorem F_4_1 {S : SS} (hF : Fx S) : S.1 4 1 = 6 := hF.2 (4, 1, 6) (List.mem_of_getElem? (i := 32) (by decide +kernel))
theorem F_4_2 {S : SS} (hF : Fx S) : S.1 4 2 = 7 := hF.2 (4, 2, 7) (List.mem_of_getElem? (i := 33) (by decide +kernel))
theorem F_4_3 {S : SS} (hF : Fx S) : S.1 4 3 = 8 := hF.2 (4, 3, 8) (List.mem_of_getElem? (i := 34) (by decide +kernel))
theorem F_4_4 {S : SS} (hF : Fx S) : S.1 4 4 = 9 := hF.2 (4, 4, 9) (List.mem_of_getElem? (i := 35) (by decide +kernel))
theorem F_4_5 {S : SS} (hF : Fx S) : S.1 4 5 = 10 := hF.2 (4, 5, 10) (List.mem_of_getElem? (i := 36) (by decide +kernel))
theorem F_11_0 {S : SS} (hF : Fx S) : S.1 11 0 = 12 := hF.2 (11, 0, 12) (List.mem_of_getElem? (i := 51) (by decide +kernel))
theorem F_11_1 {S : SS} (hF : Fx S) : S.1 11 1 = 13 := hF.2 (11, 1, 13) (List.mem_of_getElem? (i := 52) (by decide +kernel))
theorem F_11_2 {S : SS} (hF : Fx S) : S.1 11 2 = 14 := hF.2 (11, 2, 14) (List.mem_of_getElem? (i := 53) (by decide +kernel))
theorem F_11_3 {S : SS} (hF : Fx S) : S.1 11 3 = 15 := hF.2 (11, 3, 15) (List.mem_of_getElem? (i := 54) (by decide +kernel))
theorem F_11_4 {S : SS} (hF : Fx S) : S.1 11 4 = 16 := hF.2 (11, 4, 16) (List.mem_of_getElem? (i := 55) (by decide +kernel))
theorem F_11_5 {S : SS} (hF : Fx S) : S.1 11 5 = 17 := hF.2 (11, 5, 17) (List.mem_of_getElem? (i := 56) (by decide +kernel))
theorem F_20_0 {S : SS} (hF : Fx S) : S.1 20 0 = 21 := hF.2 (20, 0, 21) (List.mem_of_getElem? (i := 75) (by decide +kernel))
theorem F_21_0 {S : SS} (hF : Fx S) : S.1 21 0 = 22 := hF.2 (21, 0, 22) (List.mem_of_getElem? (i := 78) (by decide +kernel))
theorem F_21_1 {S : SS} (hF : Fx S) : S.1 21 1 = 23 := hF.2 (21, 1, 23) (List.mem_of_getElem? (i := 79) (by decide +kernel))
theorem F_21_2 {S : SS} (hF : Fx S) : S.1 21 2 = 24 := hF.2 (21, 2, 24) (List.mem_of_getElem? (i := 80) (by decide +kernel))
theorem F_21_3 {S : SS} (hF : Fx S) : S.1 21 3 = 25 := hF.2 (21, 3, 25) (List.mem_of_getElem? (i := 81) (by decide +kernel))
theorem F_21_4 {S : SS} (hF : Fx S) : S.1 21 4 = 26 := hF.2 (21, 4, 26) (List.mem_of_getElem? (i := 82) (by decide +kernel))
theorem F_27_0 {S : SS} (hF : Fx S) : S.1 27 0 = 28 := hF.2 (27, 0, 28) (List.mem_of_getElem? (i := 95) (by decide +kernel))
theorem F_28_0 {S : SS} (hF : Fx S) : S.1 28 0 = 29 := hF.2 (28, 0, 29) (List.mem_of_getElem? (i := 98) (by decide +kernel))
theorem F_28_1 {S : SS} (hF : Fx S) : S.1 28 1 = 30 := hF.2 (28, 1, 30) (List.mem_of_getElem? (i := 99) (by decide +kernel))
theorem F_28_2 {S : SS} (hF : Fx S) : S.1 28 2 = 31 := hF.2 (28, 2, 31) (List.mem_of_getElem? (i := 100) (by decide +kernel))
theorem F_28_3 {S : SS} (hF : Fx S) : S.1 28 3 = 32 := hF.2 (28, 3, 32) (List.mem_of_getElem? (i := 101) (by decide +kernel))
theorem F_28_4 {S : SS} (hF : Fx S) : S.1 28 4 = 33 := hF.2 (28, 4, 33) (List.mem_of_getElem? (i := 102) (by decide +kernel))
theorem F_28_5 {S : SS} (hF : Fx S) : S.1 28 5 = 34 := hF.2 (28, 5, 34) (List.mem_of_getElem? (i := 103) (by decide +kernel))
theorem F_28_6 {S : SS} (hF : Fx S) : S.1 28 6 = 35 := hF.2 (28, 6, 35) (List.mem_of_getElem? (i := 104) (by decide +kernel))
theorem F_28_7 {S : SS} (hF : Fx S) : S.1 28 7 = 36 := hF.2 (28, 7, 36) (List.mem_of_getElem? (i := 105) (by decide +kernel))
theorem F_28_8 {S : SS} (hF : Fx S) : S.1 28 8 = 37 := hF.2 (28, 8, 37) (List.mem_of_getElem? (i := 106) (by decide +kernel))
theorem F_28_9 {S : SS} (hF : Fx S) : S.1 28 9 = 38 := hF.2 (28, 9, 38) (List.mem_of_getElem? (i := 107) (by decide +kernel))
theorem F_39_0 {S : SS} (hF : Fx S) : S.1 39 0 = 40 := hF.2 (39, 0, 40) (List.mem_of_getElem? (i := 130) (by decide +kernel))
theorem F_40_0 {S : SS} (hF : Fx S) : S.1 40 0 = 41 := hF.2 (40, 0, 41) (List.mem_of_getElem? (i := 133) (by decide +kernel))
theorem F_40_1 {S : SS} (hF : Fx S) : S.1 40 1 = 42 := hF.2 (40, 1, 42) (List.mem_of_getElem? (i := 134) (by decide +kernel))
theorem F_40_2 {S : SS} (hF : Fx S) : S.1 40 2 = 43 := hF.2 (40, 2, 43) (List.mem_of_getElem? (i := 135) (by decide +kernel))
theorem F_40_3 {S : SS} (hF : Fx S) : S.1 40 3 = 44 := hF.2 (40, 3, 44) (List.mem_of_getElem? (i := 136) (by decide +kernel))
theorem F_40_4 {S : SS} (hF : Fx S) : S.1 40 4 = 45 := hF.2 (40, 4, 45) (List.mem_of_getElem? (i := 137) (by decide +kernel))
theorem F_40_5 {S : SS} (hF : Fx S) : S.1 40 5 = 46 := hF.2 (40, 5, 46) (List.mem_of_getElem? (i := 138) (by decide +kernel))
theorem F_40_6 {S : SS} (hF : Fx S) : S.1 40 6 = 47 := hF.2 (40, 6, 47) (List.mem_of_getElem? (i := 139) (by decide +kernel))
theorem F_40_7 {S : SS} (hF : Fx S) : S.1 40 7 = 48 := hF.2 (40, 7, 48) (List.mem_of_getElem? (i := 140) (by decide +kernel))
theorem F_50_0 {S : SS} (hF : Fx S) : S.1 50 0 = 51 := hF.2 (50, 0, 51) (List.mem_of_getElem? (i := 161) (by decide +kernel))
theorem F_50_1 {S : SS} (hF : Fx S) : S.1 50 1 = 52 := hF.2 (50, 1, 52) (List.mem_of_getElem? (i := 162) (by decide +kernel))
theorem F_50_2 {S : SS} (hF : Fx S) : S.1 50 2 = 53 := hF.2 (50, 2, 53) (List.mem_of_getElem? (i := 163) (by decide +kernel))
theorem F_50_3 {S : SS} (hF : Fx S) : S.1 50 3 = 60 := hF.2 (50, 3, 60) (List.mem_of_getElem? (i := 164) (by decide +kernel))
theorem F_50_5 {S : SS} (hF : Fx S) : S.1 50 5 = 67 := hF.2 (50, 5, 67) (List.mem_of_getElem? (i := 165) (by decide +kernel))
theorem F_50_6 {S : SS} (hF : Fx S) : S.1 50 6 = 68 := hF.2 (50, 6, 68) (List.mem_of_getElem? (i := 166) (by decide +kernel))
theorem F_50_8 {S : SS} (hF : Fx S) : S.1 50 8 = 69 := hF.2 (50, 8, 69) (List.mem_of_getElem? (i := 167) (by decide +kernel))
theorem F_50_9 {S : SS} (hF : Fx S) : S.1 50 9 = 76 := hF.2 (50, 9, 76) (List.mem_of_getElem? (i := 168) (by decide +kernel))
theorem F_50_10 {S : SS} (hF : Fx S) : S.1 50 10 = 88 := hF.2 (50, 10, 88) (List.mem_of_getElem? (i := 169) (by decide +kernel))
theorem F_50_12 {S : SS} (hF : Fx S) : S.1 50 12 = 98 := hF.2 (50, 12, 98) (List.mem_of_getElem? (i := 170) (by decide +kernel))
theorem F_53_0 {S : SS} (hF : Fx S) : S.1 53 0 = 54 := hF.2 (53, 0, 54) (List.mem_of_getElem? (i := 177) (by decide +kernel))
theorem F_53_1 {S : SS} (hF : Fx S) : S.1 53 1 = 55 := hF.2 (53, 1, 55) (List.mem_of_getElem? (i := 178) (by decide +kernel))
theorem F_53_2 {S : SS} (hF : Fx S) : S.1 53 2 = 56 := hF.2 (53, 2, 56) (List.mem_of_getElem? (i := 179) (by decide +kernel))
theorem F_53_3 {S : SS} (hF : Fx S) : S.1 53 3 = 57 := hF.2 (53, 3, 57) (List.mem_of_getElem? (i := 180) (by decide +kernel))
theorem F_53_4 {S : SS} (hF : Fx S) : S.1 53 4 = 58 := hF.2 (53, 4, 58) (List.mem_of_getElem? (i := 181) (by decide +kernel))
theorem F_53_5 {S : SS} (hF : Fx S) : S.1 53 5 = 59 := hF.2 (53, 5, 59) (List.mem_of_getElem? (i := 182) (by decide +kernel))
theorem F_60_0 {S : SS} (hF : Fx S) : S.1 60 0 = 61 := hF.2 (60, 0, 61) (List.mem_of_getElem? (i := 197) (by decide +kernel))
theorem F_60_1 {S : SS} (hF : Fx S) : S.1 60 1 = 62 := hF.2 (60, 1, 62) (List.mem_of_getElem? (i := 198) (by decide +kernel))
theorem F_60_2 {S : SS} (hF : Fx S) : S.1 60 2 = 63 := hF.2 (60, 2, 63) (List.mem_of_getElem? (i := 199) (by decide +kernel))
theorem F_60_3 {S : SS} (hF : Fx S) : S.1 60 3 = 64 := hF.2 (60, 3, 64) (List.mem_of_getElem? (i := 200) (by decide +kernel))
theorem F_60_4 {S : SS} (hF : Fx S) : S.1 60 4 = 65 := hF.2 (60, 4, 65) (List.mem_of_getElem? (i := 201) (by decide +kernel))
theorem F_60_5 {S : SS} (hF : Fx S) : S.1 60 5 = 66 := hF.2 (60, 5, 66) (List.mem_of_getElem? (i := 202) (by decide +kernel))
theorem F_69_0 {S : SS} (hF : Fx S) : S.1 69 0 = 70 := hF.2 (69, 0, 70) (List.mem_of_getElem? (i := 221) (by decide +kernel))
theorem F_70_0 {S : SS} (hF : Fx S) : S.1 70 0 = 71 := hF.2 (70, 0, 71) (List.mem_of_getElem? (i := 224) (by decide +kernel))
theorem F_70_1 {S : SS} (hF : Fx S) : S.1 70 1 = 72 := hF.2 (70, 1, 72) (List.mem_of_getElem? (i := 225) (by decide +kernel))
theorem F_70_2 {S : SS} (hF : Fx S) : S.1 70 2 = 73 := hF.2 (70, 2, 73) (List.mem_of_getElem? (i := 226) (by decide +kernel))
theorem F_70_3 {S : SS} (hF : Fx S) : S.1 70 3 = 74 := hF.2 (70, 3, 74) (List.mem_of_getElem? (i := 227) (by decide +kernel))
theorem F_70_4 {S : SS} (hF : Fx S) : S.1 70 4 = 75 := hF.2 (70, 4, 75) (List.mem_of_getElem? (i := 228) (by decide +kernel))
theorem F_76_0 {S : SS} (hF : Fx S) : S.1 76 0 = 77 := hF.2 (76, 0, 77) (List.mem_of_getElem? (i := 241) (by decide +kernel))
theorem F_77_0 {S : SS} (hF : Fx S) : S.1 77 0 = 78 := hF.2 (77, 0, 78) (List.mem_of_getElem? (i := 244) (by decide +kernel))
theorem F_77_1 {S : SS} (hF : Fx S) : S.1 77 1 = 79 := hF.2 (77, 1, 79) (List.mem_of_getElem? (i := 245) (by decide +kernel))
theorem F_77_2 {S : SS} (hF : Fx S) : S.1 77 2 = 80 := hF.2 (77, 2, 80) (List.mem_of_getElem? (i := 246) (by decide +kernel))
theorem F_77_3 {S : SS} (hF : Fx S) : S.1 77 3 = 81 := hF.2 (77, 3, 81) (List.mem_of_getElem? (i := 247) (by decide +kernel))
theorem F_77_4 {S : SS} (hF : Fx S) : S.1 77 4 = 82 := hF.2 (77, 4, 82) (List.mem_of_getElem? (i := 248) (by decide +kernel))
theorem F_77_5 {S : SS} (hF : Fx S) : S.1 77 5 = 83 := hF.2 (77, 5, 83) (List.mem_of_getElem? (i := 249) (by decide +kernel))
theorem F_77_6 {S : SS} (hF : Fx S) : S.1 77 6 = 84 := hF.2 (77, 6, 84) (List.mem_of_getElem? (i := 250) (by decide +kernel))
theorem F_77_7 {S : SS} (hF : Fx S) : S.1 77 7 = 85 := hF.2 (77, 7, 85) (List.mem_of_getElem? (i := 251) (by decide +kernel))
theorem F_77_8 {S : SS} (hF : Fx S) : S.1 77 8 = 86 := hF.2 (77, 8, 86) (List.mem_of_getElem? (i := 252) (by decide +kernel))
theorem F_77_9 {S : SS} (hF : Fx S) : S.1 77 9 = 87 := hF.2 (77, 9, 87) (List.mem_of_getElem? (i := 253) (by decide +kernel))
theorem F_88_0 {S : SS} (hF : Fx S) : S.1 88 0 = 89 := hF.2 (88, 0, 89) (List.mem_of_getElem? (i := 276) (by decide +kernel))
theorem F_89_0 {S : SS} (hF : Fx S) : S.1 89 0 = 90 := hF.2 (89, 0, 90) (List.mem_of_getElem? (i := 279) (by decide +kernel))
theorem F_89_1 {S : SS} (hF : Fx S) : S.1 89 1 = 91 := hF.2 (89, 1, 91) (List.mem_of_getElem? (i := 280) (by decide +kernel))
theorem F_89_2 {S : SS} (hF : Fx S) : S.1 89 2 = 92 := hF.2 (89, 2, 92) (List.mem_of_getElem? (i := 281) (by decide +kernel))
theorem F_89_3 {S : SS} (hF : Fx S) : S.1 89 3 = 93 := hF.2 (89, 3, 93) (List.mem_of_getElem? (i := 282) (by decide +kernel))
theorem F_89_4 {S : SS} (hF : Fx S) : S.1 89 4 = 94 := hF.2 (89, 4, 94) (List.mem_of_getElem? (i := 283) (by decide +kernel))
theorem F_89_5 {S : SS} (hF : Fx S) : S.1 89 5 = 95 := hF.2 (89, 5, 95) (List.mem_of_getElem? (i := 284) (by decide +kernel))
theorem F_89_6 {S : SS} (hF : Fx S) : S.1 89 6 = 96 := hF.2 (89, 6, 96) (List.mem_of_getElem? (i := 285) (by decide +kernel))
theorem F_89_7 {S : SS} (hF : Fx S) : S.1 89 7 = 97 := hF.2 (89, 7, 97) (List.mem_of_getElem? (i := 286) (by decide +kernel))
theorem F_99_0 {S : SS} (hF : Fx S) : S.1 99 0 = 100 := hF.2 (99, 0, 100) (List.mem_of_getElem? (i := 307) (by decide +kernel))
theorem F_99_1 {S : SS} (hF : Fx S) : S.1 99 1 = 101 := hF.2 (99, 1, 101) (List.mem_of_getElem? (i := 308) (by decide +kernel))
theorem F_99_2 {S : SS} (hF : Fx S) : S.1 99 2 = 102 := hF.2 (99, 2, 102) (List.mem_of_getElem? (i := 309) (by decide +kernel))
theorem F_99_3 {S : SS} (hF : Fx S) : S.1 99 3 = 109 := hF.2 (99, 3, 109) (List.mem_of_getElem? (i := 310) (by decide +kernel))
theorem F_99_5 {S : SS} (hF : Fx S) : S.1 99 5 = 116 := hF.2 (99, 5, 116) (List.mem_of_getElem? (i := 311) (by decide +kernel))
theorem F_99_6 {S : SS} (hF : Fx S) : S.1 99 6 = 117 := hF.2 (99, 6, 117) (List.mem_of_getElem? (i := 312) (by decide +kernel))
theorem F_99_8 {S : SS} (hF : Fx S) : S.1 99 8 = 118 := hF.2 (99, 8, 118) (List.mem_of_getElem? (i := 313) (by decide +kernel))
theorem F_99_9 {S : SS} (hF : Fx S) : S.1 99 9 = 125 := hF.2 (99, 9, 125) (List.mem_of_getElem? (i := 314) (by decide +kernel))
theorem F_99_10 {S : SS} (hF : Fx S) : S.1 99 10 = 137 := hF.2 (99, 10, 137) (List.mem_of_getElem? (i := 315) (by decide +kernel))
theorem F_99_12 {S : SS} (hF : Fx S) : S.1 99 12 = 147 := hF.2 (99, 12, 147) (List.mem_of_getElem? (i := 316) (by decide +kernel))
theorem F_102_0 {S : SS} (hF : Fx S) : S.1 102 0 = 103 := hF.2 (102, 0, 103) (List.mem_of_getElem? (i := 323) (by decide +kernel))
theorem F_102_1 {S : SS} (hF : Fx S) : S.1 102 1 = 104 := hF.2 (102, 1, 104) (List.mem_of_getElem? (i := 324) (by decide +kernel))
theorem F_102_2 {S : SS} (hF : Fx S) : S.1 102 2 = 105 := hF.2 (102, 2, 105) (List.mem_of_getElem? (i := 325) (by decide +kernel))
theorem F_102_3 {S : SS} (hF : Fx S) : S.1 102 3 = 106 := hF.2 (102, 3, 106) (List.mem_of_getElem? (i := 326) (by decide +kernel))
theorem F_102_4 {S : SS} (hF : Fx S) : S.1 102 4 = 107 := hF.2 (102, 4, 107) (List.mem_of_getElem? (i := 327) (by decide +kernel))
theorem F_102_5 {S : SS} (hF : Fx S) : S.1 102 5 = 108 := hF.2 (102, 5, 108) (List.mem_of_getElem? (i := 328) (by decide +kernel))
theorem F_109_0 {S : SS} (hF : Fx S) : S.1 109 0 = 110 := hF.2 (109, 0, 110) (List.mem_of_getElem? (i := 343) (by decide +kernel))
theorem F_109_1 {S : SS} (hF : Fx S) : S.1 109 1 = 111 := hF.2 (109, 1, 111) (List.mem_of_getElem? (i := 344) (by decide +kernel))
theorem F_109_2 {S : SS} (hF : Fx S) : S.1 109 2 = 112 := hF.2 (109, 2, 112) (List.mem_of_getElem? (i := 345) (by decide +kernel))
theorem F_109_3 {S : SS} (hF : Fx S) : S.1 109 3 = 113 := hF.2 (109, 3, 113) (List.mem_of_getElem? (i := 346) (by decide +kernel))
theorem F_109_4 {S : SS} (hF : Fx S) : S.1 109 4 = 114 := hF.2 (109, 4, 114) (List.mem_of_getElem? (i := 347) (by decide +kernel))
theorem F_109_5 {S : SS} (hF : Fx S) : S.1 109 5 = 115 := hF.2 (109, 5, 115) (List.mem_of_getElem? (i := 348) (by decide +kernel))
theorem F_118_0 {S : SS} (hF : Fx S) : S.1 118 0 = 119 := hF.2 (118, 0, 119) (List.mem_of_getElem? (i := 367) (by decide +kernel))
theorem F_119_0 {S : SS} (hF : Fx S) : S.1 119 0 = 120 := hF.2 (119, 0, 120) (List.mem_of_getElem? (i := 370) (by decide +kernel))
theorem F_119_1 {S : SS} (hF : Fx S) : S.1 119 1 = 121 := hF.2 (119, 1, 121) (List.mem_of_getElem? (i := 371) (by decide +kernel))
theorem F_119_2 {S : SS} (hF : Fx S) : S.1 119 2 = 122 := hF.2 (119, 2, 122) (List.mem_of_getElem? (i := 372) (by decide +kernel))
theorem F_119_3 {S : SS} (hF : Fx S) : S.1 119 3 = 123 := hF.2 (119, 3, 123) (List.mem_of_getElem? (i := 373) (by decide +kernel))
theorem F_119_4 {S : SS} (hF : Fx S) : S.1 119 4 = 124 := hF.2 (119, 4, 124) (List.mem_of_getElem? (i := 374) (by decide +kernel))
theorem F_125_0 {S : SS} (hF : Fx S) : S.1 125 0 = 126 := hF.2 (125, 0, 126) (List.mem_of_getElem? (i := 387) (by decide +kernel))
theorem F_126_0 {S : SS} (hF : Fx S) : S.1 126 0 = 127 := hF.2 (126, 0, 127) (List.mem_of_getElem? (i := 390) (by decide +kernel))
theorem F_126_1 {S : SS} (hF : Fx S) : S.1 126 1 = 128 := hF.2 (126, 1, 128) (List.mem_of_getElem? (i := 391) (by decide +kernel))
theorem F_126_2 {S : SS} (hF : Fx S) : S.1 126 2 = 129 := hF.2 (126, 2, 129) (List.mem_of_getElem? (i := 392) (by decide +kernel))
theorem F_126_3 {S : SS} (hF : Fx S) : S.1 126 3 = 130 := hF.2 (126, 3, 130) (List.mem_of_getElem? (i := 393) (by decide +kernel))
theorem F_126_4 {S : SS} (hF : Fx S) : S.1 126 4 = 131 := hF.2 (126, 4, 131) (List.mem_of_getElem? (i := 394) (by decide +kernel))
theorem F_126_5 {S : SS} (hF : Fx S) : S.1 126 5 = 132 := hF.2 (126, 5, 132) (List.mem_of_getElem? (i := 395) (by decide +kernel))
theorem F_126_6 {S : SS} (hF : Fx S) : S.1 126 6 = 133 := hF.2 (126, 6, 133) (List.mem_of_getElem? (i := 396) (by decide +kernel))
theorem F_126_7 {S : SS} (hF : Fx S) : S.1 126 7 = 134 := hF.2 (126, 7, 134) (List.mem_of_getElem? (i := 397) (by decide +kernel))
theorem F_126_8 {S : SS} (hF : Fx S) : S.1 126 8 = 135 := hF.2 (126, 8, 135) (List.mem_of_getElem? (i := 398) (by decide +kernel))
theorem F_126_9 {S : SS} (hF : Fx S) : S.1 126 9 = 136 := hF.2 (126, 9, 136) (List.mem_of_getElem? (i := 399) (by decide +kernel))
theorem F_137_0 {S : SS} (hF : Fx S) : S.1 137 0 = 138 := hF.2 (137, 0, 138) (List.mem_of_getElem? (i := 422) (by decide +kernel))
theorem F_138_0 {S : SS} (hF : Fx S) : S.1 138 0 = 139 := hF.2 (138, 0, 139) (List.mem_of_getElem? (i := 425) (by decide +kernel))
theorem F_138_1 {S : SS} (hF : Fx S) : S.1 138 1 = 140 := hF.2 (138, 1, 140) (List.mem_of_getElem? (i := 426) (by decide +kernel))
theorem F_138_2 {S : SS} (hF : Fx S) : S.1 138 2 = 141 := hF.2 (138, 2, 141) (List.mem_of_getElem? (i := 427) (by decide +kernel))
theorem F_138_3 {S : SS} (hF : Fx S) : S.1 138 3 = 142 := hF.2 (138, 3, 142) (List.mem_of_getElem? (i := 428) (by decide +kernel))
theorem F_138_4 {S : SS} (hF : Fx S) : S.1 138 4 = 143 := hF.2 (138, 4, 143) (List.mem_of_getElem? (i := 429) (by decide +kernel))
theorem F_138_5 {S : SS} (hF : Fx S) : S.1 138 5 = 144 := hF.2 (138, 5, 144) (List.mem_of_getElem? (i := 430) (by decide +kernel))
theorem F_138_6 {S : SS} (hF : Fx S) : S.1 138 6 = 145 := hF.2 (138, 6, 145) (List.mem_of_getElem? (i := 431) (by decide +kernel))
theorem F_138_7 {S : SS} (hF : Fx S) : S.1 138 7 = 146 := hF.2 (138, 7, 146) (List.mem_of_getElem? (i := 432) (by decide +kernel))
theorem F_148_0 {S : SS} (hF : Fx S) : S.1 148 0 = 149 := hF.2 (148, 0, 149) (List.mem_of_getElem? (i := 453) (by decide +kernel))
theorem F_150_0 {S : SS} (hF : Fx S) : S.1 150 0 = 175 := hF.2 (150, 0, 175) (List.mem_of_getElem? (i := 458) (by decide +kernel))
theorem F_150_1 {S : SS} (hF : Fx S) : S.1 150 1 = 178 := hF.2 (150, 1, 178) (List.mem_of_getElem? (i := 459) (by decide +kernel))
theorem F_150_2 {S : SS} (hF : Fx S) : S.1 150 2 = 181 := hF.2 (150, 2, 181) (List.mem_of_getElem? (i := 460) (by decide +kernel))
theorem F_150_3 {S : SS} (hF : Fx S) : S.1 150 3 = 184 := hF.2 (150, 3, 184) (List.mem_of_getElem? (i := 461) (by decide +kernel))
theorem F_150_4 {S : SS} (hF : Fx S) : S.1 150 4 = 187 := hF.2 (150, 4, 187) (List.mem_of_getElem? (i := 462) (by decide +kernel))
theorem F_150_5 {S : SS} (hF : Fx S) : S.1 150 5 = 190 := hF.2 (150, 5, 190) (List.mem_of_getElem? (i := 463) (by decide +kernel))
theorem F_152_0 {S : SS} (hF : Fx S) : S.1 152 0 = 153 := hF.2 (152, 0, 153) (List.mem_of_getElem? (i := 468) (by decide +kernel))
theorem F_152_1 {S : SS} (hF : Fx S) : S.1 152 1 = 154 := hF.2 (152, 1, 154) (List.mem_of_getElem? (i := 469) (by decide +kernel))
theorem F_152_2 {S : SS} (hF : Fx S) : S.1 152 2 = 155 := hF.2 (152, 2, 155) (List.mem_of_getElem? (i := 470) (by decide +kernel))
theorem F_152_3 {S : SS} (hF : Fx S) : S.1 152 3 = 156 := hF.2 (152, 3, 156) (List.mem_of_getElem? (i := 471) (by decide +kernel))
theorem F_152_4 {S : SS} (hF : Fx S) : S.1 152 4 = 157 := hF.2 (152, 4, 157) (List.mem_of_getElem? (i := 472) (by decide +kernel))
theorem F_152_5 {S : SS} (hF : Fx S) : S.1 152 5 = 158 := hF.2 (152, 5, 158) (List.mem_of_getElem? (i := 473) (by decide +kernel))
theorem F_159_0 {S : SS} (hF : Fx S) : S.1 159 0 = 160 := hF.2 (159, 0, 160) (List.mem_of_getElem? (i := 488) (by decide +kernel))
theorem F_159_1 {S : SS} (hF : Fx S) : S.1 159 1 = 161 := hF.2 (159, 1, 161) (List.mem_of_getElem? (i := 489) (by decide +kernel))
theorem F_159_2 {S : SS} (hF : Fx S) : S.1 159 2 = 162 := hF.2 (159, 2, 162) (List.mem_of_getElem? (i := 490) (by decide +kernel))
theorem F_159_3 {S : SS} (hF : Fx S) : S.1 159 3 = 163 := hF.2 (159, 3, 163) (List.mem_of_getElem? (i := 491) (by decide +kernel))
theorem F_159_4 {S : SS} (hF : Fx S) : S.1 159 4 = 164 := hF.2 (159, 4, 164) (List.mem_of_getElem? (i := 492) (by decide +kernel))
theorem F_159_5 {S : SS} (hF : Fx S) : S.1 159 5 = 165 := hF.2 (159, 5, 165) (List.mem_of_getElem? (i := 493) (by decide +kernel))
theorem F_168_0 {S : SS} (hF : Fx S) : S.1 168 0 = 169 := hF.2 (168, 0, 169) (List.mem_of_getElem? (i := 512) (by decide +kernel))
theorem F_168_1 {S : SS} (hF : Fx S) : S.1 168 1 = 170 := hF.2 (168, 1, 170) (List.mem_of_getElem? (i := 513) (by decide +kernel))
theorem F_168_2 {S : SS} (hF : Fx S) : S.1 168 2 = 171 := hF.2 (168, 2, 171) (List.mem_of_getElem? (i := 514) (by decide +kernel))
theorem F_168_3 {S : SS} (hF : Fx S) : S.1 168 3 = 172 := hF.2 (168, 3, 172) (List.mem_of_getElem? (i := 515) (by decide +kernel))
theorem F_168_4 {S : SS} (hF : Fx S) : S.1 168 4 = 173 := hF.2 (168, 4, 173) (List.mem_of_getElem? (i := 516) (by decide +kernel))
theorem F_168_5 {S : SS} (hF : Fx S) : S.1 168 5 = 174 := hF.2 (168, 5, 174) (List.mem_of_getElem? (i := 517) (by decide +kernel))
theorem F_175_2 {S : SS} (hF : Fx S) : S.1 175 2 = 176 := hF.2 (175, 2, 176) (List.mem_of_getElem? (i := 532) (by decide +kernel))
theorem F_175_3 {S : SS} (hF : Fx S) : S.1 175 3 = 177 := hF.2 (175, 3, 177) (List.mem_of_getElem? (i := 533) (by decide +kernel))
theorem F_178_2 {S : SS} (hF : Fx S) : S.1 178 2 = 179 := hF.2 (178, 2, 179) (List.mem_of_getElem? (i := 540) (by decide +kernel))
theorem F_178_3 {S : SS} (hF : Fx S) : S.1 178 3 = 180 := hF.2 (178, 3, 180) (List.mem_of_getElem? (i := 541) (by decide +kernel))
theorem F_181_2 {S : SS} (hF : Fx S) : S.1 181 2 = 182 := hF.2 (181, 2, 182) (List.mem_of_getElem? (i := 548) (by decide +kernel))
theorem F_181_3 {S : SS} (hF : Fx S) : S.1 181 3 = 183 := hF.2 (181, 3, 183) (List.mem_of_getElem? (i := 549) (by decide +kernel))
theorem F_184_2 {S : SS} (hF : Fx S) : S.1 184 2 = 185 := hF.2 (184, 2, 185) (List.mem_of_getElem? (i := 556) (by decide +kernel))
theorem F_184_3 {S : SS} (hF : Fx S) : S.1 184 3 = 186 := hF.2 (184, 3, 186) (List.mem_of_getElem? (i := 557) (by decide +kernel))
theorem F_187_2 {S : SS} (hF : Fx S) : S.1 187 2 = 188 := hF.2 (187, 2, 188) (List.mem_of_getElem? (i := 564) (by decide +kernel))
theorem F_187_3 {S : SS} (hF : Fx S) : S.1 187 3 = 189 := hF.2 (187, 3, 189) (List.mem_of_getElem? (i := 565) (by decide +kernel))
theorem F_190_2 {S : SS} (hF : Fx S) : S.1 190 2 = 191 := hF.2 (190, 2, 191) (List.mem_of_getElem? (i := 572) (by decide +kernel))
theorem F_190_3 {S : SS} (hF : Fx S) : S.1 190 3 = 192 := hF.2 (190, 3, 192) (List.mem_of_getElem? (i := 573) (by decide +kernel))
theorem ww_m5 : ww (-5) = (-5) := by decide
theorem ww_n64 : ww 64 = 64 := by decide
theorem ww_n99 : ww 99 = 99 := by decide
theorem ww_n127 : ww 127 = 127 := by decide
theorem ww_n1000000 : ww 1000000 = 1000000 := by decide
theorem cl_0 : 0 < 20 ∧ clX[0]? = some (RX0, TX0, 4) := ⟨by decide, rfl⟩
theorem uin_0 : ∀ w ∈ u_ws RX0 TX0 4, w ∈ lwb := uin_of [449, 450, 451, 452] (by decide +kernel) (by decide +kernel)
theorem cl_1 : 1 < 20 ∧ clX[1]? = some (RX1, TX1, 4) := ⟨by decide, rfl⟩
theorem uin_1 : ∀ w ∈ u_ws RX1 TX1 4, w ∈ lwb := uin_of [438, 439, 440, 441] (by decide +kernel) (by decide +kernel)
theorem cl_2 : 2 < 20 ∧ clX[2]? = some (RX2, TX2, 4) := ⟨by decide, rfl⟩
theorem uin_2 : ∀ w ∈ u_ws RX2 TX2 4, w ∈ lwb := uin_of [468, 469, 470, 471] (by decide +kernel) (by decide +kernel)
theorem cl_3 : 3 < 20 ∧ clX[3]? = some (RX3, TX3, 4) := ⟨by decide, rfl⟩
theorem uin_3 : ∀ w ∈ u_ws RX3 TX3 4, w ∈ lwb := uin_of [416, 417, 418, 419] (by decide +kernel) (by decide +kernel)
theorem cl_4 : 4 < 20 ∧ clX[4]? = some (RX4, TX4, 4) := ⟨by decide, rfl⟩
theorem uin_4 : ∀ w ∈ u_ws RX4 TX4 4, w ∈ lwb := uin_of [427, 428, 429, 430] (by decide +kernel) (by decide +kernel)
theorem cl_5 : 5 < 20 ∧ clX[5]? = some (RX5, TX5, 5) := ⟨by decide, rfl⟩
theorem uin_5 : ∀ w ∈ u_ws RX5 TX5 5, w ∈ lwb := uin_of [298, 300, 302, 304, 306] (by decide +kernel) (by decide +kernel)
theorem cl_6 : 6 < 20 ∧ clX[6]? = some (RX6, TX6, 4) := ⟨by decide, rfl⟩
theorem uin_6 : ∀ w ∈ u_ws RX6 TX6 4, w ∈ lwb := uin_of [244, 246, 248, 250] (by decide +kernel) (by decide +kernel)
theorem cl_7 : 7 < 20 ∧ clX[7]? = some (RX7, TX7, 2) := ⟨by decide, rfl⟩
theorem uin_7 : ∀ w ∈ u_ws RX7 TX7 2, w ∈ lwb := uin_of [153, 155] (by decide +kernel) (by decide +kernel)
theorem cl_8 : 8 < 20 ∧ clX[8]? = some (RX8, TX8, 4) := ⟨by decide, rfl⟩
theorem uin_8 : ∀ w ∈ u_ws RX8 TX8 4, w ∈ lwb := uin_of [460, 461, 462, 463] (by decide +kernel) (by decide +kernel)
theorem cl_9 : 9 < 20 ∧ clX[9]? = some (RX9, TX9, 4) := ⟨by decide, rfl⟩
theorem uin_9 : ∀ w ∈ u_ws RX9 TX9 4, w ∈ lwb := uin_of [401, 403, 405, 407] (by decide +kernel) (by decide +kernel)
theorem cl_10 : 10 < 20 ∧ clX[10]? = some (RX10, TX10, 13) := ⟨by decide, rfl⟩
theorem uin_10 : ∀ w ∈ u_ws RX10 TX10 13, w ∈ lwb := uin_of [204, 206, 208, 210, 212, 214, 216, 218, 220, 222, 224, 226, 228] (by decide +kernel) (by decide +kernel)
theorem cl_11 : 11 < 20 ∧ clX[11]? = some (RX11, TX11, 13) := ⟨by decide, rfl⟩
theorem uin_11 : ∀ w ∈ u_ws RX11 TX11 13, w ∈ lwb := uin_of [324, 326, 328, 330, 332, 334, 336, 338, 340, 342, 344, 346, 348] (by decide +kernel) (by decide +kernel)
theorem cl_13 : 13 < 20 ∧ clX[13]? = some (RJx4a65c, TJx4a65c, 3) := ⟨by decide, rfl⟩
theorem fb_5_0 : FB 5 0 5 RX5 TX5 false := ⟨by decide, rfl, uin_5, by decide, by decide +kernel⟩
theorem fb_5_1 : FB 5 1 5 RX5 TX5 false := ⟨by decide, rfl, uin_5, by decide, by decide +kernel⟩
theorem fb_5_2 : FB 5 2 5 RX5 TX5 true := ⟨by decide, rfl, uin_5, by decide, by decide +kernel⟩
theorem fb_5_3 : FB 5 3 5 RX5 TX5 true := ⟨by decide, rfl, uin_5, by decide, by decide +kernel⟩
theorem fb_5_4 : FB 5 4 5 RX5 TX5 false := ⟨by decide, rfl, uin_5, by decide, by decide +kernel⟩
theorem fb_6_0 : FB 6 0 4 RX6 TX6 true := ⟨by decide, rfl, uin_6, by decide, by decide +kernel⟩
theorem fb_6_1 : FB 6 1 4 RX6 TX6 false := ⟨by decide, rfl, uin_6, by decide, by decide +kernel⟩
theorem fb_7_0 : FB 7 0 2 RX7 TX7 true := ⟨by decide, rfl, uin_7, by decide, by decide +kernel⟩
theorem fb_7_1 : FB 7 1 2 RX7 TX7 false := ⟨by decide, rfl, uin_7, by decide, by decide +kernel⟩
theorem fb_10_0 : FB 10 0 13 RX10 TX10 true := ⟨by decide, rfl, uin_10, by decide, by decide +kernel⟩
theorem fb_10_1 : FB 10 1 13 RX10 TX10 true := ⟨by decide, rfl, uin_10, by decide, by decide +kernel⟩
theorem fb_10_2 : FB 10 2 13 RX10 TX10 true := ⟨by decide, rfl, uin_10, by decide, by decide +kernel⟩
theorem fb_10_3 : FB 10 3 13 RX10 TX10 true := ⟨by decide, rfl, uin_10, by decide, by decide +kernel⟩
theorem fb_10_4 : FB 10 4 13 RX10 TX10 false := ⟨by decide, rfl, uin_10, by decide, by decide +kernel⟩
theorem fb_10_5 : FB 10 5 13 RX10 TX10 true := ⟨by decide, rfl, uin_10, by decide, by decide +kernel⟩
theorem fb_10_6 : FB 10 6 13 RX10 TX10 true := ⟨by decide, rfl, uin_10, by decide, by decide +kernel⟩
theorem fb_10_7 : FB 10 7 13 RX10 TX10 false := ⟨by decide, rfl, uin_10, by decide, by decide +kernel⟩
theorem fb_10_8 : FB 10 8 13 RX10 TX10 true := ⟨by decide, rfl, uin_10, by decide, by decide +kernel⟩
theorem fb_10_9 : FB 10 9 13 RX10 TX10 true := ⟨by decide, rfl, uin_10, by decide, by decide +kernel⟩
theorem fb_10_10 : FB 10 10 13 RX10 TX10 true := ⟨by decide, rfl, uin_10, by decide, by decide +kernel⟩
theorem fb_10_11 : FB 10 11 13 RX10 TX10 true := ⟨by decide, rfl, uin_10, by decide, by decide +kernel⟩
theorem fb_10_12 : FB 10 12 13 RX10 TX10 true := ⟨by decide, rfl, uin_10, by decide, by decide +kernel⟩
theorem fb_11_0 : FB 11 0 13 RX11 TX11 true := ⟨by decide, rfl, uin_11, by decide, by decide +kernel⟩
theorem fb_11_1 : FB 11 1 13 RX11 TX11 true := ⟨by decide, rfl, uin_11, by decide, by decide +kernel⟩
theorem fb_11_2 : FB 11 2 13 RX11 TX11 true := ⟨by decide, rfl, uin_11, by decide, by decide +kernel⟩
theorem fb_11_3 : FB 11 3 13 RX11 TX11 false := ⟨by decide, rfl, uin_11, by decide, by decide +kernel⟩
theorem fb_11_4 : FB 11 4 13 RX11 TX11 true := ⟨by decide, rfl, uin_11, by decide, by decide +kernel⟩
theorem fb_11_8 : FB 11 8 13 RX11 TX11 true := ⟨by decide, rfl, uin_11, by decide, by decide +kernel⟩
theorem fb_11_9 : FB 11 9 13 RX11 TX11 true := ⟨by decide, rfl, uin_11, by decide, by decide +kernel⟩
theorem fb_11_10 : FB 11 10 13 RX11 TX11 true := ⟨by decide, rfl, uin_11, by decide, by decide +kernel⟩
theorem fb_11_11 : FB 11 11 13 RX11 TX11 true := ⟨by decide, rfl, uin_11, by decide, by decide +kernel⟩
theorem fb_11_12 : FB 11 12 13 RX11 TX11 true := ⟨by decide, rfl, uin_11, by decide, by decide +kernel⟩
theorem fp_5_0 : FP 5 0 TX5 tyX5 .int := ⟨tyX5_ok, nmX5, by decide +kernel⟩
theorem fp_5_1 : FP 5 1 TX5 tyX5 .int := ⟨tyX5_ok, nmX5, by decide +kernel⟩
theorem fp_5_4 : FP 5 4 TX5 tyX5 .int := ⟨tyX5_ok, nmX5, by decide +kernel⟩
theorem fp_6_1 : FP 4 1 TX6 tyX6 .int := ⟨tyX6_ok, nmX6, by decide +kernel⟩
theorem fp_7_1 : FP 2 1 TX7 tyX7 .int := ⟨tyX7_ok, nmX7, by decide +kernel⟩
theorem fp_10_4 : FP 13 4 TX10 tyX10 .int := ⟨tyX10_ok, nmX10, by decide +kernel⟩
theorem fp_10_7 : FP 13 7 TX10 tyX10 .int := ⟨tyX10_ok, nmX10, by decide +kernel⟩
theorem fp_11_3 : FP 13 3 TX11 tyX11 .boolean := ⟨tyX11_ok, nmX11, by decide +kernel⟩
theorem wv_RX10_68 : WV RX10 68 RX10 yX10_goFrom cX10_goFrom 3 (Option.none : Option Jvm.ClassFile.FieldType) 1 := ⟨lwb_callV wd_927 wd_544 wd_545 wd_96 wd_546, rfl, by decide, by decide, by decide +kernel⟩
theorem wv_RX10_72 : WV RX10 72 RX7 yX7_become cX7_become 3 (Option.none : Option Jvm.ClassFile.FieldType) 1 := ⟨lwb_callV wd_928 wd_929 wd_930 wd_97 wd_931, rfl, by decide, by decide, by decide +kernel⟩
theorem wv_RX10_93 : WV RX10 93 RX10 yX10_treeOf cX10_treeOf 3 (some Jvm.ClassFile.FieldType.int) 1 := ⟨lwb_callV wd_582 wd_489 wd_490 wd_96 wd_491, rfl, by decide, by decide, by decide +kernel⟩
theorem wv_RX10_111 : WV RX10 111 RX5 yX5_warmth cX5_warmth 6 (some Jvm.ClassFile.FieldType.int) 1 := ⟨lwb_callV wd_503 wd_504 wd_505 wd_104 wd_506, rfl, by decide, by decide, by decide +kernel⟩
theorem wv_RX10_119 : WV RX10 119 RX10 yX10_force cX10_force 5 (some Jvm.ClassFile.FieldType.int) 2 := ⟨lwb_callV wd_558 wd_500 wd_501 wd_96 wd_502, rfl, by decide, by decide, by decide +kernel⟩
theorem wv_RX10_122 : WV RX10 122 RX10 yX10_need cX10_need 1 (some Jvm.ClassFile.FieldType.int) 0 := ⟨lwb_callV wd_559 wd_560 wd_561 wd_96 wd_562, rfl, by decide, by decide, by decide +kernel⟩
theorem wv_RX10_124 : WV RX10 124 RX10 yX10_has cX10_has 2 (some Jvm.ClassFile.FieldType.boolean) 1 := ⟨lwb_callV wd_766 wd_482 wd_483 wd_96 wd_484, rfl, by decide, by decide, by decide +kernel⟩
theorem wv_RX10_128 : WV RX10 128 RX10 yX10_bears cX10_bears 3 (some Jvm.ClassFile.FieldType.boolean) 2 := ⟨lwb_callV wd_554 wd_555 wd_556 wd_96 wd_557, rfl, by decide, by decide, by decide +kernel⟩
theorem wv_RX10_132 : WV RX10 132 RX10 yX10_goAt cX10_goAt 3 (some Jvm.ClassFile.FieldType.boolean) 2 := ⟨lwb_callV wd_811 wd_551 wd_552 wd_96 wd_553, rfl, by decide, by decide, by decide +kernel⟩
theorem wv_RX10_135 : WV RX10 135 RX10 yX10_wear cX10_wear 1 (some Jvm.ClassFile.FieldType.int) 0 := ⟨lwb_callV wd_563 wd_564 wd_565 wd_96 wd_566, rfl, by decide, by decide, by decide +kernel⟩
theorem wv_RX10_142 : WV RX10 142 RX10 yX10_giveLeader cX10_giveLeader 4 (Option.none : Option Jvm.ClassFile.FieldType) 2 := ⟨lwb_callV wd_894 wd_579 wd_580 wd_96 wd_581, rfl, by decide, by decide, by decide +kernel⟩
theorem wv_RX10_146 : WV RX10 146 RX10 yX10_goYears cX10_goYears 4 (Option.none : Option Jvm.ClassFile.FieldType) 1 := ⟨lwb_callV wd_895 wd_808 wd_809 wd_96 wd_810, rfl, by decide, by decide, by decide +kernel⟩
theorem wv_RX11_87 : WV RX11 87 RX10 yX10_has cX10_has 2 (some Jvm.ClassFile.FieldType.boolean) 1 := ⟨lwb_callV wd_481 wd_482 wd_483 wd_96 wd_484, rfl, by decide, by decide, by decide +kernel⟩
theorem wv_RX11_110 : WV RX11 110 RX10 yX10_treeOf cX10_treeOf 3 (some Jvm.ClassFile.FieldType.int) 1 := ⟨lwb_callV wd_488 wd_489 wd_490 wd_96 wd_491, rfl, by decide, by decide, by decide +kernel⟩
theorem wv_RX11_114 : WV RX11 114 RX11 yX11_ofTree cX11_ofTree 4 (some Jvm.ClassFile.FieldType.int) 3 := ⟨lwb_callV wd_492 wd_494 wd_1 wd_95 wd_495, rfl, by decide, by decide, by decide +kernel⟩
theorem wv_RX11_124 : WV RX11 124 RX10 yX10_force cX10_force 5 (some Jvm.ClassFile.FieldType.int) 2 := ⟨lwb_callV wd_499 wd_500 wd_501 wd_96 wd_502, rfl, by decide, by decide, by decide +kernel⟩
theorem wv_RX11_128 : WV RX11 128 RX11 yX11_lasts cX11_lasts 4 (some Jvm.ClassFile.FieldType.int) 2 := ⟨lwb_callV wd_539 wd_541 wd_2 wd_95 wd_542, rfl, by decide, by decide, by decide +kernel⟩
theorem wv_RX11_134 : WV RX11 134 RX10 yX10_giveLeader cX10_giveLeader 4 (Option.none : Option Jvm.ClassFile.FieldType) 2 := ⟨lwb_callV wd_578 wd_579 wd_580 wd_96 wd_581, rfl, by decide, by decide, by decide +kernel⟩
theorem wv_RX11_143 : WV RX11 143 RX6 yX6_append cX6_append 2 (some Jvm.ClassFile.FieldType.int) 1 := ⟨lwb_callV wd_595 wd_596 wd_597 wd_100 wd_598, rfl, by decide, by decide, by decide +kernel⟩
theorem wv_RX11_166 : WV RX11 166 RX10 yX10_need cX10_need 1 (some Jvm.ClassFile.FieldType.int) 0 := ⟨lwb_callV wd_760 wd_560 wd_561 wd_96 wd_562, rfl, by decide, by decide, by decide +kernel⟩
theorem wv_RX11_170 : WV RX11 170 RX10 yX10_wear cX10_wear 1 (some Jvm.ClassFile.FieldType.int) 0 := ⟨lwb_callV wd_761 wd_564 wd_565 wd_96 wd_566, rfl, by decide, by decide, by decide +kernel⟩
theorem wv_RX11_173 : WV RX11 173 RX10 yX10_bearing cX10_bearing 3 (some Jvm.ClassFile.FieldType.int) 0 := ⟨lwb_callV wd_762 wd_763 wd_764 wd_96 wd_765, rfl, by decide, by decide, by decide +kernel⟩
theorem wv_RX11_176 : WV RX11 176 RX10 yX10_allBore cX10_allBore 3 (some Jvm.ClassFile.FieldType.int) 0 := ⟨lwb_callV wd_767 wd_768 wd_769 wd_96 wd_770, rfl, by decide, by decide, by decide +kernel⟩
theorem wv_RX11_179 : WV RX11 179 RX11 yX11_worst cX11_worst 5 (some Jvm.ClassFile.FieldType.int) 0 := ⟨lwb_callV wd_771 wd_773 wd_12 wd_95 wd_774, rfl, by decide, by decide, by decide +kernel⟩
theorem wv_RX11_182 : WV RX11 182 RX11 yX11_bearingWithout cX11_bearingWithout 2 (some Jvm.ClassFile.FieldType.int) 1 := ⟨lwb_callV wd_780 wd_782 wd_14 wd_95 wd_783, rfl, by decide, by decide, by decide +kernel⟩
theorem wv_RX11_185 : WV RX11 185 RX11 yX11_toldOfTree cX11_toldOfTree 3 (some Jvm.ClassFile.FieldType.int) 2 := ⟨lwb_callV wd_796 wd_798 wd_16 wd_95 wd_799, rfl, by decide, by decide, by decide +kernel⟩
theorem wv_RX11_194 : WV RX11 194 RX10 yX10_goYears cX10_goYears 4 (Option.none : Option Jvm.ClassFile.FieldType) 1 := ⟨lwb_callV wd_807 wd_808 wd_809 wd_96 wd_810, rfl, by decide, by decide, by decide +kernel⟩
theorem wv_RX11_198 : WV RX11 198 RX10 yX10_goFrom cX10_goFrom 3 (Option.none : Option Jvm.ClassFile.FieldType) 1 := ⟨lwb_callV wd_543 wd_544 wd_545 wd_96 wd_546, rfl, by decide, by decide, by decide +kernel⟩
theorem wv_RX11_202 : WV RX11 202 RX10 yX10_goAt cX10_goAt 3 (some Jvm.ClassFile.FieldType.boolean) 2 := ⟨lwb_callV wd_550 wd_551 wd_552 wd_96 wd_553, rfl, by decide, by decide, by decide +kernel⟩
theorem wv_RX11_206 : WV RX11 206 RX11 yX11_weigh cX11_weigh 5 (Option.none : Option Jvm.ClassFile.FieldType) 0 := ⟨lwb_callV wd_775 wd_777 wd_13 wd_95 wd_778, rfl, by decide, by decide, by decide +kernel⟩
theorem wv_RX11_209 : WV RX11 209 RX10 yX10_present cX10_present 3 (some Jvm.ClassFile.FieldType.int) 0 := ⟨lwb_callV wd_784 wd_785 wd_786 wd_96 wd_787, rfl, by decide, by decide, by decide +kernel⟩
theorem wv_RX11_212 : WV RX11 212 RX11 yX11_fillBest cX11_fillBest 6 (some Jvm.ClassFile.FieldType.int) 1 := ⟨lwb_callV wd_788 wd_790 wd_15 wd_95 wd_791, rfl, by decide, by decide, by decide +kernel⟩
theorem wv_RX11_216 : WV RX11 216 RX11 yX11_ringAt cX11_ringAt 6 (some Jvm.ClassFile.FieldType.int) 2 := ⟨lwb_callV wd_820 wd_822 wd_17 wd_95 wd_823, rfl, by decide, by decide, by decide +kernel⟩
theorem wv_RX11_228 : WV RX11 228 RX11 yX11_firstOfBest cX11_firstOfBest 5 (some Jvm.ClassFile.FieldType.int) 3 := ⟨lwb_callV wd_824 wd_826 wd_18 wd_95 wd_827, rfl, by decide, by decide, by decide +kernel⟩
theorem wv_RX11_231 : WV RX11 231 RX11 yX11_firstOfTurns cX11_firstOfTurns 8 (some Jvm.ClassFile.FieldType.int) 2 := ⟨lwb_callV wd_832 wd_834 wd_19 wd_95 wd_835, rfl, by decide, by decide, by decide +kernel⟩
theorem wv_RX11_234 : WV RX11 234 RX11 yX11_bearingByTurns cX11_bearingByTurns 6 (some Jvm.ClassFile.FieldType.int) 3 := ⟨lwb_callV wd_836 wd_838 wd_20 wd_95 wd_839, rfl, by decide, by decide, by decide +kernel⟩
theorem wv_RX11_237 : WV RX11 237 RX11 yX11_turnAt cX11_turnAt 6 (some Jvm.ClassFile.FieldType.int) 3 := ⟨lwb_callV wd_840 wd_842 wd_21 wd_95 wd_843, rfl, by decide, by decide, by decide +kernel⟩
theorem wv_RX11_249 : WV RX11 249 RX7 yX7_append cX7_append 6 (some Jvm.ClassFile.FieldType.int) 4 := ⟨lwb_callV wd_848 wd_849 wd_850 wd_97 wd_851, rfl, by decide, by decide, by decide +kernel⟩
theorem wv_RX11_252 : WV RX11 252 RX11 yX11_isAsSeen cX11_isAsSeen 5 (some Jvm.ClassFile.FieldType.boolean) 2 := ⟨lwb_callV wd_856 wd_858 wd_22 wd_95 wd_859, rfl, by decide, by decide, by decide +kernel⟩
theorem wv_RX11_256 : WV RX11 256 RX10 yX10_bears cX10_bears 3 (some Jvm.ClassFile.FieldType.boolean) 2 := ⟨lwb_callV wd_860 wd_555 wd_556 wd_96 wd_557, rfl, by decide, by decide, by decide +kernel⟩
theorem wv_RX11_261 : WV RX11 261 RX11 yX11_ofAll cX11_ofAll 5 (some Jvm.ClassFile.FieldType.long) 2 := ⟨lwb_callV wd_870 wd_872 wd_23 wd_95 wd_873, rfl, by decide, by decide, by decide +kernel⟩
theorem wv_RX11_268 : WV RX11 268 RX11 yX11_canPlan cX11_canPlan 3 (some Jvm.ClassFile.FieldType.boolean) 2 := ⟨lwb_callV wd_882 wd_884 wd_24 wd_95 wd_885, rfl, by decide, by decide, by decide +kernel⟩
theorem wv_RX11_271 : WV RX11 271 RX10 yX10_goPlanned cX10_goPlanned 3 (Option.none : Option Jvm.ClassFile.FieldType) 2 := ⟨lwb_callV wd_890 wd_891 wd_892 wd_96 wd_893, rfl, by decide, by decide, by decide +kernel⟩
theorem wv_RX11_274 : WV RX11 274 RX10 yX10_allHate cX10_allHate 4 (some Jvm.ClassFile.FieldType.int) 0 := ⟨lwb_callV wd_896 wd_897 wd_898 wd_96 wd_899, rfl, by decide, by decide, by decide +kernel⟩
theorem wv_RX11_283 : WV RX11 283 RX11 yX11_hasItem cX11_hasItem 3 (some Jvm.ClassFile.FieldType.boolean) 2 := ⟨lwb_callV wd_915 wd_917 wd_25 wd_95 wd_918, rfl, by decide, by decide, by decide +kernel⟩
theorem wv_RX11_286 : WV RX11 286 RX10 yX10_become cX10_become 2 (Option.none : Option Jvm.ClassFile.FieldType) 1 := ⟨lwb_callV wd_923 wd_924 wd_925 wd_96 wd_926, rfl, by decide, by decide, by decide +kernel⟩
theorem wv_RX11_338 : WV RX11 338 RX11 yX11_hasItems cX11_hasItems 4 (some Jvm.ClassFile.FieldType.boolean) 3 := ⟨lwb_callV wd_1160 wd_1162 wd_29 wd_95 wd_1163, rfl, by decide, by decide, by decide +kernel⟩
theorem ws_RX10_62 : WS RX10 62 yJ7_fill_53178 cJ7_fill_53178 4 (Option.none : Option Jvm.ClassFile.FieldType) 2 := ⟨lwb_callS wd_171 wd_172 wd_99 wd_173, by decide, by decide, by decide +kernel⟩
theorem ws_RX11_71 : WS RX11 71 yX11_isHate cX11_isHate 1 (some Jvm.ClassFile.FieldType.boolean) 1 := ⟨lwb_callS wd_355 wd_356 wd_95 wd_357, by decide, by decide, by decide +kernel⟩
theorem ws_RX11_106 : WS RX11 106 yX11_bit cX11_bit 1 (some Jvm.ClassFile.FieldType.int) 1 := ⟨lwb_callS wd_485 wd_486 wd_95 wd_487, by decide, by decide, by decide +kernel⟩
theorem ws_RX11_118 : WS RX11 118 yX11_isTree cX11_isTree 1 (some Jvm.ClassFile.FieldType.boolean) 1 := ⟨lwb_callS wd_496 wd_497 wd_95 wd_498, by decide, by decide, by decide +kernel⟩
theorem ws_RX11_191 : WS RX11 191 yX11_isYears cX11_isYears 1 (some Jvm.ClassFile.FieldType.boolean) 1 := ⟨lwb_callS wd_804 wd_805 wd_95 wd_806, by decide, by decide, by decide +kernel⟩
theorem ws_RX11_219 : WS RX11 219 yX11_isFree cX11_isFree 3 (some Jvm.ClassFile.FieldType.boolean) 3 := ⟨lwb_callS wd_792 wd_793 wd_95 wd_794, by decide, by decide, by decide +kernel⟩
theorem ws_RX11_280 : WS RX11 280 yX11_isTape cX11_isTape 1 (some Jvm.ClassFile.FieldType.boolean) 1 := ⟨lwb_callS wd_912 wd_913 wd_95 wd_914, by decide, by decide, by decide +kernel⟩
theorem ws_RX11_317 : WS RX11 317 yX11_isOfKind cX11_isOfKind 2 (some Jvm.ClassFile.FieldType.boolean) 2 := ⟨lwb_callS wd_1131 wd_1132 wd_95 wd_1133, by decide, by decide, by decide +kernel⟩
theorem ws_RX11_331 : WS RX11 331 yJ7_fill_d0a16 cJ7_fill_d0a16 5 (Option.none : Option Jvm.ClassFile.FieldType) 2 := ⟨lwb_callS wd_1142 wd_1143 wd_99 wd_1144, by decide, by decide, by decide +kernel⟩
theorem ws_RX11_334 : WS RX11 334 yX11_asItem cX11_asItem 3 (some Jvm.ClassFile.FieldType.long) 2 := ⟨lwb_callS wd_1149 wd_1150 wd_95 wd_1151, by decide, by decide, by decide +kernel⟩
theorem ws_RX5_28 : WS RX5 28 yX5_passes cX5_passes 4 (some Jvm.ClassFile.FieldType.boolean) 3 := ⟨lwb_callS wd_507 wd_508 wd_104 wd_509, by decide, by decide, by decide +kernel⟩
theorem wt_cast_0_2 : Cond.castable RX0 RX2 ∈ lw_tbl := in_t8 (List.mem_of_getElem? (i := 48) (by decide +kernel))
theorem wt_cast_0_3 : Cond.castable RX0 RX3 ∈ lw_tbl := in_t8 (List.mem_of_getElem? (i := 26) (by decide +kernel))
theorem wt_cast_1_2 : Cond.castable RX1 RX2 ∈ lw_tbl := in_t8 (List.mem_of_getElem? (i := 47) (by decide +kernel))
theorem wt_cast_1_9 : Cond.castable RX1 RX9 ∈ lw_tbl := in_t8 (List.mem_of_getElem? (i := 25) (by decide +kernel))
theorem wt_cast_3_2 : Cond.castable RX3 RX2 ∈ lw_tbl := in_t8 (List.mem_of_getElem? (i := 45) (by decide +kernel))
theorem wt_cast_4_2 : Cond.castable RX4 RX2 ∈ lw_tbl := in_t8 (List.mem_of_getElem? (i := 46) (by decide +kernel))
theorem wt_cast_8_2 : Cond.castable RX8 RX2 ∈ lw_tbl := in_t8 (List.mem_of_getElem? (i := 49) (by decide +kernel))
theorem wt_cast_8_4 : Cond.castable RX8 RX4 ∈ lw_tbl := in_t8 (List.mem_of_getElem? (i := 27) (by decide +kernel))
theorem wt_cast_9_2 : Cond.castable RX9 RX2 ∈ lw_tbl := in_t8 (List.mem_of_getElem? (i := 44) (by decide +kernel))
theorem wt_234 : (Jvm.Cond.methodLinkNest "WassailEnemies" (26 : Nat) ({ cls := "WassailEnemies$Reader", name := "<init>", desc := "()V" } : Jvm.MethodName) "WassailEnemies") ∈ lw_tbl := in_t1 (List.mem_of_getElem? (i := 140) (by decide +kernel))
theorem wt_285 : (Jvm.Cond.methodLinkNest "WassailEnemies" (64 : Nat) ({ cls := "WassailEnemies$Orchard", name := "<init>", desc := "()V" } : Jvm.MethodName) "WassailEnemies") ∈ lw_tbl := in_t1 (List.mem_of_getElem? (i := 191) (by decide +kernel))
theorem wt_512 : (Jvm.Cond.methodLinkNest "WassailEnemies$Orchard" (32 : Nat) ({ cls := "WassailEnemies", name := "bit", desc := "(Z)I" } : Jvm.MethodName) "WassailEnemies") ∈ lw_tbl := in_t2 (List.mem_of_getElem? (i := 178) (by decide +kernel))
