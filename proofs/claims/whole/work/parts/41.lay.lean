def am_Kl : List (Nat × am_K) := [(1, .inl 11), (2, .inr (4, 10)), (3, .inl 11), (4, .inr (4, 4)), (5, .inl 11), (6, .inr (4, 3)), (7, .inl 11), (8, .inr (4, 5)), (9, .inl 11), (10, .inr (4, 4)), (11, .inl 0), (12, .inl 3), (13, .inl 8), (14, .inr (0, 1200)), (15, .inr (0, 1201)), (16, .inr (0, 1201)), (17, .inr (0, 1201)), (18, .inr (2, 1201)), (19, .inl 7), (20, .inr (0, 60)), (21, .inr (0, 60)), (22, .inr (0, 60)), (23, .inr (0, 60)), (24, .inr (2, 60)), (25, .inr (0, 60)), (26, .inr (0, 60)), (27, .inr (0, 60)), (28, .inr (0, 60)), (29, .inl 9), (30, .inr (0, 60)), (31, .inl 6), (32, .inl 4), (33, .inr (0, 1200)), (34, .inl 2), (35, .inr (0, 60)), (36, .inr (0, 60)), (37, .inr (0, 60)), (38, .inr (0, 13)), (39, .inr (0, 720)), (40, .inr (0, 60)), (41, .inl 5), (42, .inl 10), (43, .inr (1, 6)), (44, .inr (0, 6)), (45, .inr (0, 6)), (46, .inr (0, 36)), (47, .inr (0, 36)), (48, .inr (2, 36)), (49, .inr (0, 108)), (50, .inr (0, 6)), (51, .inr (0, 6)), (52, .inr (0, 36)), (53, .inr (0, 108)), (54, .inr (0, 108)), (55, .inr (0, 26)), (56, .inl 7), (57, .inr (0, 60)), (58, .inr (0, 60)), (59, .inr (0, 60)), (60, .inr (0, 60)), (61, .inr (2, 60)), (62, .inr (0, 60)), (63, .inr (0, 60)), (64, .inr (0, 60)), (65, .inr (0, 60)), (66, .inr (0, 12)), (67, .inr (0, 4)), (68, .inr (0, 4)), (69, .inr (0, 4)), (70, .inr (0, 12)), (71, .inl 5), (72, .inl 10), (73, .inr (1, 6)), (74, .inr (0, 6)), (75, .inr (0, 6)), (76, .inr (0, 36)), (77, .inr (0, 36)), (78, .inr (2, 36)), (79, .inr (0, 108)), (80, .inr (0, 6)), (81, .inr (0, 6)), (82, .inr (0, 36)), (83, .inr (0, 108)), (84, .inr (0, 108)), (85, .inr (0, 26)), (86, .inl 7), (87, .inr (0, 60)), (88, .inr (0, 60)), (89, .inr (0, 60)), (90, .inr (0, 60)), (91, .inr (2, 60)), (92, .inr (0, 60)), (93, .inr (0, 60)), (94, .inr (0, 60)), (95, .inr (0, 60)), (96, .inr (0, 12)), (97, .inr (0, 4)), (98, .inr (0, 4)), (99, .inr (0, 4)), (100, .inr (0, 12)), (101, .inl 1), (102, .inr (4, 1200)), (103, .inr (0, 1201)), (104, .inr (0, 1201)), (105, .inr (2, 1201)), (106, .inr (0, 64)), (107, .inr (0, 52)), (108, .inr (0, 2)), (109, .inr (0, 2)), (110, .inr (2, 72)), (111, .inr (0, 72)), (112, .inr (0, 72)), (113, .inr (0, 216)), (114, .inr (0, 2)), (115, .inr (0, 8)), (116, .inr (0, 2)), (117, .inr (0, 2)), (118, .inr (1, 24)), (119, .inr (0, 24)), (120, .inr (0, 3600)), (121, .inr (0, 3600)), (122, .inr (0, 8)), (123, .inr (0, 8)), (124, .inr (0, 8)), (125, .inr (0, 65536)), (126, .inr (1, 65536)), (127, .inr (0, 400)), (128, .inr (0, 65536)), (129, .inr (0, 12)), (130, .inr (0, 200)), (131, .inr (0, 200)), (132, .inr (0, 200)), (133, .inr (1, 200)), (134, .inr (1, 200)), (135, .inr (4, 3000)), (136, .inr (0, 400)), (137, .inr (0, 400))]
def am_Rl : List (Nat × Nat × Nat) := [(11, 0, 12), (11, 1, 19), (11, 2, 29), (11, 3, 31), (12, 0, 13), (13, 0, 14), (13, 2, 15), (13, 3, 16), (13, 4, 17), (13, 5, 18), (19, 2, 20), (19, 3, 21), (19, 4, 22), (19, 5, 23), (19, 6, 24), (19, 7, 25), (19, 8, 26), (19, 9, 27), (19, 10, 28), (29, 1, 30), (31, 0, 32), (31, 1, 34), (31, 2, 40), (32, 1, 33), (34, 2, 35), (34, 3, 36), (34, 4, 37), (34, 5, 38), (34, 6, 39), (41, 0, 42), (41, 1, 56), (41, 5, 66), (41, 6, 67), (41, 7, 68), (41, 8, 69), (41, 9, 70), (42, 2, 43), (42, 3, 44), (42, 4, 45), (42, 5, 46), (42, 6, 47), (42, 7, 48), (42, 8, 49), (42, 9, 50), (42, 10, 51), (42, 11, 52), (42, 12, 53), (42, 13, 54), (42, 14, 55), (56, 2, 57), (56, 3, 58), (56, 4, 59), (56, 5, 60), (56, 6, 61), (56, 7, 62), (56, 8, 63), (56, 9, 64), (56, 10, 65), (71, 0, 72), (71, 1, 86), (71, 5, 96), (71, 6, 97), (71, 7, 98), (71, 8, 99), (71, 9, 100), (72, 2, 73), (72, 3, 74), (72, 4, 75), (72, 5, 76), (72, 6, 77), (72, 7, 78), (72, 8, 79), (72, 9, 80), (72, 10, 81), (72, 11, 82), (72, 12, 83), (72, 13, 84), (72, 14, 85), (86, 2, 87), (86, 3, 88), (86, 4, 89), (86, 5, 90), (86, 6, 91), (86, 7, 92), (86, 8, 93), (86, 9, 94), (86, 10, 95), (101, 0, 102), (101, 4, 103), (101, 5, 104), (101, 6, 105), (101, 12, 106), (101, 15, 107), (101, 16, 108), (101, 17, 109), (101, 18, 110), (101, 19, 111), (101, 20, 112), (101, 21, 113), (101, 22, 114), (101, 23, 115), (101, 24, 116), (101, 25, 117), (101, 26, 118), (101, 27, 119), (101, 28, 120), (101, 29, 121), (101, 30, 122), (101, 31, 123), (101, 32, 124), (101, 38, 125), (101, 39, 126), (101, 41, 127), (101, 42, 128), (101, 44, 129), (101, 45, 130), (101, 46, 131), (101, 48, 132), (101, 51, 133), (101, 52, 134), (101, 53, 135), (101, 55, 136), (101, 56, 137), (1, 0, 2), (3, 0, 4), (5, 0, 6), (7, 0, 8), (9, 0, 10)]
/-- the layout: kinds and references that never change once the objects are made -/
def am_B (K : Nat → am_K) (R : Nat → Nat → Option Nat) : Prop := (∀ q ∈ am_Kl, K q.1 = q.2) ∧ ∀ q ∈ am_Rl, R q.1 q.2.1 = some q.2.2
theorem k_1 {K : Nat → am_K} {R : Nat → Nat → Option Nat} (h : am_B K R) : K 1 = .inl 11 := h.1 _ (List.mem_of_getElem? (i := 0) rfl)
theorem k_2 {K : Nat → am_K} {R : Nat → Nat → Option Nat} (h : am_B K R) : K 2 = .inr (4, 10) := h.1 _ (List.mem_of_getElem? (i := 1) rfl)
theorem k_3 {K : Nat → am_K} {R : Nat → Nat → Option Nat} (h : am_B K R) : K 3 = .inl 11 := h.1 _ (List.mem_of_getElem? (i := 2) rfl)
theorem k_4 {K : Nat → am_K} {R : Nat → Nat → Option Nat} (h : am_B K R) : K 4 = .inr (4, 4) := h.1 _ (List.mem_of_getElem? (i := 3) rfl)
theorem k_5 {K : Nat → am_K} {R : Nat → Nat → Option Nat} (h : am_B K R) : K 5 = .inl 11 := h.1 _ (List.mem_of_getElem? (i := 4) rfl)
theorem k_6 {K : Nat → am_K} {R : Nat → Nat → Option Nat} (h : am_B K R) : K 6 = .inr (4, 3) := h.1 _ (List.mem_of_getElem? (i := 5) rfl)
theorem k_7 {K : Nat → am_K} {R : Nat → Nat → Option Nat} (h : am_B K R) : K 7 = .inl 11 := h.1 _ (List.mem_of_getElem? (i := 6) rfl)
theorem k_8 {K : Nat → am_K} {R : Nat → Nat → Option Nat} (h : am_B K R) : K 8 = .inr (4, 5) := h.1 _ (List.mem_of_getElem? (i := 7) rfl)
theorem k_9 {K : Nat → am_K} {R : Nat → Nat → Option Nat} (h : am_B K R) : K 9 = .inl 11 := h.1 _ (List.mem_of_getElem? (i := 8) rfl)
theorem k_10 {K : Nat → am_K} {R : Nat → Nat → Option Nat} (h : am_B K R) : K 10 = .inr (4, 4) := h.1 _ (List.mem_of_getElem? (i := 9) rfl)
theorem k_11 {K : Nat → am_K} {R : Nat → Nat → Option Nat} (h : am_B K R) : K 11 = .inl 0 := h.1 _ (List.mem_of_getElem? (i := 10) rfl)
theorem k_12 {K : Nat → am_K} {R : Nat → Nat → Option Nat} (h : am_B K R) : K 12 = .inl 3 := h.1 _ (List.mem_of_getElem? (i := 11) rfl)
theorem k_13 {K : Nat → am_K} {R : Nat → Nat → Option Nat} (h : am_B K R) : K 13 = .inl 8 := h.1 _ (List.mem_of_getElem? (i := 12) rfl)
theorem k_14 {K : Nat → am_K} {R : Nat → Nat → Option Nat} (h : am_B K R) : K 14 = .inr (0, 1200) := h.1 _ (List.mem_of_getElem? (i := 13) rfl)
theorem k_15 {K : Nat → am_K} {R : Nat → Nat → Option Nat} (h : am_B K R) : K 15 = .inr (0, 1201) := h.1 _ (List.mem_of_getElem? (i := 14) rfl)
theorem k_16 {K : Nat → am_K} {R : Nat → Nat → Option Nat} (h : am_B K R) : K 16 = .inr (0, 1201) := h.1 _ (List.mem_of_getElem? (i := 15) rfl)
theorem k_17 {K : Nat → am_K} {R : Nat → Nat → Option Nat} (h : am_B K R) : K 17 = .inr (0, 1201) := h.1 _ (List.mem_of_getElem? (i := 16) rfl)
theorem k_18 {K : Nat → am_K} {R : Nat → Nat → Option Nat} (h : am_B K R) : K 18 = .inr (2, 1201) := h.1 _ (List.mem_of_getElem? (i := 17) rfl)
theorem k_19 {K : Nat → am_K} {R : Nat → Nat → Option Nat} (h : am_B K R) : K 19 = .inl 7 := h.1 _ (List.mem_of_getElem? (i := 18) rfl)
theorem k_20 {K : Nat → am_K} {R : Nat → Nat → Option Nat} (h : am_B K R) : K 20 = .inr (0, 60) := h.1 _ (List.mem_of_getElem? (i := 19) rfl)
theorem k_21 {K : Nat → am_K} {R : Nat → Nat → Option Nat} (h : am_B K R) : K 21 = .inr (0, 60) := h.1 _ (List.mem_of_getElem? (i := 20) rfl)
theorem k_22 {K : Nat → am_K} {R : Nat → Nat → Option Nat} (h : am_B K R) : K 22 = .inr (0, 60) := h.1 _ (List.mem_of_getElem? (i := 21) rfl)
theorem k_23 {K : Nat → am_K} {R : Nat → Nat → Option Nat} (h : am_B K R) : K 23 = .inr (0, 60) := h.1 _ (List.mem_of_getElem? (i := 22) rfl)
theorem k_24 {K : Nat → am_K} {R : Nat → Nat → Option Nat} (h : am_B K R) : K 24 = .inr (2, 60) := h.1 _ (List.mem_of_getElem? (i := 23) rfl)
theorem k_25 {K : Nat → am_K} {R : Nat → Nat → Option Nat} (h : am_B K R) : K 25 = .inr (0, 60) := h.1 _ (List.mem_of_getElem? (i := 24) rfl)
theorem k_26 {K : Nat → am_K} {R : Nat → Nat → Option Nat} (h : am_B K R) : K 26 = .inr (0, 60) := h.1 _ (List.mem_of_getElem? (i := 25) rfl)
theorem k_27 {K : Nat → am_K} {R : Nat → Nat → Option Nat} (h : am_B K R) : K 27 = .inr (0, 60) := h.1 _ (List.mem_of_getElem? (i := 26) rfl)
theorem k_28 {K : Nat → am_K} {R : Nat → Nat → Option Nat} (h : am_B K R) : K 28 = .inr (0, 60) := h.1 _ (List.mem_of_getElem? (i := 27) rfl)
theorem k_29 {K : Nat → am_K} {R : Nat → Nat → Option Nat} (h : am_B K R) : K 29 = .inl 9 := h.1 _ (List.mem_of_getElem? (i := 28) rfl)
theorem k_30 {K : Nat → am_K} {R : Nat → Nat → Option Nat} (h : am_B K R) : K 30 = .inr (0, 60) := h.1 _ (List.mem_of_getElem? (i := 29) rfl)
theorem k_31 {K : Nat → am_K} {R : Nat → Nat → Option Nat} (h : am_B K R) : K 31 = .inl 6 := h.1 _ (List.mem_of_getElem? (i := 30) rfl)
theorem k_32 {K : Nat → am_K} {R : Nat → Nat → Option Nat} (h : am_B K R) : K 32 = .inl 4 := h.1 _ (List.mem_of_getElem? (i := 31) rfl)
theorem k_33 {K : Nat → am_K} {R : Nat → Nat → Option Nat} (h : am_B K R) : K 33 = .inr (0, 1200) := h.1 _ (List.mem_of_getElem? (i := 32) rfl)
theorem k_34 {K : Nat → am_K} {R : Nat → Nat → Option Nat} (h : am_B K R) : K 34 = .inl 2 := h.1 _ (List.mem_of_getElem? (i := 33) rfl)
theorem k_35 {K : Nat → am_K} {R : Nat → Nat → Option Nat} (h : am_B K R) : K 35 = .inr (0, 60) := h.1 _ (List.mem_of_getElem? (i := 34) rfl)
theorem k_36 {K : Nat → am_K} {R : Nat → Nat → Option Nat} (h : am_B K R) : K 36 = .inr (0, 60) := h.1 _ (List.mem_of_getElem? (i := 35) rfl)
theorem k_37 {K : Nat → am_K} {R : Nat → Nat → Option Nat} (h : am_B K R) : K 37 = .inr (0, 60) := h.1 _ (List.mem_of_getElem? (i := 36) rfl)
theorem k_38 {K : Nat → am_K} {R : Nat → Nat → Option Nat} (h : am_B K R) : K 38 = .inr (0, 13) := h.1 _ (List.mem_of_getElem? (i := 37) rfl)
theorem k_39 {K : Nat → am_K} {R : Nat → Nat → Option Nat} (h : am_B K R) : K 39 = .inr (0, 720) := h.1 _ (List.mem_of_getElem? (i := 38) rfl)
theorem k_40 {K : Nat → am_K} {R : Nat → Nat → Option Nat} (h : am_B K R) : K 40 = .inr (0, 60) := h.1 _ (List.mem_of_getElem? (i := 39) rfl)
theorem k_41 {K : Nat → am_K} {R : Nat → Nat → Option Nat} (h : am_B K R) : K 41 = .inl 5 := h.1 _ (List.mem_of_getElem? (i := 40) rfl)
theorem k_42 {K : Nat → am_K} {R : Nat → Nat → Option Nat} (h : am_B K R) : K 42 = .inl 10 := h.1 _ (List.mem_of_getElem? (i := 41) rfl)
theorem k_43 {K : Nat → am_K} {R : Nat → Nat → Option Nat} (h : am_B K R) : K 43 = .inr (1, 6) := h.1 _ (List.mem_of_getElem? (i := 42) rfl)
theorem k_44 {K : Nat → am_K} {R : Nat → Nat → Option Nat} (h : am_B K R) : K 44 = .inr (0, 6) := h.1 _ (List.mem_of_getElem? (i := 43) rfl)
theorem k_45 {K : Nat → am_K} {R : Nat → Nat → Option Nat} (h : am_B K R) : K 45 = .inr (0, 6) := h.1 _ (List.mem_of_getElem? (i := 44) rfl)
theorem k_46 {K : Nat → am_K} {R : Nat → Nat → Option Nat} (h : am_B K R) : K 46 = .inr (0, 36) := h.1 _ (List.mem_of_getElem? (i := 45) rfl)
theorem k_47 {K : Nat → am_K} {R : Nat → Nat → Option Nat} (h : am_B K R) : K 47 = .inr (0, 36) := h.1 _ (List.mem_of_getElem? (i := 46) rfl)
theorem k_48 {K : Nat → am_K} {R : Nat → Nat → Option Nat} (h : am_B K R) : K 48 = .inr (2, 36) := h.1 _ (List.mem_of_getElem? (i := 47) rfl)
theorem k_49 {K : Nat → am_K} {R : Nat → Nat → Option Nat} (h : am_B K R) : K 49 = .inr (0, 108) := h.1 _ (List.mem_of_getElem? (i := 48) rfl)
theorem k_50 {K : Nat → am_K} {R : Nat → Nat → Option Nat} (h : am_B K R) : K 50 = .inr (0, 6) := h.1 _ (List.mem_of_getElem? (i := 49) rfl)
theorem k_51 {K : Nat → am_K} {R : Nat → Nat → Option Nat} (h : am_B K R) : K 51 = .inr (0, 6) := h.1 _ (List.mem_of_getElem? (i := 50) rfl)
theorem k_52 {K : Nat → am_K} {R : Nat → Nat → Option Nat} (h : am_B K R) : K 52 = .inr (0, 36) := h.1 _ (List.mem_of_getElem? (i := 51) rfl)
theorem k_53 {K : Nat → am_K} {R : Nat → Nat → Option Nat} (h : am_B K R) : K 53 = .inr (0, 108) := h.1 _ (List.mem_of_getElem? (i := 52) rfl)
theorem k_54 {K : Nat → am_K} {R : Nat → Nat → Option Nat} (h : am_B K R) : K 54 = .inr (0, 108) := h.1 _ (List.mem_of_getElem? (i := 53) rfl)
theorem k_55 {K : Nat → am_K} {R : Nat → Nat → Option Nat} (h : am_B K R) : K 55 = .inr (0, 26) := h.1 _ (List.mem_of_getElem? (i := 54) rfl)
theorem k_56 {K : Nat → am_K} {R : Nat → Nat → Option Nat} (h : am_B K R) : K 56 = .inl 7 := h.1 _ (List.mem_of_getElem? (i := 55) rfl)
theorem k_57 {K : Nat → am_K} {R : Nat → Nat → Option Nat} (h : am_B K R) : K 57 = .inr (0, 60) := h.1 _ (List.mem_of_getElem? (i := 56) rfl)
theorem k_58 {K : Nat → am_K} {R : Nat → Nat → Option Nat} (h : am_B K R) : K 58 = .inr (0, 60) := h.1 _ (List.mem_of_getElem? (i := 57) rfl)
theorem k_59 {K : Nat → am_K} {R : Nat → Nat → Option Nat} (h : am_B K R) : K 59 = .inr (0, 60) := h.1 _ (List.mem_of_getElem? (i := 58) rfl)
theorem k_60 {K : Nat → am_K} {R : Nat → Nat → Option Nat} (h : am_B K R) : K 60 = .inr (0, 60) := h.1 _ (List.mem_of_getElem? (i := 59) rfl)
theorem k_61 {K : Nat → am_K} {R : Nat → Nat → Option Nat} (h : am_B K R) : K 61 = .inr (2, 60) := h.1 _ (List.mem_of_getElem? (i := 60) rfl)
theorem k_62 {K : Nat → am_K} {R : Nat → Nat → Option Nat} (h : am_B K R) : K 62 = .inr (0, 60) := h.1 _ (List.mem_of_getElem? (i := 61) rfl)
theorem k_63 {K : Nat → am_K} {R : Nat → Nat → Option Nat} (h : am_B K R) : K 63 = .inr (0, 60) := h.1 _ (List.mem_of_getElem? (i := 62) rfl)
theorem k_64 {K : Nat → am_K} {R : Nat → Nat → Option Nat} (h : am_B K R) : K 64 = .inr (0, 60) := h.1 _ (List.mem_of_getElem? (i := 63) rfl)
theorem k_65 {K : Nat → am_K} {R : Nat → Nat → Option Nat} (h : am_B K R) : K 65 = .inr (0, 60) := h.1 _ (List.mem_of_getElem? (i := 64) rfl)
theorem k_66 {K : Nat → am_K} {R : Nat → Nat → Option Nat} (h : am_B K R) : K 66 = .inr (0, 12) := h.1 _ (List.mem_of_getElem? (i := 65) rfl)
theorem k_67 {K : Nat → am_K} {R : Nat → Nat → Option Nat} (h : am_B K R) : K 67 = .inr (0, 4) := h.1 _ (List.mem_of_getElem? (i := 66) rfl)
theorem k_68 {K : Nat → am_K} {R : Nat → Nat → Option Nat} (h : am_B K R) : K 68 = .inr (0, 4) := h.1 _ (List.mem_of_getElem? (i := 67) rfl)
theorem k_69 {K : Nat → am_K} {R : Nat → Nat → Option Nat} (h : am_B K R) : K 69 = .inr (0, 4) := h.1 _ (List.mem_of_getElem? (i := 68) rfl)
theorem k_70 {K : Nat → am_K} {R : Nat → Nat → Option Nat} (h : am_B K R) : K 70 = .inr (0, 12) := h.1 _ (List.mem_of_getElem? (i := 69) rfl)
theorem k_71 {K : Nat → am_K} {R : Nat → Nat → Option Nat} (h : am_B K R) : K 71 = .inl 5 := h.1 _ (List.mem_of_getElem? (i := 70) rfl)
theorem k_72 {K : Nat → am_K} {R : Nat → Nat → Option Nat} (h : am_B K R) : K 72 = .inl 10 := h.1 _ (List.mem_of_getElem? (i := 71) rfl)
theorem k_73 {K : Nat → am_K} {R : Nat → Nat → Option Nat} (h : am_B K R) : K 73 = .inr (1, 6) := h.1 _ (List.mem_of_getElem? (i := 72) rfl)
theorem k_74 {K : Nat → am_K} {R : Nat → Nat → Option Nat} (h : am_B K R) : K 74 = .inr (0, 6) := h.1 _ (List.mem_of_getElem? (i := 73) rfl)
theorem k_75 {K : Nat → am_K} {R : Nat → Nat → Option Nat} (h : am_B K R) : K 75 = .inr (0, 6) := h.1 _ (List.mem_of_getElem? (i := 74) rfl)
theorem k_76 {K : Nat → am_K} {R : Nat → Nat → Option Nat} (h : am_B K R) : K 76 = .inr (0, 36) := h.1 _ (List.mem_of_getElem? (i := 75) rfl)
theorem k_77 {K : Nat → am_K} {R : Nat → Nat → Option Nat} (h : am_B K R) : K 77 = .inr (0, 36) := h.1 _ (List.mem_of_getElem? (i := 76) rfl)
theorem k_78 {K : Nat → am_K} {R : Nat → Nat → Option Nat} (h : am_B K R) : K 78 = .inr (2, 36) := h.1 _ (List.mem_of_getElem? (i := 77) rfl)
theorem k_79 {K : Nat → am_K} {R : Nat → Nat → Option Nat} (h : am_B K R) : K 79 = .inr (0, 108) := h.1 _ (List.mem_of_getElem? (i := 78) rfl)
theorem k_80 {K : Nat → am_K} {R : Nat → Nat → Option Nat} (h : am_B K R) : K 80 = .inr (0, 6) := h.1 _ (List.mem_of_getElem? (i := 79) rfl)
theorem k_81 {K : Nat → am_K} {R : Nat → Nat → Option Nat} (h : am_B K R) : K 81 = .inr (0, 6) := h.1 _ (List.mem_of_getElem? (i := 80) rfl)
theorem k_82 {K : Nat → am_K} {R : Nat → Nat → Option Nat} (h : am_B K R) : K 82 = .inr (0, 36) := h.1 _ (List.mem_of_getElem? (i := 81) rfl)
theorem k_83 {K : Nat → am_K} {R : Nat → Nat → Option Nat} (h : am_B K R) : K 83 = .inr (0, 108) := h.1 _ (List.mem_of_getElem? (i := 82) rfl)
theorem k_84 {K : Nat → am_K} {R : Nat → Nat → Option Nat} (h : am_B K R) : K 84 = .inr (0, 108) := h.1 _ (List.mem_of_getElem? (i := 83) rfl)
theorem k_85 {K : Nat → am_K} {R : Nat → Nat → Option Nat} (h : am_B K R) : K 85 = .inr (0, 26) := h.1 _ (List.mem_of_getElem? (i := 84) rfl)
theorem k_86 {K : Nat → am_K} {R : Nat → Nat → Option Nat} (h : am_B K R) : K 86 = .inl 7 := h.1 _ (List.mem_of_getElem? (i := 85) rfl)
theorem k_87 {K : Nat → am_K} {R : Nat → Nat → Option Nat} (h : am_B K R) : K 87 = .inr (0, 60) := h.1 _ (List.mem_of_getElem? (i := 86) rfl)
theorem k_88 {K : Nat → am_K} {R : Nat → Nat → Option Nat} (h : am_B K R) : K 88 = .inr (0, 60) := h.1 _ (List.mem_of_getElem? (i := 87) rfl)
theorem k_89 {K : Nat → am_K} {R : Nat → Nat → Option Nat} (h : am_B K R) : K 89 = .inr (0, 60) := h.1 _ (List.mem_of_getElem? (i := 88) rfl)
theorem k_90 {K : Nat → am_K} {R : Nat → Nat → Option Nat} (h : am_B K R) : K 90 = .inr (0, 60) := h.1 _ (List.mem_of_getElem? (i := 89) rfl)
theorem k_91 {K : Nat → am_K} {R : Nat → Nat → Option Nat} (h : am_B K R) : K 91 = .inr (2, 60) := h.1 _ (List.mem_of_getElem? (i := 90) rfl)
theorem k_92 {K : Nat → am_K} {R : Nat → Nat → Option Nat} (h : am_B K R) : K 92 = .inr (0, 60) := h.1 _ (List.mem_of_getElem? (i := 91) rfl)
theorem k_93 {K : Nat → am_K} {R : Nat → Nat → Option Nat} (h : am_B K R) : K 93 = .inr (0, 60) := h.1 _ (List.mem_of_getElem? (i := 92) rfl)
theorem k_94 {K : Nat → am_K} {R : Nat → Nat → Option Nat} (h : am_B K R) : K 94 = .inr (0, 60) := h.1 _ (List.mem_of_getElem? (i := 93) rfl)
theorem k_95 {K : Nat → am_K} {R : Nat → Nat → Option Nat} (h : am_B K R) : K 95 = .inr (0, 60) := h.1 _ (List.mem_of_getElem? (i := 94) rfl)
theorem k_96 {K : Nat → am_K} {R : Nat → Nat → Option Nat} (h : am_B K R) : K 96 = .inr (0, 12) := h.1 _ (List.mem_of_getElem? (i := 95) rfl)
theorem k_97 {K : Nat → am_K} {R : Nat → Nat → Option Nat} (h : am_B K R) : K 97 = .inr (0, 4) := h.1 _ (List.mem_of_getElem? (i := 96) rfl)
theorem k_98 {K : Nat → am_K} {R : Nat → Nat → Option Nat} (h : am_B K R) : K 98 = .inr (0, 4) := h.1 _ (List.mem_of_getElem? (i := 97) rfl)
theorem k_99 {K : Nat → am_K} {R : Nat → Nat → Option Nat} (h : am_B K R) : K 99 = .inr (0, 4) := h.1 _ (List.mem_of_getElem? (i := 98) rfl)
theorem k_100 {K : Nat → am_K} {R : Nat → Nat → Option Nat} (h : am_B K R) : K 100 = .inr (0, 12) := h.1 _ (List.mem_of_getElem? (i := 99) rfl)
theorem k_101 {K : Nat → am_K} {R : Nat → Nat → Option Nat} (h : am_B K R) : K 101 = .inl 1 := h.1 _ (List.mem_of_getElem? (i := 100) rfl)
theorem k_102 {K : Nat → am_K} {R : Nat → Nat → Option Nat} (h : am_B K R) : K 102 = .inr (4, 1200) := h.1 _ (List.mem_of_getElem? (i := 101) rfl)
theorem k_103 {K : Nat → am_K} {R : Nat → Nat → Option Nat} (h : am_B K R) : K 103 = .inr (0, 1201) := h.1 _ (List.mem_of_getElem? (i := 102) rfl)
theorem k_104 {K : Nat → am_K} {R : Nat → Nat → Option Nat} (h : am_B K R) : K 104 = .inr (0, 1201) := h.1 _ (List.mem_of_getElem? (i := 103) rfl)
theorem k_105 {K : Nat → am_K} {R : Nat → Nat → Option Nat} (h : am_B K R) : K 105 = .inr (2, 1201) := h.1 _ (List.mem_of_getElem? (i := 104) rfl)
theorem k_106 {K : Nat → am_K} {R : Nat → Nat → Option Nat} (h : am_B K R) : K 106 = .inr (0, 64) := h.1 _ (List.mem_of_getElem? (i := 105) rfl)
theorem k_107 {K : Nat → am_K} {R : Nat → Nat → Option Nat} (h : am_B K R) : K 107 = .inr (0, 52) := h.1 _ (List.mem_of_getElem? (i := 106) rfl)
theorem k_108 {K : Nat → am_K} {R : Nat → Nat → Option Nat} (h : am_B K R) : K 108 = .inr (0, 2) := h.1 _ (List.mem_of_getElem? (i := 107) rfl)
theorem k_109 {K : Nat → am_K} {R : Nat → Nat → Option Nat} (h : am_B K R) : K 109 = .inr (0, 2) := h.1 _ (List.mem_of_getElem? (i := 108) rfl)
theorem k_110 {K : Nat → am_K} {R : Nat → Nat → Option Nat} (h : am_B K R) : K 110 = .inr (2, 72) := h.1 _ (List.mem_of_getElem? (i := 109) rfl)
theorem k_111 {K : Nat → am_K} {R : Nat → Nat → Option Nat} (h : am_B K R) : K 111 = .inr (0, 72) := h.1 _ (List.mem_of_getElem? (i := 110) rfl)
theorem k_112 {K : Nat → am_K} {R : Nat → Nat → Option Nat} (h : am_B K R) : K 112 = .inr (0, 72) := h.1 _ (List.mem_of_getElem? (i := 111) rfl)
theorem k_113 {K : Nat → am_K} {R : Nat → Nat → Option Nat} (h : am_B K R) : K 113 = .inr (0, 216) := h.1 _ (List.mem_of_getElem? (i := 112) rfl)
theorem k_114 {K : Nat → am_K} {R : Nat → Nat → Option Nat} (h : am_B K R) : K 114 = .inr (0, 2) := h.1 _ (List.mem_of_getElem? (i := 113) rfl)
theorem k_115 {K : Nat → am_K} {R : Nat → Nat → Option Nat} (h : am_B K R) : K 115 = .inr (0, 8) := h.1 _ (List.mem_of_getElem? (i := 114) rfl)
theorem k_116 {K : Nat → am_K} {R : Nat → Nat → Option Nat} (h : am_B K R) : K 116 = .inr (0, 2) := h.1 _ (List.mem_of_getElem? (i := 115) rfl)
theorem k_117 {K : Nat → am_K} {R : Nat → Nat → Option Nat} (h : am_B K R) : K 117 = .inr (0, 2) := h.1 _ (List.mem_of_getElem? (i := 116) rfl)
theorem k_118 {K : Nat → am_K} {R : Nat → Nat → Option Nat} (h : am_B K R) : K 118 = .inr (1, 24) := h.1 _ (List.mem_of_getElem? (i := 117) rfl)
theorem k_119 {K : Nat → am_K} {R : Nat → Nat → Option Nat} (h : am_B K R) : K 119 = .inr (0, 24) := h.1 _ (List.mem_of_getElem? (i := 118) rfl)
theorem k_120 {K : Nat → am_K} {R : Nat → Nat → Option Nat} (h : am_B K R) : K 120 = .inr (0, 3600) := h.1 _ (List.mem_of_getElem? (i := 119) rfl)
theorem k_121 {K : Nat → am_K} {R : Nat → Nat → Option Nat} (h : am_B K R) : K 121 = .inr (0, 3600) := h.1 _ (List.mem_of_getElem? (i := 120) rfl)
theorem k_122 {K : Nat → am_K} {R : Nat → Nat → Option Nat} (h : am_B K R) : K 122 = .inr (0, 8) := h.1 _ (List.mem_of_getElem? (i := 121) rfl)
theorem k_123 {K : Nat → am_K} {R : Nat → Nat → Option Nat} (h : am_B K R) : K 123 = .inr (0, 8) := h.1 _ (List.mem_of_getElem? (i := 122) rfl)
theorem k_124 {K : Nat → am_K} {R : Nat → Nat → Option Nat} (h : am_B K R) : K 124 = .inr (0, 8) := h.1 _ (List.mem_of_getElem? (i := 123) rfl)
theorem k_125 {K : Nat → am_K} {R : Nat → Nat → Option Nat} (h : am_B K R) : K 125 = .inr (0, 65536) := h.1 _ (List.mem_of_getElem? (i := 124) rfl)
theorem k_126 {K : Nat → am_K} {R : Nat → Nat → Option Nat} (h : am_B K R) : K 126 = .inr (1, 65536) := h.1 _ (List.mem_of_getElem? (i := 125) rfl)
theorem k_127 {K : Nat → am_K} {R : Nat → Nat → Option Nat} (h : am_B K R) : K 127 = .inr (0, 400) := h.1 _ (List.mem_of_getElem? (i := 126) rfl)
theorem k_128 {K : Nat → am_K} {R : Nat → Nat → Option Nat} (h : am_B K R) : K 128 = .inr (0, 65536) := h.1 _ (List.mem_of_getElem? (i := 127) rfl)
theorem k_129 {K : Nat → am_K} {R : Nat → Nat → Option Nat} (h : am_B K R) : K 129 = .inr (0, 12) := h.1 _ (List.mem_of_getElem? (i := 128) rfl)
theorem k_130 {K : Nat → am_K} {R : Nat → Nat → Option Nat} (h : am_B K R) : K 130 = .inr (0, 200) := h.1 _ (List.mem_of_getElem? (i := 129) rfl)
theorem k_131 {K : Nat → am_K} {R : Nat → Nat → Option Nat} (h : am_B K R) : K 131 = .inr (0, 200) := h.1 _ (List.mem_of_getElem? (i := 130) rfl)
theorem k_132 {K : Nat → am_K} {R : Nat → Nat → Option Nat} (h : am_B K R) : K 132 = .inr (0, 200) := h.1 _ (List.mem_of_getElem? (i := 131) rfl)
theorem k_133 {K : Nat → am_K} {R : Nat → Nat → Option Nat} (h : am_B K R) : K 133 = .inr (1, 200) := h.1 _ (List.mem_of_getElem? (i := 132) rfl)
theorem k_134 {K : Nat → am_K} {R : Nat → Nat → Option Nat} (h : am_B K R) : K 134 = .inr (1, 200) := h.1 _ (List.mem_of_getElem? (i := 133) rfl)
theorem k_135 {K : Nat → am_K} {R : Nat → Nat → Option Nat} (h : am_B K R) : K 135 = .inr (4, 3000) := h.1 _ (List.mem_of_getElem? (i := 134) rfl)
theorem k_136 {K : Nat → am_K} {R : Nat → Nat → Option Nat} (h : am_B K R) : K 136 = .inr (0, 400) := h.1 _ (List.mem_of_getElem? (i := 135) rfl)
theorem k_137 {K : Nat → am_K} {R : Nat → Nat → Option Nat} (h : am_B K R) : K 137 = .inr (0, 400) := h.1 _ (List.mem_of_getElem? (i := 136) rfl)
theorem r_11_0 {K : Nat → am_K} {R : Nat → Nat → Option Nat} (h : am_B K R) : R 11 0 = some 12 := h.2 _ (List.mem_of_getElem? (i := 0) rfl)
theorem r_11_1 {K : Nat → am_K} {R : Nat → Nat → Option Nat} (h : am_B K R) : R 11 1 = some 19 := h.2 _ (List.mem_of_getElem? (i := 1) rfl)
theorem r_11_2 {K : Nat → am_K} {R : Nat → Nat → Option Nat} (h : am_B K R) : R 11 2 = some 29 := h.2 _ (List.mem_of_getElem? (i := 2) rfl)
theorem r_11_3 {K : Nat → am_K} {R : Nat → Nat → Option Nat} (h : am_B K R) : R 11 3 = some 31 := h.2 _ (List.mem_of_getElem? (i := 3) rfl)
theorem r_12_0 {K : Nat → am_K} {R : Nat → Nat → Option Nat} (h : am_B K R) : R 12 0 = some 13 := h.2 _ (List.mem_of_getElem? (i := 4) rfl)
theorem r_13_0 {K : Nat → am_K} {R : Nat → Nat → Option Nat} (h : am_B K R) : R 13 0 = some 14 := h.2 _ (List.mem_of_getElem? (i := 5) rfl)
theorem r_13_2 {K : Nat → am_K} {R : Nat → Nat → Option Nat} (h : am_B K R) : R 13 2 = some 15 := h.2 _ (List.mem_of_getElem? (i := 6) rfl)
theorem r_13_3 {K : Nat → am_K} {R : Nat → Nat → Option Nat} (h : am_B K R) : R 13 3 = some 16 := h.2 _ (List.mem_of_getElem? (i := 7) rfl)
theorem r_13_4 {K : Nat → am_K} {R : Nat → Nat → Option Nat} (h : am_B K R) : R 13 4 = some 17 := h.2 _ (List.mem_of_getElem? (i := 8) rfl)
theorem r_13_5 {K : Nat → am_K} {R : Nat → Nat → Option Nat} (h : am_B K R) : R 13 5 = some 18 := h.2 _ (List.mem_of_getElem? (i := 9) rfl)
theorem r_19_2 {K : Nat → am_K} {R : Nat → Nat → Option Nat} (h : am_B K R) : R 19 2 = some 20 := h.2 _ (List.mem_of_getElem? (i := 10) rfl)
theorem r_19_3 {K : Nat → am_K} {R : Nat → Nat → Option Nat} (h : am_B K R) : R 19 3 = some 21 := h.2 _ (List.mem_of_getElem? (i := 11) rfl)
theorem r_19_4 {K : Nat → am_K} {R : Nat → Nat → Option Nat} (h : am_B K R) : R 19 4 = some 22 := h.2 _ (List.mem_of_getElem? (i := 12) rfl)
theorem r_19_5 {K : Nat → am_K} {R : Nat → Nat → Option Nat} (h : am_B K R) : R 19 5 = some 23 := h.2 _ (List.mem_of_getElem? (i := 13) rfl)
theorem r_19_6 {K : Nat → am_K} {R : Nat → Nat → Option Nat} (h : am_B K R) : R 19 6 = some 24 := h.2 _ (List.mem_of_getElem? (i := 14) rfl)
theorem r_19_7 {K : Nat → am_K} {R : Nat → Nat → Option Nat} (h : am_B K R) : R 19 7 = some 25 := h.2 _ (List.mem_of_getElem? (i := 15) rfl)
theorem r_19_8 {K : Nat → am_K} {R : Nat → Nat → Option Nat} (h : am_B K R) : R 19 8 = some 26 := h.2 _ (List.mem_of_getElem? (i := 16) rfl)
theorem r_19_9 {K : Nat → am_K} {R : Nat → Nat → Option Nat} (h : am_B K R) : R 19 9 = some 27 := h.2 _ (List.mem_of_getElem? (i := 17) rfl)
theorem r_19_10 {K : Nat → am_K} {R : Nat → Nat → Option Nat} (h : am_B K R) : R 19 10 = some 28 := h.2 _ (List.mem_of_getElem? (i := 18) rfl)
theorem r_29_1 {K : Nat → am_K} {R : Nat → Nat → Option Nat} (h : am_B K R) : R 29 1 = some 30 := h.2 _ (List.mem_of_getElem? (i := 19) rfl)
theorem r_31_0 {K : Nat → am_K} {R : Nat → Nat → Option Nat} (h : am_B K R) : R 31 0 = some 32 := h.2 _ (List.mem_of_getElem? (i := 20) rfl)
theorem r_31_1 {K : Nat → am_K} {R : Nat → Nat → Option Nat} (h : am_B K R) : R 31 1 = some 34 := h.2 _ (List.mem_of_getElem? (i := 21) rfl)
theorem r_31_2 {K : Nat → am_K} {R : Nat → Nat → Option Nat} (h : am_B K R) : R 31 2 = some 40 := h.2 _ (List.mem_of_getElem? (i := 22) rfl)
theorem r_32_1 {K : Nat → am_K} {R : Nat → Nat → Option Nat} (h : am_B K R) : R 32 1 = some 33 := h.2 _ (List.mem_of_getElem? (i := 23) rfl)
theorem r_34_2 {K : Nat → am_K} {R : Nat → Nat → Option Nat} (h : am_B K R) : R 34 2 = some 35 := h.2 _ (List.mem_of_getElem? (i := 24) rfl)
theorem r_34_3 {K : Nat → am_K} {R : Nat → Nat → Option Nat} (h : am_B K R) : R 34 3 = some 36 := h.2 _ (List.mem_of_getElem? (i := 25) rfl)
theorem r_34_4 {K : Nat → am_K} {R : Nat → Nat → Option Nat} (h : am_B K R) : R 34 4 = some 37 := h.2 _ (List.mem_of_getElem? (i := 26) rfl)
theorem r_34_5 {K : Nat → am_K} {R : Nat → Nat → Option Nat} (h : am_B K R) : R 34 5 = some 38 := h.2 _ (List.mem_of_getElem? (i := 27) rfl)
theorem r_34_6 {K : Nat → am_K} {R : Nat → Nat → Option Nat} (h : am_B K R) : R 34 6 = some 39 := h.2 _ (List.mem_of_getElem? (i := 28) rfl)
theorem r_41_0 {K : Nat → am_K} {R : Nat → Nat → Option Nat} (h : am_B K R) : R 41 0 = some 42 := h.2 _ (List.mem_of_getElem? (i := 29) rfl)
theorem r_41_1 {K : Nat → am_K} {R : Nat → Nat → Option Nat} (h : am_B K R) : R 41 1 = some 56 := h.2 _ (List.mem_of_getElem? (i := 30) rfl)
theorem r_41_5 {K : Nat → am_K} {R : Nat → Nat → Option Nat} (h : am_B K R) : R 41 5 = some 66 := h.2 _ (List.mem_of_getElem? (i := 31) rfl)
theorem r_41_6 {K : Nat → am_K} {R : Nat → Nat → Option Nat} (h : am_B K R) : R 41 6 = some 67 := h.2 _ (List.mem_of_getElem? (i := 32) rfl)
theorem r_41_7 {K : Nat → am_K} {R : Nat → Nat → Option Nat} (h : am_B K R) : R 41 7 = some 68 := h.2 _ (List.mem_of_getElem? (i := 33) rfl)
theorem r_41_8 {K : Nat → am_K} {R : Nat → Nat → Option Nat} (h : am_B K R) : R 41 8 = some 69 := h.2 _ (List.mem_of_getElem? (i := 34) rfl)
theorem r_41_9 {K : Nat → am_K} {R : Nat → Nat → Option Nat} (h : am_B K R) : R 41 9 = some 70 := h.2 _ (List.mem_of_getElem? (i := 35) rfl)
theorem r_42_2 {K : Nat → am_K} {R : Nat → Nat → Option Nat} (h : am_B K R) : R 42 2 = some 43 := h.2 _ (List.mem_of_getElem? (i := 36) rfl)
theorem r_42_3 {K : Nat → am_K} {R : Nat → Nat → Option Nat} (h : am_B K R) : R 42 3 = some 44 := h.2 _ (List.mem_of_getElem? (i := 37) rfl)
theorem r_42_4 {K : Nat → am_K} {R : Nat → Nat → Option Nat} (h : am_B K R) : R 42 4 = some 45 := h.2 _ (List.mem_of_getElem? (i := 38) rfl)
theorem r_42_5 {K : Nat → am_K} {R : Nat → Nat → Option Nat} (h : am_B K R) : R 42 5 = some 46 := h.2 _ (List.mem_of_getElem? (i := 39) rfl)
theorem r_42_6 {K : Nat → am_K} {R : Nat → Nat → Option Nat} (h : am_B K R) : R 42 6 = some 47 := h.2 _ (List.mem_of_getElem? (i := 40) rfl)
theorem r_42_7 {K : Nat → am_K} {R : Nat → Nat → Option Nat} (h : am_B K R) : R 42 7 = some 48 := h.2 _ (List.mem_of_getElem? (i := 41) rfl)
theorem r_42_8 {K : Nat → am_K} {R : Nat → Nat → Option Nat} (h : am_B K R) : R 42 8 = some 49 := h.2 _ (List.mem_of_getElem? (i := 42) rfl)
theorem r_42_9 {K : Nat → am_K} {R : Nat → Nat → Option Nat} (h : am_B K R) : R 42 9 = some 50 := h.2 _ (List.mem_of_getElem? (i := 43) rfl)
theorem r_42_10 {K : Nat → am_K} {R : Nat → Nat → Option Nat} (h : am_B K R) : R 42 10 = some 51 := h.2 _ (List.mem_of_getElem? (i := 44) rfl)
theorem r_42_11 {K : Nat → am_K} {R : Nat → Nat → Option Nat} (h : am_B K R) : R 42 11 = some 52 := h.2 _ (List.mem_of_getElem? (i := 45) rfl)
theorem r_42_12 {K : Nat → am_K} {R : Nat → Nat → Option Nat} (h : am_B K R) : R 42 12 = some 53 := h.2 _ (List.mem_of_getElem? (i := 46) rfl)
theorem r_42_13 {K : Nat → am_K} {R : Nat → Nat → Option Nat} (h : am_B K R) : R 42 13 = some 54 := h.2 _ (List.mem_of_getElem? (i := 47) rfl)
theorem r_42_14 {K : Nat → am_K} {R : Nat → Nat → Option Nat} (h : am_B K R) : R 42 14 = some 55 := h.2 _ (List.mem_of_getElem? (i := 48) rfl)
theorem r_56_2 {K : Nat → am_K} {R : Nat → Nat → Option Nat} (h : am_B K R) : R 56 2 = some 57 := h.2 _ (List.mem_of_getElem? (i := 49) rfl)
theorem r_56_3 {K : Nat → am_K} {R : Nat → Nat → Option Nat} (h : am_B K R) : R 56 3 = some 58 := h.2 _ (List.mem_of_getElem? (i := 50) rfl)
theorem r_56_4 {K : Nat → am_K} {R : Nat → Nat → Option Nat} (h : am_B K R) : R 56 4 = some 59 := h.2 _ (List.mem_of_getElem? (i := 51) rfl)
theorem r_56_5 {K : Nat → am_K} {R : Nat → Nat → Option Nat} (h : am_B K R) : R 56 5 = some 60 := h.2 _ (List.mem_of_getElem? (i := 52) rfl)
theorem r_56_6 {K : Nat → am_K} {R : Nat → Nat → Option Nat} (h : am_B K R) : R 56 6 = some 61 := h.2 _ (List.mem_of_getElem? (i := 53) rfl)
theorem r_56_7 {K : Nat → am_K} {R : Nat → Nat → Option Nat} (h : am_B K R) : R 56 7 = some 62 := h.2 _ (List.mem_of_getElem? (i := 54) rfl)
theorem r_56_8 {K : Nat → am_K} {R : Nat → Nat → Option Nat} (h : am_B K R) : R 56 8 = some 63 := h.2 _ (List.mem_of_getElem? (i := 55) rfl)
theorem r_56_9 {K : Nat → am_K} {R : Nat → Nat → Option Nat} (h : am_B K R) : R 56 9 = some 64 := h.2 _ (List.mem_of_getElem? (i := 56) rfl)
theorem r_56_10 {K : Nat → am_K} {R : Nat → Nat → Option Nat} (h : am_B K R) : R 56 10 = some 65 := h.2 _ (List.mem_of_getElem? (i := 57) rfl)
theorem r_71_0 {K : Nat → am_K} {R : Nat → Nat → Option Nat} (h : am_B K R) : R 71 0 = some 72 := h.2 _ (List.mem_of_getElem? (i := 58) rfl)
theorem r_71_1 {K : Nat → am_K} {R : Nat → Nat → Option Nat} (h : am_B K R) : R 71 1 = some 86 := h.2 _ (List.mem_of_getElem? (i := 59) rfl)
theorem r_71_5 {K : Nat → am_K} {R : Nat → Nat → Option Nat} (h : am_B K R) : R 71 5 = some 96 := h.2 _ (List.mem_of_getElem? (i := 60) rfl)
theorem r_71_6 {K : Nat → am_K} {R : Nat → Nat → Option Nat} (h : am_B K R) : R 71 6 = some 97 := h.2 _ (List.mem_of_getElem? (i := 61) rfl)
theorem r_71_7 {K : Nat → am_K} {R : Nat → Nat → Option Nat} (h : am_B K R) : R 71 7 = some 98 := h.2 _ (List.mem_of_getElem? (i := 62) rfl)
theorem r_71_8 {K : Nat → am_K} {R : Nat → Nat → Option Nat} (h : am_B K R) : R 71 8 = some 99 := h.2 _ (List.mem_of_getElem? (i := 63) rfl)
theorem r_71_9 {K : Nat → am_K} {R : Nat → Nat → Option Nat} (h : am_B K R) : R 71 9 = some 100 := h.2 _ (List.mem_of_getElem? (i := 64) rfl)
theorem r_72_2 {K : Nat → am_K} {R : Nat → Nat → Option Nat} (h : am_B K R) : R 72 2 = some 73 := h.2 _ (List.mem_of_getElem? (i := 65) rfl)
theorem r_72_3 {K : Nat → am_K} {R : Nat → Nat → Option Nat} (h : am_B K R) : R 72 3 = some 74 := h.2 _ (List.mem_of_getElem? (i := 66) rfl)
theorem r_72_4 {K : Nat → am_K} {R : Nat → Nat → Option Nat} (h : am_B K R) : R 72 4 = some 75 := h.2 _ (List.mem_of_getElem? (i := 67) rfl)
theorem r_72_5 {K : Nat → am_K} {R : Nat → Nat → Option Nat} (h : am_B K R) : R 72 5 = some 76 := h.2 _ (List.mem_of_getElem? (i := 68) rfl)
theorem r_72_6 {K : Nat → am_K} {R : Nat → Nat → Option Nat} (h : am_B K R) : R 72 6 = some 77 := h.2 _ (List.mem_of_getElem? (i := 69) rfl)
theorem r_72_7 {K : Nat → am_K} {R : Nat → Nat → Option Nat} (h : am_B K R) : R 72 7 = some 78 := h.2 _ (List.mem_of_getElem? (i := 70) rfl)
theorem r_72_8 {K : Nat → am_K} {R : Nat → Nat → Option Nat} (h : am_B K R) : R 72 8 = some 79 := h.2 _ (List.mem_of_getElem? (i := 71) rfl)
theorem r_72_9 {K : Nat → am_K} {R : Nat → Nat → Option Nat} (h : am_B K R) : R 72 9 = some 80 := h.2 _ (List.mem_of_getElem? (i := 72) rfl)
theorem r_72_10 {K : Nat → am_K} {R : Nat → Nat → Option Nat} (h : am_B K R) : R 72 10 = some 81 := h.2 _ (List.mem_of_getElem? (i := 73) rfl)
theorem r_72_11 {K : Nat → am_K} {R : Nat → Nat → Option Nat} (h : am_B K R) : R 72 11 = some 82 := h.2 _ (List.mem_of_getElem? (i := 74) rfl)
theorem r_72_12 {K : Nat → am_K} {R : Nat → Nat → Option Nat} (h : am_B K R) : R 72 12 = some 83 := h.2 _ (List.mem_of_getElem? (i := 75) rfl)
theorem r_72_13 {K : Nat → am_K} {R : Nat → Nat → Option Nat} (h : am_B K R) : R 72 13 = some 84 := h.2 _ (List.mem_of_getElem? (i := 76) rfl)
theorem r_72_14 {K : Nat → am_K} {R : Nat → Nat → Option Nat} (h : am_B K R) : R 72 14 = some 85 := h.2 _ (List.mem_of_getElem? (i := 77) rfl)
theorem r_86_2 {K : Nat → am_K} {R : Nat → Nat → Option Nat} (h : am_B K R) : R 86 2 = some 87 := h.2 _ (List.mem_of_getElem? (i := 78) rfl)
theorem r_86_3 {K : Nat → am_K} {R : Nat → Nat → Option Nat} (h : am_B K R) : R 86 3 = some 88 := h.2 _ (List.mem_of_getElem? (i := 79) rfl)
theorem r_86_4 {K : Nat → am_K} {R : Nat → Nat → Option Nat} (h : am_B K R) : R 86 4 = some 89 := h.2 _ (List.mem_of_getElem? (i := 80) rfl)
theorem r_86_5 {K : Nat → am_K} {R : Nat → Nat → Option Nat} (h : am_B K R) : R 86 5 = some 90 := h.2 _ (List.mem_of_getElem? (i := 81) rfl)
theorem r_86_6 {K : Nat → am_K} {R : Nat → Nat → Option Nat} (h : am_B K R) : R 86 6 = some 91 := h.2 _ (List.mem_of_getElem? (i := 82) rfl)
theorem r_86_7 {K : Nat → am_K} {R : Nat → Nat → Option Nat} (h : am_B K R) : R 86 7 = some 92 := h.2 _ (List.mem_of_getElem? (i := 83) rfl)
theorem r_86_8 {K : Nat → am_K} {R : Nat → Nat → Option Nat} (h : am_B K R) : R 86 8 = some 93 := h.2 _ (List.mem_of_getElem? (i := 84) rfl)
theorem r_86_9 {K : Nat → am_K} {R : Nat → Nat → Option Nat} (h : am_B K R) : R 86 9 = some 94 := h.2 _ (List.mem_of_getElem? (i := 85) rfl)
theorem r_86_10 {K : Nat → am_K} {R : Nat → Nat → Option Nat} (h : am_B K R) : R 86 10 = some 95 := h.2 _ (List.mem_of_getElem? (i := 86) rfl)
theorem r_101_0 {K : Nat → am_K} {R : Nat → Nat → Option Nat} (h : am_B K R) : R 101 0 = some 102 := h.2 _ (List.mem_of_getElem? (i := 87) rfl)
theorem r_101_4 {K : Nat → am_K} {R : Nat → Nat → Option Nat} (h : am_B K R) : R 101 4 = some 103 := h.2 _ (List.mem_of_getElem? (i := 88) rfl)
theorem r_101_5 {K : Nat → am_K} {R : Nat → Nat → Option Nat} (h : am_B K R) : R 101 5 = some 104 := h.2 _ (List.mem_of_getElem? (i := 89) rfl)
theorem r_101_6 {K : Nat → am_K} {R : Nat → Nat → Option Nat} (h : am_B K R) : R 101 6 = some 105 := h.2 _ (List.mem_of_getElem? (i := 90) rfl)
theorem r_101_12 {K : Nat → am_K} {R : Nat → Nat → Option Nat} (h : am_B K R) : R 101 12 = some 106 := h.2 _ (List.mem_of_getElem? (i := 91) rfl)
theorem r_101_15 {K : Nat → am_K} {R : Nat → Nat → Option Nat} (h : am_B K R) : R 101 15 = some 107 := h.2 _ (List.mem_of_getElem? (i := 92) rfl)
theorem r_101_16 {K : Nat → am_K} {R : Nat → Nat → Option Nat} (h : am_B K R) : R 101 16 = some 108 := h.2 _ (List.mem_of_getElem? (i := 93) rfl)
theorem r_101_17 {K : Nat → am_K} {R : Nat → Nat → Option Nat} (h : am_B K R) : R 101 17 = some 109 := h.2 _ (List.mem_of_getElem? (i := 94) rfl)
theorem r_101_18 {K : Nat → am_K} {R : Nat → Nat → Option Nat} (h : am_B K R) : R 101 18 = some 110 := h.2 _ (List.mem_of_getElem? (i := 95) rfl)
theorem r_101_19 {K : Nat → am_K} {R : Nat → Nat → Option Nat} (h : am_B K R) : R 101 19 = some 111 := h.2 _ (List.mem_of_getElem? (i := 96) rfl)
theorem r_101_20 {K : Nat → am_K} {R : Nat → Nat → Option Nat} (h : am_B K R) : R 101 20 = some 112 := h.2 _ (List.mem_of_getElem? (i := 97) rfl)
theorem r_101_21 {K : Nat → am_K} {R : Nat → Nat → Option Nat} (h : am_B K R) : R 101 21 = some 113 := h.2 _ (List.mem_of_getElem? (i := 98) rfl)
theorem r_101_22 {K : Nat → am_K} {R : Nat → Nat → Option Nat} (h : am_B K R) : R 101 22 = some 114 := h.2 _ (List.mem_of_getElem? (i := 99) rfl)
theorem r_101_23 {K : Nat → am_K} {R : Nat → Nat → Option Nat} (h : am_B K R) : R 101 23 = some 115 := h.2 _ (List.mem_of_getElem? (i := 100) rfl)
theorem r_101_24 {K : Nat → am_K} {R : Nat → Nat → Option Nat} (h : am_B K R) : R 101 24 = some 116 := h.2 _ (List.mem_of_getElem? (i := 101) rfl)
theorem r_101_25 {K : Nat → am_K} {R : Nat → Nat → Option Nat} (h : am_B K R) : R 101 25 = some 117 := h.2 _ (List.mem_of_getElem? (i := 102) rfl)
theorem r_101_26 {K : Nat → am_K} {R : Nat → Nat → Option Nat} (h : am_B K R) : R 101 26 = some 118 := h.2 _ (List.mem_of_getElem? (i := 103) rfl)
theorem r_101_27 {K : Nat → am_K} {R : Nat → Nat → Option Nat} (h : am_B K R) : R 101 27 = some 119 := h.2 _ (List.mem_of_getElem? (i := 104) rfl)
theorem r_101_28 {K : Nat → am_K} {R : Nat → Nat → Option Nat} (h : am_B K R) : R 101 28 = some 120 := h.2 _ (List.mem_of_getElem? (i := 105) rfl)
theorem r_101_29 {K : Nat → am_K} {R : Nat → Nat → Option Nat} (h : am_B K R) : R 101 29 = some 121 := h.2 _ (List.mem_of_getElem? (i := 106) rfl)
theorem r_101_30 {K : Nat → am_K} {R : Nat → Nat → Option Nat} (h : am_B K R) : R 101 30 = some 122 := h.2 _ (List.mem_of_getElem? (i := 107) rfl)
theorem r_101_31 {K : Nat → am_K} {R : Nat → Nat → Option Nat} (h : am_B K R) : R 101 31 = some 123 := h.2 _ (List.mem_of_getElem? (i := 108) rfl)
theorem r_101_32 {K : Nat → am_K} {R : Nat → Nat → Option Nat} (h : am_B K R) : R 101 32 = some 124 := h.2 _ (List.mem_of_getElem? (i := 109) rfl)
theorem r_101_38 {K : Nat → am_K} {R : Nat → Nat → Option Nat} (h : am_B K R) : R 101 38 = some 125 := h.2 _ (List.mem_of_getElem? (i := 110) rfl)
theorem r_101_39 {K : Nat → am_K} {R : Nat → Nat → Option Nat} (h : am_B K R) : R 101 39 = some 126 := h.2 _ (List.mem_of_getElem? (i := 111) rfl)
theorem r_101_41 {K : Nat → am_K} {R : Nat → Nat → Option Nat} (h : am_B K R) : R 101 41 = some 127 := h.2 _ (List.mem_of_getElem? (i := 112) rfl)
theorem r_101_42 {K : Nat → am_K} {R : Nat → Nat → Option Nat} (h : am_B K R) : R 101 42 = some 128 := h.2 _ (List.mem_of_getElem? (i := 113) rfl)
theorem r_101_44 {K : Nat → am_K} {R : Nat → Nat → Option Nat} (h : am_B K R) : R 101 44 = some 129 := h.2 _ (List.mem_of_getElem? (i := 114) rfl)
theorem r_101_45 {K : Nat → am_K} {R : Nat → Nat → Option Nat} (h : am_B K R) : R 101 45 = some 130 := h.2 _ (List.mem_of_getElem? (i := 115) rfl)
theorem r_101_46 {K : Nat → am_K} {R : Nat → Nat → Option Nat} (h : am_B K R) : R 101 46 = some 131 := h.2 _ (List.mem_of_getElem? (i := 116) rfl)
theorem r_101_48 {K : Nat → am_K} {R : Nat → Nat → Option Nat} (h : am_B K R) : R 101 48 = some 132 := h.2 _ (List.mem_of_getElem? (i := 117) rfl)
theorem r_101_51 {K : Nat → am_K} {R : Nat → Nat → Option Nat} (h : am_B K R) : R 101 51 = some 133 := h.2 _ (List.mem_of_getElem? (i := 118) rfl)
theorem r_101_52 {K : Nat → am_K} {R : Nat → Nat → Option Nat} (h : am_B K R) : R 101 52 = some 134 := h.2 _ (List.mem_of_getElem? (i := 119) rfl)
theorem r_101_53 {K : Nat → am_K} {R : Nat → Nat → Option Nat} (h : am_B K R) : R 101 53 = some 135 := h.2 _ (List.mem_of_getElem? (i := 120) rfl)
theorem r_101_55 {K : Nat → am_K} {R : Nat → Nat → Option Nat} (h : am_B K R) : R 101 55 = some 136 := h.2 _ (List.mem_of_getElem? (i := 121) rfl)
theorem r_101_56 {K : Nat → am_K} {R : Nat → Nat → Option Nat} (h : am_B K R) : R 101 56 = some 137 := h.2 _ (List.mem_of_getElem? (i := 122) rfl)
theorem r_1_0 {K : Nat → am_K} {R : Nat → Nat → Option Nat} (h : am_B K R) : R 1 0 = some 2 := h.2 _ (List.mem_of_getElem? (i := 123) rfl)
theorem r_3_0 {K : Nat → am_K} {R : Nat → Nat → Option Nat} (h : am_B K R) : R 3 0 = some 4 := h.2 _ (List.mem_of_getElem? (i := 124) rfl)
theorem r_5_0 {K : Nat → am_K} {R : Nat → Nat → Option Nat} (h : am_B K R) : R 5 0 = some 6 := h.2 _ (List.mem_of_getElem? (i := 125) rfl)
theorem r_7_0 {K : Nat → am_K} {R : Nat → Nat → Option Nat} (h : am_B K R) : R 7 0 = some 8 := h.2 _ (List.mem_of_getElem? (i := 126) rfl)
theorem r_9_0 {K : Nat → am_K} {R : Nat → Nat → Option Nat} (h : am_B K R) : R 9 0 = some 10 := h.2 _ (List.mem_of_getElem? (i := 127) rfl)
theorem kr_0 {K : Nat → am_K} {R : Nat → Nat → Option Nat} (h : am_B K R) {r : Nat} (hr : r = 41 ∨ r = 71) : K (r + 0) = .inl 5 := by
  rcases hr with rfl | rfl
  · exact k_41 h
  · exact k_71 h
theorem rr_0_0 {K : Nat → am_K} {R : Nat → Nat → Option Nat} (h : am_B K R) {r : Nat} (hr : r = 41 ∨ r = 71) : R (r + 0) 0 = some (r + 1) := by
  rcases hr with rfl | rfl
  · exact r_41_0 h
  · exact r_71_0 h
theorem rr_0_1 {K : Nat → am_K} {R : Nat → Nat → Option Nat} (h : am_B K R) {r : Nat} (hr : r = 41 ∨ r = 71) : R (r + 0) 1 = some (r + 15) := by
  rcases hr with rfl | rfl
  · exact r_41_1 h
  · exact r_71_1 h
theorem rr_0_5 {K : Nat → am_K} {R : Nat → Nat → Option Nat} (h : am_B K R) {r : Nat} (hr : r = 41 ∨ r = 71) : R (r + 0) 5 = some (r + 25) := by
  rcases hr with rfl | rfl
  · exact r_41_5 h
  · exact r_71_5 h
theorem rr_0_6 {K : Nat → am_K} {R : Nat → Nat → Option Nat} (h : am_B K R) {r : Nat} (hr : r = 41 ∨ r = 71) : R (r + 0) 6 = some (r + 26) := by
  rcases hr with rfl | rfl
  · exact r_41_6 h
  · exact r_71_6 h
theorem rr_0_7 {K : Nat → am_K} {R : Nat → Nat → Option Nat} (h : am_B K R) {r : Nat} (hr : r = 41 ∨ r = 71) : R (r + 0) 7 = some (r + 27) := by
  rcases hr with rfl | rfl
  · exact r_41_7 h
  · exact r_71_7 h
theorem rr_0_8 {K : Nat → am_K} {R : Nat → Nat → Option Nat} (h : am_B K R) {r : Nat} (hr : r = 41 ∨ r = 71) : R (r + 0) 8 = some (r + 28) := by
  rcases hr with rfl | rfl
  · exact r_41_8 h
  · exact r_71_8 h
theorem rr_0_9 {K : Nat → am_K} {R : Nat → Nat → Option Nat} (h : am_B K R) {r : Nat} (hr : r = 41 ∨ r = 71) : R (r + 0) 9 = some (r + 29) := by
  rcases hr with rfl | rfl
  · exact r_41_9 h
  · exact r_71_9 h
theorem kr_1 {K : Nat → am_K} {R : Nat → Nat → Option Nat} (h : am_B K R) {r : Nat} (hr : r = 41 ∨ r = 71) : K (r + 1) = .inl 10 := by
  rcases hr with rfl | rfl
  · exact k_42 h
  · exact k_72 h
theorem rr_1_2 {K : Nat → am_K} {R : Nat → Nat → Option Nat} (h : am_B K R) {r : Nat} (hr : r = 41 ∨ r = 71) : R (r + 1) 2 = some (r + 2) := by
  rcases hr with rfl | rfl
  · exact r_42_2 h
  · exact r_72_2 h
theorem rr_1_3 {K : Nat → am_K} {R : Nat → Nat → Option Nat} (h : am_B K R) {r : Nat} (hr : r = 41 ∨ r = 71) : R (r + 1) 3 = some (r + 3) := by
  rcases hr with rfl | rfl
  · exact r_42_3 h
  · exact r_72_3 h
theorem rr_1_4 {K : Nat → am_K} {R : Nat → Nat → Option Nat} (h : am_B K R) {r : Nat} (hr : r = 41 ∨ r = 71) : R (r + 1) 4 = some (r + 4) := by
  rcases hr with rfl | rfl
  · exact r_42_4 h
  · exact r_72_4 h
theorem rr_1_5 {K : Nat → am_K} {R : Nat → Nat → Option Nat} (h : am_B K R) {r : Nat} (hr : r = 41 ∨ r = 71) : R (r + 1) 5 = some (r + 5) := by
  rcases hr with rfl | rfl
  · exact r_42_5 h
  · exact r_72_5 h
theorem rr_1_6 {K : Nat → am_K} {R : Nat → Nat → Option Nat} (h : am_B K R) {r : Nat} (hr : r = 41 ∨ r = 71) : R (r + 1) 6 = some (r + 6) := by
  rcases hr with rfl | rfl
  · exact r_42_6 h
  · exact r_72_6 h
theorem rr_1_7 {K : Nat → am_K} {R : Nat → Nat → Option Nat} (h : am_B K R) {r : Nat} (hr : r = 41 ∨ r = 71) : R (r + 1) 7 = some (r + 7) := by
  rcases hr with rfl | rfl
  · exact r_42_7 h
  · exact r_72_7 h
theorem rr_1_8 {K : Nat → am_K} {R : Nat → Nat → Option Nat} (h : am_B K R) {r : Nat} (hr : r = 41 ∨ r = 71) : R (r + 1) 8 = some (r + 8) := by
  rcases hr with rfl | rfl
  · exact r_42_8 h
  · exact r_72_8 h
theorem rr_1_9 {K : Nat → am_K} {R : Nat → Nat → Option Nat} (h : am_B K R) {r : Nat} (hr : r = 41 ∨ r = 71) : R (r + 1) 9 = some (r + 9) := by
  rcases hr with rfl | rfl
  · exact r_42_9 h
  · exact r_72_9 h
theorem rr_1_10 {K : Nat → am_K} {R : Nat → Nat → Option Nat} (h : am_B K R) {r : Nat} (hr : r = 41 ∨ r = 71) : R (r + 1) 10 = some (r + 10) := by
  rcases hr with rfl | rfl
  · exact r_42_10 h
  · exact r_72_10 h
theorem rr_1_11 {K : Nat → am_K} {R : Nat → Nat → Option Nat} (h : am_B K R) {r : Nat} (hr : r = 41 ∨ r = 71) : R (r + 1) 11 = some (r + 11) := by
  rcases hr with rfl | rfl
  · exact r_42_11 h
  · exact r_72_11 h
theorem rr_1_12 {K : Nat → am_K} {R : Nat → Nat → Option Nat} (h : am_B K R) {r : Nat} (hr : r = 41 ∨ r = 71) : R (r + 1) 12 = some (r + 12) := by
  rcases hr with rfl | rfl
  · exact r_42_12 h
  · exact r_72_12 h
theorem rr_1_13 {K : Nat → am_K} {R : Nat → Nat → Option Nat} (h : am_B K R) {r : Nat} (hr : r = 41 ∨ r = 71) : R (r + 1) 13 = some (r + 13) := by
  rcases hr with rfl | rfl
  · exact r_42_13 h
  · exact r_72_13 h
theorem rr_1_14 {K : Nat → am_K} {R : Nat → Nat → Option Nat} (h : am_B K R) {r : Nat} (hr : r = 41 ∨ r = 71) : R (r + 1) 14 = some (r + 14) := by
  rcases hr with rfl | rfl
  · exact r_42_14 h
  · exact r_72_14 h
theorem kr_2 {K : Nat → am_K} {R : Nat → Nat → Option Nat} (h : am_B K R) {r : Nat} (hr : r = 41 ∨ r = 71) : K (r + 2) = .inr (1, 6) := by
  rcases hr with rfl | rfl
  · exact k_43 h
  · exact k_73 h
theorem kr_3 {K : Nat → am_K} {R : Nat → Nat → Option Nat} (h : am_B K R) {r : Nat} (hr : r = 41 ∨ r = 71) : K (r + 3) = .inr (0, 6) := by
  rcases hr with rfl | rfl
  · exact k_44 h
  · exact k_74 h
theorem kr_4 {K : Nat → am_K} {R : Nat → Nat → Option Nat} (h : am_B K R) {r : Nat} (hr : r = 41 ∨ r = 71) : K (r + 4) = .inr (0, 6) := by
  rcases hr with rfl | rfl
  · exact k_45 h
  · exact k_75 h
theorem kr_5 {K : Nat → am_K} {R : Nat → Nat → Option Nat} (h : am_B K R) {r : Nat} (hr : r = 41 ∨ r = 71) : K (r + 5) = .inr (0, 36) := by
  rcases hr with rfl | rfl
  · exact k_46 h
  · exact k_76 h
theorem kr_6 {K : Nat → am_K} {R : Nat → Nat → Option Nat} (h : am_B K R) {r : Nat} (hr : r = 41 ∨ r = 71) : K (r + 6) = .inr (0, 36) := by
  rcases hr with rfl | rfl
  · exact k_47 h
  · exact k_77 h
theorem kr_7 {K : Nat → am_K} {R : Nat → Nat → Option Nat} (h : am_B K R) {r : Nat} (hr : r = 41 ∨ r = 71) : K (r + 7) = .inr (2, 36) := by
  rcases hr with rfl | rfl
  · exact k_48 h
  · exact k_78 h
theorem kr_8 {K : Nat → am_K} {R : Nat → Nat → Option Nat} (h : am_B K R) {r : Nat} (hr : r = 41 ∨ r = 71) : K (r + 8) = .inr (0, 108) := by
  rcases hr with rfl | rfl
  · exact k_49 h
  · exact k_79 h
theorem kr_9 {K : Nat → am_K} {R : Nat → Nat → Option Nat} (h : am_B K R) {r : Nat} (hr : r = 41 ∨ r = 71) : K (r + 9) = .inr (0, 6) := by
  rcases hr with rfl | rfl
  · exact k_50 h
  · exact k_80 h
theorem kr_10 {K : Nat → am_K} {R : Nat → Nat → Option Nat} (h : am_B K R) {r : Nat} (hr : r = 41 ∨ r = 71) : K (r + 10) = .inr (0, 6) := by
  rcases hr with rfl | rfl
  · exact k_51 h
  · exact k_81 h
theorem kr_11 {K : Nat → am_K} {R : Nat → Nat → Option Nat} (h : am_B K R) {r : Nat} (hr : r = 41 ∨ r = 71) : K (r + 11) = .inr (0, 36) := by
  rcases hr with rfl | rfl
  · exact k_52 h
  · exact k_82 h
theorem kr_12 {K : Nat → am_K} {R : Nat → Nat → Option Nat} (h : am_B K R) {r : Nat} (hr : r = 41 ∨ r = 71) : K (r + 12) = .inr (0, 108) := by
  rcases hr with rfl | rfl
  · exact k_53 h
  · exact k_83 h
theorem kr_13 {K : Nat → am_K} {R : Nat → Nat → Option Nat} (h : am_B K R) {r : Nat} (hr : r = 41 ∨ r = 71) : K (r + 13) = .inr (0, 108) := by
  rcases hr with rfl | rfl
  · exact k_54 h
  · exact k_84 h
theorem kr_14 {K : Nat → am_K} {R : Nat → Nat → Option Nat} (h : am_B K R) {r : Nat} (hr : r = 41 ∨ r = 71) : K (r + 14) = .inr (0, 26) := by
  rcases hr with rfl | rfl
  · exact k_55 h
  · exact k_85 h
theorem kr_15 {K : Nat → am_K} {R : Nat → Nat → Option Nat} (h : am_B K R) {r : Nat} (hr : r = 41 ∨ r = 71) : K (r + 15) = .inl 7 := by
  rcases hr with rfl | rfl
  · exact k_56 h
  · exact k_86 h
theorem rr_15_2 {K : Nat → am_K} {R : Nat → Nat → Option Nat} (h : am_B K R) {r : Nat} (hr : r = 41 ∨ r = 71) : R (r + 15) 2 = some (r + 16) := by
  rcases hr with rfl | rfl
  · exact r_56_2 h
  · exact r_86_2 h
theorem rr_15_3 {K : Nat → am_K} {R : Nat → Nat → Option Nat} (h : am_B K R) {r : Nat} (hr : r = 41 ∨ r = 71) : R (r + 15) 3 = some (r + 17) := by
  rcases hr with rfl | rfl
  · exact r_56_3 h
  · exact r_86_3 h
theorem rr_15_4 {K : Nat → am_K} {R : Nat → Nat → Option Nat} (h : am_B K R) {r : Nat} (hr : r = 41 ∨ r = 71) : R (r + 15) 4 = some (r + 18) := by
  rcases hr with rfl | rfl
  · exact r_56_4 h
  · exact r_86_4 h
theorem rr_15_5 {K : Nat → am_K} {R : Nat → Nat → Option Nat} (h : am_B K R) {r : Nat} (hr : r = 41 ∨ r = 71) : R (r + 15) 5 = some (r + 19) := by
  rcases hr with rfl | rfl
  · exact r_56_5 h
  · exact r_86_5 h
theorem rr_15_6 {K : Nat → am_K} {R : Nat → Nat → Option Nat} (h : am_B K R) {r : Nat} (hr : r = 41 ∨ r = 71) : R (r + 15) 6 = some (r + 20) := by
  rcases hr with rfl | rfl
  · exact r_56_6 h
  · exact r_86_6 h
theorem rr_15_7 {K : Nat → am_K} {R : Nat → Nat → Option Nat} (h : am_B K R) {r : Nat} (hr : r = 41 ∨ r = 71) : R (r + 15) 7 = some (r + 21) := by
  rcases hr with rfl | rfl
  · exact r_56_7 h
  · exact r_86_7 h
theorem rr_15_8 {K : Nat → am_K} {R : Nat → Nat → Option Nat} (h : am_B K R) {r : Nat} (hr : r = 41 ∨ r = 71) : R (r + 15) 8 = some (r + 22) := by
  rcases hr with rfl | rfl
  · exact r_56_8 h
  · exact r_86_8 h
theorem rr_15_9 {K : Nat → am_K} {R : Nat → Nat → Option Nat} (h : am_B K R) {r : Nat} (hr : r = 41 ∨ r = 71) : R (r + 15) 9 = some (r + 23) := by
  rcases hr with rfl | rfl
  · exact r_56_9 h
  · exact r_86_9 h
theorem rr_15_10 {K : Nat → am_K} {R : Nat → Nat → Option Nat} (h : am_B K R) {r : Nat} (hr : r = 41 ∨ r = 71) : R (r + 15) 10 = some (r + 24) := by
  rcases hr with rfl | rfl
  · exact r_56_10 h
  · exact r_86_10 h
theorem kr_16 {K : Nat → am_K} {R : Nat → Nat → Option Nat} (h : am_B K R) {r : Nat} (hr : r = 41 ∨ r = 71) : K (r + 16) = .inr (0, 60) := by
  rcases hr with rfl | rfl
  · exact k_57 h
  · exact k_87 h
theorem kr_17 {K : Nat → am_K} {R : Nat → Nat → Option Nat} (h : am_B K R) {r : Nat} (hr : r = 41 ∨ r = 71) : K (r + 17) = .inr (0, 60) := by
  rcases hr with rfl | rfl
  · exact k_58 h
  · exact k_88 h
theorem kr_18 {K : Nat → am_K} {R : Nat → Nat → Option Nat} (h : am_B K R) {r : Nat} (hr : r = 41 ∨ r = 71) : K (r + 18) = .inr (0, 60) := by
  rcases hr with rfl | rfl
  · exact k_59 h
  · exact k_89 h
theorem kr_19 {K : Nat → am_K} {R : Nat → Nat → Option Nat} (h : am_B K R) {r : Nat} (hr : r = 41 ∨ r = 71) : K (r + 19) = .inr (0, 60) := by
  rcases hr with rfl | rfl
  · exact k_60 h
  · exact k_90 h
theorem kr_20 {K : Nat → am_K} {R : Nat → Nat → Option Nat} (h : am_B K R) {r : Nat} (hr : r = 41 ∨ r = 71) : K (r + 20) = .inr (2, 60) := by
  rcases hr with rfl | rfl
  · exact k_61 h
  · exact k_91 h
theorem kr_21 {K : Nat → am_K} {R : Nat → Nat → Option Nat} (h : am_B K R) {r : Nat} (hr : r = 41 ∨ r = 71) : K (r + 21) = .inr (0, 60) := by
  rcases hr with rfl | rfl
  · exact k_62 h
  · exact k_92 h
theorem kr_22 {K : Nat → am_K} {R : Nat → Nat → Option Nat} (h : am_B K R) {r : Nat} (hr : r = 41 ∨ r = 71) : K (r + 22) = .inr (0, 60) := by
  rcases hr with rfl | rfl
  · exact k_63 h
  · exact k_93 h
theorem kr_23 {K : Nat → am_K} {R : Nat → Nat → Option Nat} (h : am_B K R) {r : Nat} (hr : r = 41 ∨ r = 71) : K (r + 23) = .inr (0, 60) := by
  rcases hr with rfl | rfl
  · exact k_64 h
  · exact k_94 h
theorem kr_24 {K : Nat → am_K} {R : Nat → Nat → Option Nat} (h : am_B K R) {r : Nat} (hr : r = 41 ∨ r = 71) : K (r + 24) = .inr (0, 60) := by
  rcases hr with rfl | rfl
  · exact k_65 h
  · exact k_95 h
theorem kr_25 {K : Nat → am_K} {R : Nat → Nat → Option Nat} (h : am_B K R) {r : Nat} (hr : r = 41 ∨ r = 71) : K (r + 25) = .inr (0, 12) := by
  rcases hr with rfl | rfl
  · exact k_66 h
  · exact k_96 h
theorem kr_26 {K : Nat → am_K} {R : Nat → Nat → Option Nat} (h : am_B K R) {r : Nat} (hr : r = 41 ∨ r = 71) : K (r + 26) = .inr (0, 4) := by
  rcases hr with rfl | rfl
  · exact k_67 h
  · exact k_97 h
theorem kr_27 {K : Nat → am_K} {R : Nat → Nat → Option Nat} (h : am_B K R) {r : Nat} (hr : r = 41 ∨ r = 71) : K (r + 27) = .inr (0, 4) := by
  rcases hr with rfl | rfl
  · exact k_68 h
  · exact k_98 h
theorem kr_28 {K : Nat → am_K} {R : Nat → Nat → Option Nat} (h : am_B K R) {r : Nat} (hr : r = 41 ∨ r = 71) : K (r + 28) = .inr (0, 4) := by
  rcases hr with rfl | rfl
  · exact k_69 h
  · exact k_99 h
theorem kr_29 {K : Nat → am_K} {R : Nat → Nat → Option Nat} (h : am_B K R) {r : Nat} (hr : r = 41 ∨ r = 71) : K (r + 29) = .inr (0, 12) := by
  rcases hr with rfl | rfl
  · exact k_70 h
  · exact k_100 h
