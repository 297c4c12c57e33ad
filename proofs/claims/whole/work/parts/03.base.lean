abbrev Shp : Type := (Nat × List (Option Nat)) ⊕ ((Nat × Nat) ⊕ (Nat × List Nat))
/-- the cells of the system: the model's from 0 on, the office's from 100 on -/
def shsM_0 : List (Nat × Shp) := [(0, .inl (12, [none, some 1, none, some 2, none, some 3, some 4, some 5, some 6, some 7, none, none, none, none, none, none, none, none, none, none, none, some 8, some 9, some 10, some 11, some 12, some 13, some 14, some 15, some 16, some 17, some 18, some 19, some 20, some 21, some 22, some 23, some 24, some 25, some 26, some 27, some 28, none, some 29, some 30, some 31, some 32, some 33, some 34, none, some 35, some 36, some 37, none, some 38, some 39, none, none, none, none, some 40, some 41, some 42, some 43, some 44, some 45, some 46, some 47, some 48, none, none, none, some 49, none, some 50, some 51, some 52, some 53, some 54, none, none, none, some 55, some 56, some 57, some 58, some 59, some 60, some 61, some 62, some 63, some 64])), (1, .inr (.inl (2, 2000))), (2, .inr (.inl (2, 2000))), (3, .inr (.inl (0, 403))), (4, .inr (.inl (0, 403))), (5, .inr (.inl (0, 403))), (6, .inr (.inl (1, 403))), (7, .inr (.inl (1, 18))), (8, .inr (.inl (1, 24))), (9, .inr (.inl (0, 24))), (10, .inr (.inl (0, 24))), (11, .inr (.inl (0, 2))), (12, .inr (.inl (0, 20))), (13, .inr (.inl (0, 2))), (14, .inr (.inl (0, 2))), (15, .inr (.inl (0, 24))), (16, .inr (.inl (0, 24))), (17, .inr (.inl (0, 2))), (18, .inr (.inl (0, 20))), (19, .inr (.inl (0, 20))), (20, .inr (.inl (0, 20))), (21, .inr (.inl (0, 20))), (22, .inr (.inl (0, 20))), (23, .inr (.inl (0, 20))), (24, .inr (.inl (0, 20))), (25, .inr (.inl (0, 2))), (26, .inr (.inl (3, 6))), (27, .inr (.inl (0, 6))), (28, .inr (.inl (0, 6))), (29, .inr (.inl (0, 300))), (30, .inr (.inl (3, 300))), (31, .inr (.inl (3, 300))), (32, .inr (.inl (0, 300))), (33, .inr (.inl (0, 300))), (34, .inr (.inl (0, 300))), (35, .inr (.inl (0, 840))), (36, .inr (.inl (0, 840))), (37, .inr (.inl (0, 64))), (38, .inr (.inl (0, 4))), (39, .inr (.inl (0, 400)))]
def shsM_1 : List (Nat × Shp) := [(40, .inr (.inl (0, 60))), (41, .inr (.inl (0, 60))), (42, .inr (.inl (0, 60))), (43, .inr (.inl (0, 60))), (44, .inr (.inl (0, 10))), (45, .inr (.inl (0, 10))), (46, .inr (.inl (0, 10))), (47, .inr (.inl (0, 10))), (48, .inr (.inl (0, 10))), (49, .inr (.inl (0, 60))), (50, .inr (.inl (0, 10))), (51, .inr (.inl (3, 60))), (52, .inr (.inl (0, 10))), (53, .inr (.inl (0, 10))), (54, .inr (.inl (0, 10))), (55, .inr (.inl (3, 2048))), (56, .inr (.inl (3, 2048))), (57, .inr (.inl (0, 2048))), (58, .inr (.inl (1, 16384))), (59, .inr (.inl (1, 16384))), (60, .inr (.inl (0, 3))), (61, .inr (.inl (0, 180))), (62, .inr (.inl (0, 180))), (63, .inr (.inl (0, 180))), (64, .inr (.inl (0, 180)))]
def shsM : List (Nat × Shp) := shsM_0 ++ (shsM_1)
theorem shsM_in0 {e : Nat × Shp} (h : e ∈ shsM_0) : e ∈ shsM := List.mem_append_left _ h
theorem shsM_in1 {e : Nat × Shp} (h : e ∈ shsM_1) : e ∈ shsM := List.mem_append_right _ (h)
theorem sh_0 : (0, .inl (12, [none, some 1, none, some 2, none, some 3, some 4, some 5, some 6, some 7, none, none, none, none, none, none, none, none, none, none, none, some 8, some 9, some 10, some 11, some 12, some 13, some 14, some 15, some 16, some 17, some 18, some 19, some 20, some 21, some 22, some 23, some 24, some 25, some 26, some 27, some 28, none, some 29, some 30, some 31, some 32, some 33, some 34, none, some 35, some 36, some 37, none, some 38, some 39, none, none, none, none, some 40, some 41, some 42, some 43, some 44, some 45, some 46, some 47, some 48, none, none, none, some 49, none, some 50, some 51, some 52, some 53, some 54, none, none, none, some 55, some 56, some 57, some 58, some 59, some 60, some 61, some 62, some 63, some 64])) ∈ shsM := shsM_in0 (List.mem_of_getElem? (i := 0) rfl)
theorem sh_1 : (1, .inr (.inl (2, 2000))) ∈ shsM := shsM_in0 (List.mem_of_getElem? (i := 1) rfl)
theorem sh_2 : (2, .inr (.inl (2, 2000))) ∈ shsM := shsM_in0 (List.mem_of_getElem? (i := 2) rfl)
theorem sh_3 : (3, .inr (.inl (0, 403))) ∈ shsM := shsM_in0 (List.mem_of_getElem? (i := 3) rfl)
theorem sh_4 : (4, .inr (.inl (0, 403))) ∈ shsM := shsM_in0 (List.mem_of_getElem? (i := 4) rfl)
theorem sh_5 : (5, .inr (.inl (0, 403))) ∈ shsM := shsM_in0 (List.mem_of_getElem? (i := 5) rfl)
theorem sh_6 : (6, .inr (.inl (1, 403))) ∈ shsM := shsM_in0 (List.mem_of_getElem? (i := 6) rfl)
theorem sh_7 : (7, .inr (.inl (1, 18))) ∈ shsM := shsM_in0 (List.mem_of_getElem? (i := 7) rfl)
theorem sh_8 : (8, .inr (.inl (1, 24))) ∈ shsM := shsM_in0 (List.mem_of_getElem? (i := 8) rfl)
theorem sh_9 : (9, .inr (.inl (0, 24))) ∈ shsM := shsM_in0 (List.mem_of_getElem? (i := 9) rfl)
theorem sh_10 : (10, .inr (.inl (0, 24))) ∈ shsM := shsM_in0 (List.mem_of_getElem? (i := 10) rfl)
theorem sh_11 : (11, .inr (.inl (0, 2))) ∈ shsM := shsM_in0 (List.mem_of_getElem? (i := 11) rfl)
theorem sh_12 : (12, .inr (.inl (0, 20))) ∈ shsM := shsM_in0 (List.mem_of_getElem? (i := 12) rfl)
theorem sh_13 : (13, .inr (.inl (0, 2))) ∈ shsM := shsM_in0 (List.mem_of_getElem? (i := 13) rfl)
theorem sh_14 : (14, .inr (.inl (0, 2))) ∈ shsM := shsM_in0 (List.mem_of_getElem? (i := 14) rfl)
theorem sh_15 : (15, .inr (.inl (0, 24))) ∈ shsM := shsM_in0 (List.mem_of_getElem? (i := 15) rfl)
theorem sh_16 : (16, .inr (.inl (0, 24))) ∈ shsM := shsM_in0 (List.mem_of_getElem? (i := 16) rfl)
theorem sh_17 : (17, .inr (.inl (0, 2))) ∈ shsM := shsM_in0 (List.mem_of_getElem? (i := 17) rfl)
theorem sh_18 : (18, .inr (.inl (0, 20))) ∈ shsM := shsM_in0 (List.mem_of_getElem? (i := 18) rfl)
theorem sh_19 : (19, .inr (.inl (0, 20))) ∈ shsM := shsM_in0 (List.mem_of_getElem? (i := 19) rfl)
theorem sh_20 : (20, .inr (.inl (0, 20))) ∈ shsM := shsM_in0 (List.mem_of_getElem? (i := 20) rfl)
theorem sh_21 : (21, .inr (.inl (0, 20))) ∈ shsM := shsM_in0 (List.mem_of_getElem? (i := 21) rfl)
theorem sh_22 : (22, .inr (.inl (0, 20))) ∈ shsM := shsM_in0 (List.mem_of_getElem? (i := 22) rfl)
theorem sh_23 : (23, .inr (.inl (0, 20))) ∈ shsM := shsM_in0 (List.mem_of_getElem? (i := 23) rfl)
theorem sh_24 : (24, .inr (.inl (0, 20))) ∈ shsM := shsM_in0 (List.mem_of_getElem? (i := 24) rfl)
theorem sh_25 : (25, .inr (.inl (0, 2))) ∈ shsM := shsM_in0 (List.mem_of_getElem? (i := 25) rfl)
theorem sh_26 : (26, .inr (.inl (3, 6))) ∈ shsM := shsM_in0 (List.mem_of_getElem? (i := 26) rfl)
theorem sh_27 : (27, .inr (.inl (0, 6))) ∈ shsM := shsM_in0 (List.mem_of_getElem? (i := 27) rfl)
theorem sh_28 : (28, .inr (.inl (0, 6))) ∈ shsM := shsM_in0 (List.mem_of_getElem? (i := 28) rfl)
theorem sh_29 : (29, .inr (.inl (0, 300))) ∈ shsM := shsM_in0 (List.mem_of_getElem? (i := 29) rfl)
theorem sh_30 : (30, .inr (.inl (3, 300))) ∈ shsM := shsM_in0 (List.mem_of_getElem? (i := 30) rfl)
theorem sh_31 : (31, .inr (.inl (3, 300))) ∈ shsM := shsM_in0 (List.mem_of_getElem? (i := 31) rfl)
theorem sh_32 : (32, .inr (.inl (0, 300))) ∈ shsM := shsM_in0 (List.mem_of_getElem? (i := 32) rfl)
theorem sh_33 : (33, .inr (.inl (0, 300))) ∈ shsM := shsM_in0 (List.mem_of_getElem? (i := 33) rfl)
theorem sh_34 : (34, .inr (.inl (0, 300))) ∈ shsM := shsM_in0 (List.mem_of_getElem? (i := 34) rfl)
theorem sh_35 : (35, .inr (.inl (0, 840))) ∈ shsM := shsM_in0 (List.mem_of_getElem? (i := 35) rfl)
theorem sh_36 : (36, .inr (.inl (0, 840))) ∈ shsM := shsM_in0 (List.mem_of_getElem? (i := 36) rfl)
theorem sh_37 : (37, .inr (.inl (0, 64))) ∈ shsM := shsM_in0 (List.mem_of_getElem? (i := 37) rfl)
theorem sh_38 : (38, .inr (.inl (0, 4))) ∈ shsM := shsM_in0 (List.mem_of_getElem? (i := 38) rfl)
theorem sh_39 : (39, .inr (.inl (0, 400))) ∈ shsM := shsM_in0 (List.mem_of_getElem? (i := 39) rfl)
theorem sh_40 : (40, .inr (.inl (0, 60))) ∈ shsM := shsM_in1 (List.mem_of_getElem? (i := 0) rfl)
theorem sh_41 : (41, .inr (.inl (0, 60))) ∈ shsM := shsM_in1 (List.mem_of_getElem? (i := 1) rfl)
theorem sh_42 : (42, .inr (.inl (0, 60))) ∈ shsM := shsM_in1 (List.mem_of_getElem? (i := 2) rfl)
theorem sh_43 : (43, .inr (.inl (0, 60))) ∈ shsM := shsM_in1 (List.mem_of_getElem? (i := 3) rfl)
theorem sh_44 : (44, .inr (.inl (0, 10))) ∈ shsM := shsM_in1 (List.mem_of_getElem? (i := 4) rfl)
theorem sh_45 : (45, .inr (.inl (0, 10))) ∈ shsM := shsM_in1 (List.mem_of_getElem? (i := 5) rfl)
theorem sh_46 : (46, .inr (.inl (0, 10))) ∈ shsM := shsM_in1 (List.mem_of_getElem? (i := 6) rfl)
theorem sh_47 : (47, .inr (.inl (0, 10))) ∈ shsM := shsM_in1 (List.mem_of_getElem? (i := 7) rfl)
theorem sh_48 : (48, .inr (.inl (0, 10))) ∈ shsM := shsM_in1 (List.mem_of_getElem? (i := 8) rfl)
theorem sh_49 : (49, .inr (.inl (0, 60))) ∈ shsM := shsM_in1 (List.mem_of_getElem? (i := 9) rfl)
theorem sh_50 : (50, .inr (.inl (0, 10))) ∈ shsM := shsM_in1 (List.mem_of_getElem? (i := 10) rfl)
theorem sh_51 : (51, .inr (.inl (3, 60))) ∈ shsM := shsM_in1 (List.mem_of_getElem? (i := 11) rfl)
theorem sh_52 : (52, .inr (.inl (0, 10))) ∈ shsM := shsM_in1 (List.mem_of_getElem? (i := 12) rfl)
theorem sh_53 : (53, .inr (.inl (0, 10))) ∈ shsM := shsM_in1 (List.mem_of_getElem? (i := 13) rfl)
theorem sh_54 : (54, .inr (.inl (0, 10))) ∈ shsM := shsM_in1 (List.mem_of_getElem? (i := 14) rfl)
theorem sh_55 : (55, .inr (.inl (3, 2048))) ∈ shsM := shsM_in1 (List.mem_of_getElem? (i := 15) rfl)
theorem sh_56 : (56, .inr (.inl (3, 2048))) ∈ shsM := shsM_in1 (List.mem_of_getElem? (i := 16) rfl)
theorem sh_57 : (57, .inr (.inl (0, 2048))) ∈ shsM := shsM_in1 (List.mem_of_getElem? (i := 17) rfl)
theorem sh_58 : (58, .inr (.inl (1, 16384))) ∈ shsM := shsM_in1 (List.mem_of_getElem? (i := 18) rfl)
theorem sh_59 : (59, .inr (.inl (1, 16384))) ∈ shsM := shsM_in1 (List.mem_of_getElem? (i := 19) rfl)
theorem sh_60 : (60, .inr (.inl (0, 3))) ∈ shsM := shsM_in1 (List.mem_of_getElem? (i := 20) rfl)
theorem sh_61 : (61, .inr (.inl (0, 180))) ∈ shsM := shsM_in1 (List.mem_of_getElem? (i := 21) rfl)
theorem sh_62 : (62, .inr (.inl (0, 180))) ∈ shsM := shsM_in1 (List.mem_of_getElem? (i := 22) rfl)
theorem sh_63 : (63, .inr (.inl (0, 180))) ∈ shsM := shsM_in1 (List.mem_of_getElem? (i := 23) rfl)
theorem sh_64 : (64, .inr (.inl (0, 180))) ∈ shsM := shsM_in1 (List.mem_of_getElem? (i := 24) rfl)
theorem shsM_nd : (shsM.map Prod.fst).Nodup := by decide +kernel
def shsC_0 : List (Nat × Shp) := [(100, .inl (11, [some 101, some 103, some 108, some 125, some 142, some 147, some 152, some 159, some 181, some 206, some 209, none, none])), (101, .inl (8, [some 102, none])), (102, .inr (.inl (2, 2000))), (103, .inl (9, [some 104, some 105, some 106, some 107, none])), (104, .inr (.inl (0, 401))), (105, .inr (.inl (0, 401))), (106, .inr (.inl (1, 401))), (107, .inr (.inl (1, 18))), (108, .inl (0, [some 109, some 110, some 111, some 112, some 113, some 114, none, none, none, none, none, none])), (109, .inr (.inl (0, 10))), (110, .inr (.inl (0, 4))), (111, .inr (.inr (5, [115, 116, 117, 118, 119, 120, 121, 122, 123, 124]))), (112, .inr (.inl (0, 400))), (113, .inr (.inl (0, 3))), (114, .inr (.inl (0, 3))), (115, .inl (4, [none, none, none, none, none, none, none, none])), (116, .inl (4, [none, none, none, none, none, none, none, none])), (117, .inl (4, [none, none, none, none, none, none, none, none])), (118, .inl (4, [none, none, none, none, none, none, none, none])), (119, .inl (4, [none, none, none, none, none, none, none, none])), (120, .inl (4, [none, none, none, none, none, none, none, none])), (121, .inl (4, [none, none, none, none, none, none, none, none])), (122, .inl (4, [none, none, none, none, none, none, none, none])), (123, .inl (4, [none, none, none, none, none, none, none, none])), (124, .inl (4, [none, none, none, none, none, none, none, none])), (125, .inl (0, [some 126, some 127, some 128, some 129, some 130, some 131, none, none, none, none, none, none])), (126, .inr (.inl (0, 10))), (127, .inr (.inl (0, 4))), (128, .inr (.inr (5, [132, 133, 134, 135, 136, 137, 138, 139, 140, 141]))), (129, .inr (.inl (0, 400))), (130, .inr (.inl (0, 3))), (131, .inr (.inl (0, 3))), (132, .inl (4, [none, none, none, none, none, none, none, none])), (133, .inl (4, [none, none, none, none, none, none, none, none])), (134, .inl (4, [none, none, none, none, none, none, none, none])), (135, .inl (4, [none, none, none, none, none, none, none, none])), (136, .inl (4, [none, none, none, none, none, none, none, none])), (137, .inl (4, [none, none, none, none, none, none, none, none])), (138, .inl (4, [none, none, none, none, none, none, none, none])), (139, .inl (4, [none, none, none, none, none, none, none, none]))]
def shsC_1 : List (Nat × Shp) := [(140, .inl (4, [none, none, none, none, none, none, none, none])), (141, .inl (4, [none, none, none, none, none, none, none, none])), (142, .inl (5, [some 103, some 125, some 143, some 144, some 145, some 146, none, none, none, none])), (143, .inr (.inl (1, 10))), (144, .inr (.inl (1, 4))), (145, .inr (.inl (1, 10))), (146, .inr (.inl (0, 64))), (147, .inl (6, [some 108, some 148, some 149, some 150, some 151, none, none, none])), (148, .inr (.inl (0, 64))), (149, .inr (.inl (0, 4))), (150, .inr (.inl (0, 600))), (151, .inr (.inl (0, 240))), (152, .inl (3, [some 153, some 154, some 155, some 156, some 157, some 158, none])), (153, .inr (.inl (0, 60))), (154, .inr (.inl (0, 60))), (155, .inr (.inl (0, 60))), (156, .inr (.inl (0, 60))), (157, .inr (.inl (0, 60))), (158, .inr (.inl (0, 61))), (159, .inr (.inr (4, [160, 167, 174]))), (160, .inl (3, [some 161, some 162, some 163, some 164, some 165, some 166, none])), (161, .inr (.inl (0, 60))), (162, .inr (.inl (0, 60))), (163, .inr (.inl (0, 60))), (164, .inr (.inl (0, 60))), (165, .inr (.inl (0, 60))), (166, .inr (.inl (0, 61))), (167, .inl (3, [some 168, some 169, some 170, some 171, some 172, some 173, none])), (168, .inr (.inl (0, 60))), (169, .inr (.inl (0, 60))), (170, .inr (.inl (0, 60))), (171, .inr (.inl (0, 60))), (172, .inr (.inl (0, 60))), (173, .inr (.inl (0, 61))), (174, .inl (3, [some 175, some 176, some 177, some 178, some 179, some 180, none])), (175, .inr (.inl (0, 60))), (176, .inr (.inl (0, 60))), (177, .inr (.inl (0, 60))), (178, .inr (.inl (0, 60))), (179, .inr (.inl (0, 60)))]
def shsC_2 : List (Nat × Shp) := [(180, .inr (.inl (0, 61))), (181, .inl (2, [some 108, some 152, some 147, some 182, some 190, some 198, none, none, none])), (182, .inl (1, [some 108, some 152, some 147, some 183, some 184, some 185, some 186, some 187, some 188, some 189, none, none, none, none, none])), (183, .inr (.inl (0, 10))), (184, .inr (.inl (0, 10))), (185, .inr (.inl (0, 10))), (186, .inr (.inl (0, 10))), (187, .inr (.inl (0, 10))), (188, .inr (.inl (0, 10))), (189, .inr (.inl (0, 60))), (190, .inl (1, [some 108, some 152, some 147, some 191, some 192, some 193, some 194, some 195, some 196, some 197, none, none, none, none, none])), (191, .inr (.inl (0, 10))), (192, .inr (.inl (0, 10))), (193, .inr (.inl (0, 10))), (194, .inr (.inl (0, 10))), (195, .inr (.inl (0, 10))), (196, .inr (.inl (0, 10))), (197, .inr (.inl (0, 60))), (198, .inl (1, [some 108, some 152, some 147, some 199, some 200, some 201, some 202, some 203, some 204, some 205, none, none, none, none, none])), (199, .inr (.inl (0, 10))), (200, .inr (.inl (0, 10))), (201, .inr (.inl (0, 10))), (202, .inr (.inl (0, 10))), (203, .inr (.inl (0, 10))), (204, .inr (.inl (0, 10))), (205, .inr (.inl (0, 60))), (206, .inl (10, [some 108, some 147, some 207, some 208, none, none, none, none, none])), (207, .inr (.inl (0, 176))), (208, .inr (.inl (1, 32))), (209, .inl (7, [some 108, some 210])), (210, .inr (.inl (0, 10)))]
def shsC : List (Nat × Shp) := shsC_0 ++ (shsC_1 ++ (shsC_2))
theorem shsC_in0 {e : Nat × Shp} (h : e ∈ shsC_0) : e ∈ shsC := List.mem_append_left _ h
theorem shsC_in1 {e : Nat × Shp} (h : e ∈ shsC_1) : e ∈ shsC := List.mem_append_right _ (List.mem_append_left _ h)
theorem shsC_in2 {e : Nat × Shp} (h : e ∈ shsC_2) : e ∈ shsC := List.mem_append_right _ (List.mem_append_right _ (h))
theorem sh_100 : (100, .inl (11, [some 101, some 103, some 108, some 125, some 142, some 147, some 152, some 159, some 181, some 206, some 209, none, none])) ∈ shsC := shsC_in0 (List.mem_of_getElem? (i := 0) rfl)
theorem sh_101 : (101, .inl (8, [some 102, none])) ∈ shsC := shsC_in0 (List.mem_of_getElem? (i := 1) rfl)
theorem sh_102 : (102, .inr (.inl (2, 2000))) ∈ shsC := shsC_in0 (List.mem_of_getElem? (i := 2) rfl)
theorem sh_103 : (103, .inl (9, [some 104, some 105, some 106, some 107, none])) ∈ shsC := shsC_in0 (List.mem_of_getElem? (i := 3) rfl)
theorem sh_104 : (104, .inr (.inl (0, 401))) ∈ shsC := shsC_in0 (List.mem_of_getElem? (i := 4) rfl)
theorem sh_105 : (105, .inr (.inl (0, 401))) ∈ shsC := shsC_in0 (List.mem_of_getElem? (i := 5) rfl)
theorem sh_106 : (106, .inr (.inl (1, 401))) ∈ shsC := shsC_in0 (List.mem_of_getElem? (i := 6) rfl)
theorem sh_107 : (107, .inr (.inl (1, 18))) ∈ shsC := shsC_in0 (List.mem_of_getElem? (i := 7) rfl)
theorem sh_108 : (108, .inl (0, [some 109, some 110, some 111, some 112, some 113, some 114, none, none, none, none, none, none])) ∈ shsC := shsC_in0 (List.mem_of_getElem? (i := 8) rfl)
theorem sh_109 : (109, .inr (.inl (0, 10))) ∈ shsC := shsC_in0 (List.mem_of_getElem? (i := 9) rfl)
theorem sh_110 : (110, .inr (.inl (0, 4))) ∈ shsC := shsC_in0 (List.mem_of_getElem? (i := 10) rfl)
theorem sh_111 : (111, .inr (.inr (5, [115, 116, 117, 118, 119, 120, 121, 122, 123, 124]))) ∈ shsC := shsC_in0 (List.mem_of_getElem? (i := 11) rfl)
theorem sh_112 : (112, .inr (.inl (0, 400))) ∈ shsC := shsC_in0 (List.mem_of_getElem? (i := 12) rfl)
theorem sh_113 : (113, .inr (.inl (0, 3))) ∈ shsC := shsC_in0 (List.mem_of_getElem? (i := 13) rfl)
theorem sh_114 : (114, .inr (.inl (0, 3))) ∈ shsC := shsC_in0 (List.mem_of_getElem? (i := 14) rfl)
theorem sh_115 : (115, .inl (4, [none, none, none, none, none, none, none, none])) ∈ shsC := shsC_in0 (List.mem_of_getElem? (i := 15) rfl)
theorem sh_116 : (116, .inl (4, [none, none, none, none, none, none, none, none])) ∈ shsC := shsC_in0 (List.mem_of_getElem? (i := 16) rfl)
theorem sh_117 : (117, .inl (4, [none, none, none, none, none, none, none, none])) ∈ shsC := shsC_in0 (List.mem_of_getElem? (i := 17) rfl)
theorem sh_118 : (118, .inl (4, [none, none, none, none, none, none, none, none])) ∈ shsC := shsC_in0 (List.mem_of_getElem? (i := 18) rfl)
theorem sh_119 : (119, .inl (4, [none, none, none, none, none, none, none, none])) ∈ shsC := shsC_in0 (List.mem_of_getElem? (i := 19) rfl)
theorem sh_120 : (120, .inl (4, [none, none, none, none, none, none, none, none])) ∈ shsC := shsC_in0 (List.mem_of_getElem? (i := 20) rfl)
theorem sh_121 : (121, .inl (4, [none, none, none, none, none, none, none, none])) ∈ shsC := shsC_in0 (List.mem_of_getElem? (i := 21) rfl)
theorem sh_122 : (122, .inl (4, [none, none, none, none, none, none, none, none])) ∈ shsC := shsC_in0 (List.mem_of_getElem? (i := 22) rfl)
theorem sh_123 : (123, .inl (4, [none, none, none, none, none, none, none, none])) ∈ shsC := shsC_in0 (List.mem_of_getElem? (i := 23) rfl)
theorem sh_124 : (124, .inl (4, [none, none, none, none, none, none, none, none])) ∈ shsC := shsC_in0 (List.mem_of_getElem? (i := 24) rfl)
theorem sh_125 : (125, .inl (0, [some 126, some 127, some 128, some 129, some 130, some 131, none, none, none, none, none, none])) ∈ shsC := shsC_in0 (List.mem_of_getElem? (i := 25) rfl)
theorem sh_126 : (126, .inr (.inl (0, 10))) ∈ shsC := shsC_in0 (List.mem_of_getElem? (i := 26) rfl)
theorem sh_127 : (127, .inr (.inl (0, 4))) ∈ shsC := shsC_in0 (List.mem_of_getElem? (i := 27) rfl)
theorem sh_128 : (128, .inr (.inr (5, [132, 133, 134, 135, 136, 137, 138, 139, 140, 141]))) ∈ shsC := shsC_in0 (List.mem_of_getElem? (i := 28) rfl)
theorem sh_129 : (129, .inr (.inl (0, 400))) ∈ shsC := shsC_in0 (List.mem_of_getElem? (i := 29) rfl)
theorem sh_130 : (130, .inr (.inl (0, 3))) ∈ shsC := shsC_in0 (List.mem_of_getElem? (i := 30) rfl)
theorem sh_131 : (131, .inr (.inl (0, 3))) ∈ shsC := shsC_in0 (List.mem_of_getElem? (i := 31) rfl)
theorem sh_132 : (132, .inl (4, [none, none, none, none, none, none, none, none])) ∈ shsC := shsC_in0 (List.mem_of_getElem? (i := 32) rfl)
theorem sh_133 : (133, .inl (4, [none, none, none, none, none, none, none, none])) ∈ shsC := shsC_in0 (List.mem_of_getElem? (i := 33) rfl)
theorem sh_134 : (134, .inl (4, [none, none, none, none, none, none, none, none])) ∈ shsC := shsC_in0 (List.mem_of_getElem? (i := 34) rfl)
theorem sh_135 : (135, .inl (4, [none, none, none, none, none, none, none, none])) ∈ shsC := shsC_in0 (List.mem_of_getElem? (i := 35) rfl)
theorem sh_136 : (136, .inl (4, [none, none, none, none, none, none, none, none])) ∈ shsC := shsC_in0 (List.mem_of_getElem? (i := 36) rfl)
theorem sh_137 : (137, .inl (4, [none, none, none, none, none, none, none, none])) ∈ shsC := shsC_in0 (List.mem_of_getElem? (i := 37) rfl)
theorem sh_138 : (138, .inl (4, [none, none, none, none, none, none, none, none])) ∈ shsC := shsC_in0 (List.mem_of_getElem? (i := 38) rfl)
theorem sh_139 : (139, .inl (4, [none, none, none, none, none, none, none, none])) ∈ shsC := shsC_in0 (List.mem_of_getElem? (i := 39) rfl)
theorem sh_140 : (140, .inl (4, [none, none, none, none, none, none, none, none])) ∈ shsC := shsC_in1 (List.mem_of_getElem? (i := 0) rfl)
theorem sh_141 : (141, .inl (4, [none, none, none, none, none, none, none, none])) ∈ shsC := shsC_in1 (List.mem_of_getElem? (i := 1) rfl)
theorem sh_142 : (142, .inl (5, [some 103, some 125, some 143, some 144, some 145, some 146, none, none, none, none])) ∈ shsC := shsC_in1 (List.mem_of_getElem? (i := 2) rfl)
theorem sh_143 : (143, .inr (.inl (1, 10))) ∈ shsC := shsC_in1 (List.mem_of_getElem? (i := 3) rfl)
theorem sh_144 : (144, .inr (.inl (1, 4))) ∈ shsC := shsC_in1 (List.mem_of_getElem? (i := 4) rfl)
theorem sh_145 : (145, .inr (.inl (1, 10))) ∈ shsC := shsC_in1 (List.mem_of_getElem? (i := 5) rfl)
theorem sh_146 : (146, .inr (.inl (0, 64))) ∈ shsC := shsC_in1 (List.mem_of_getElem? (i := 6) rfl)
theorem sh_147 : (147, .inl (6, [some 108, some 148, some 149, some 150, some 151, none, none, none])) ∈ shsC := shsC_in1 (List.mem_of_getElem? (i := 7) rfl)
theorem sh_148 : (148, .inr (.inl (0, 64))) ∈ shsC := shsC_in1 (List.mem_of_getElem? (i := 8) rfl)
theorem sh_149 : (149, .inr (.inl (0, 4))) ∈ shsC := shsC_in1 (List.mem_of_getElem? (i := 9) rfl)
theorem sh_150 : (150, .inr (.inl (0, 600))) ∈ shsC := shsC_in1 (List.mem_of_getElem? (i := 10) rfl)
theorem sh_151 : (151, .inr (.inl (0, 240))) ∈ shsC := shsC_in1 (List.mem_of_getElem? (i := 11) rfl)
theorem sh_152 : (152, .inl (3, [some 153, some 154, some 155, some 156, some 157, some 158, none])) ∈ shsC := shsC_in1 (List.mem_of_getElem? (i := 12) rfl)
theorem sh_153 : (153, .inr (.inl (0, 60))) ∈ shsC := shsC_in1 (List.mem_of_getElem? (i := 13) rfl)
theorem sh_154 : (154, .inr (.inl (0, 60))) ∈ shsC := shsC_in1 (List.mem_of_getElem? (i := 14) rfl)
theorem sh_155 : (155, .inr (.inl (0, 60))) ∈ shsC := shsC_in1 (List.mem_of_getElem? (i := 15) rfl)
theorem sh_156 : (156, .inr (.inl (0, 60))) ∈ shsC := shsC_in1 (List.mem_of_getElem? (i := 16) rfl)
theorem sh_157 : (157, .inr (.inl (0, 60))) ∈ shsC := shsC_in1 (List.mem_of_getElem? (i := 17) rfl)
theorem sh_158 : (158, .inr (.inl (0, 61))) ∈ shsC := shsC_in1 (List.mem_of_getElem? (i := 18) rfl)
theorem sh_159 : (159, .inr (.inr (4, [160, 167, 174]))) ∈ shsC := shsC_in1 (List.mem_of_getElem? (i := 19) rfl)
theorem sh_160 : (160, .inl (3, [some 161, some 162, some 163, some 164, some 165, some 166, none])) ∈ shsC := shsC_in1 (List.mem_of_getElem? (i := 20) rfl)
theorem sh_161 : (161, .inr (.inl (0, 60))) ∈ shsC := shsC_in1 (List.mem_of_getElem? (i := 21) rfl)
theorem sh_162 : (162, .inr (.inl (0, 60))) ∈ shsC := shsC_in1 (List.mem_of_getElem? (i := 22) rfl)
theorem sh_163 : (163, .inr (.inl (0, 60))) ∈ shsC := shsC_in1 (List.mem_of_getElem? (i := 23) rfl)
theorem sh_164 : (164, .inr (.inl (0, 60))) ∈ shsC := shsC_in1 (List.mem_of_getElem? (i := 24) rfl)
theorem sh_165 : (165, .inr (.inl (0, 60))) ∈ shsC := shsC_in1 (List.mem_of_getElem? (i := 25) rfl)
theorem sh_166 : (166, .inr (.inl (0, 61))) ∈ shsC := shsC_in1 (List.mem_of_getElem? (i := 26) rfl)
theorem sh_167 : (167, .inl (3, [some 168, some 169, some 170, some 171, some 172, some 173, none])) ∈ shsC := shsC_in1 (List.mem_of_getElem? (i := 27) rfl)
theorem sh_168 : (168, .inr (.inl (0, 60))) ∈ shsC := shsC_in1 (List.mem_of_getElem? (i := 28) rfl)
theorem sh_169 : (169, .inr (.inl (0, 60))) ∈ shsC := shsC_in1 (List.mem_of_getElem? (i := 29) rfl)
theorem sh_170 : (170, .inr (.inl (0, 60))) ∈ shsC := shsC_in1 (List.mem_of_getElem? (i := 30) rfl)
theorem sh_171 : (171, .inr (.inl (0, 60))) ∈ shsC := shsC_in1 (List.mem_of_getElem? (i := 31) rfl)
theorem sh_172 : (172, .inr (.inl (0, 60))) ∈ shsC := shsC_in1 (List.mem_of_getElem? (i := 32) rfl)
theorem sh_173 : (173, .inr (.inl (0, 61))) ∈ shsC := shsC_in1 (List.mem_of_getElem? (i := 33) rfl)
theorem sh_174 : (174, .inl (3, [some 175, some 176, some 177, some 178, some 179, some 180, none])) ∈ shsC := shsC_in1 (List.mem_of_getElem? (i := 34) rfl)
theorem sh_175 : (175, .inr (.inl (0, 60))) ∈ shsC := shsC_in1 (List.mem_of_getElem? (i := 35) rfl)
theorem sh_176 : (176, .inr (.inl (0, 60))) ∈ shsC := shsC_in1 (List.mem_of_getElem? (i := 36) rfl)
theorem sh_177 : (177, .inr (.inl (0, 60))) ∈ shsC := shsC_in1 (List.mem_of_getElem? (i := 37) rfl)
theorem sh_178 : (178, .inr (.inl (0, 60))) ∈ shsC := shsC_in1 (List.mem_of_getElem? (i := 38) rfl)
theorem sh_179 : (179, .inr (.inl (0, 60))) ∈ shsC := shsC_in1 (List.mem_of_getElem? (i := 39) rfl)
theorem sh_180 : (180, .inr (.inl (0, 61))) ∈ shsC := shsC_in2 (List.mem_of_getElem? (i := 0) rfl)
theorem sh_181 : (181, .inl (2, [some 108, some 152, some 147, some 182, some 190, some 198, none, none, none])) ∈ shsC := shsC_in2 (List.mem_of_getElem? (i := 1) rfl)
theorem sh_182 : (182, .inl (1, [some 108, some 152, some 147, some 183, some 184, some 185, some 186, some 187, some 188, some 189, none, none, none, none, none])) ∈ shsC := shsC_in2 (List.mem_of_getElem? (i := 2) rfl)
theorem sh_183 : (183, .inr (.inl (0, 10))) ∈ shsC := shsC_in2 (List.mem_of_getElem? (i := 3) rfl)
theorem sh_184 : (184, .inr (.inl (0, 10))) ∈ shsC := shsC_in2 (List.mem_of_getElem? (i := 4) rfl)
theorem sh_185 : (185, .inr (.inl (0, 10))) ∈ shsC := shsC_in2 (List.mem_of_getElem? (i := 5) rfl)
theorem sh_186 : (186, .inr (.inl (0, 10))) ∈ shsC := shsC_in2 (List.mem_of_getElem? (i := 6) rfl)
theorem sh_187 : (187, .inr (.inl (0, 10))) ∈ shsC := shsC_in2 (List.mem_of_getElem? (i := 7) rfl)
theorem sh_188 : (188, .inr (.inl (0, 10))) ∈ shsC := shsC_in2 (List.mem_of_getElem? (i := 8) rfl)
theorem sh_189 : (189, .inr (.inl (0, 60))) ∈ shsC := shsC_in2 (List.mem_of_getElem? (i := 9) rfl)
theorem sh_190 : (190, .inl (1, [some 108, some 152, some 147, some 191, some 192, some 193, some 194, some 195, some 196, some 197, none, none, none, none, none])) ∈ shsC := shsC_in2 (List.mem_of_getElem? (i := 10) rfl)
theorem sh_191 : (191, .inr (.inl (0, 10))) ∈ shsC := shsC_in2 (List.mem_of_getElem? (i := 11) rfl)
theorem sh_192 : (192, .inr (.inl (0, 10))) ∈ shsC := shsC_in2 (List.mem_of_getElem? (i := 12) rfl)
theorem sh_193 : (193, .inr (.inl (0, 10))) ∈ shsC := shsC_in2 (List.mem_of_getElem? (i := 13) rfl)
theorem sh_194 : (194, .inr (.inl (0, 10))) ∈ shsC := shsC_in2 (List.mem_of_getElem? (i := 14) rfl)
theorem sh_195 : (195, .inr (.inl (0, 10))) ∈ shsC := shsC_in2 (List.mem_of_getElem? (i := 15) rfl)
theorem sh_196 : (196, .inr (.inl (0, 10))) ∈ shsC := shsC_in2 (List.mem_of_getElem? (i := 16) rfl)
theorem sh_197 : (197, .inr (.inl (0, 60))) ∈ shsC := shsC_in2 (List.mem_of_getElem? (i := 17) rfl)
theorem sh_198 : (198, .inl (1, [some 108, some 152, some 147, some 199, some 200, some 201, some 202, some 203, some 204, some 205, none, none, none, none, none])) ∈ shsC := shsC_in2 (List.mem_of_getElem? (i := 18) rfl)
theorem sh_199 : (199, .inr (.inl (0, 10))) ∈ shsC := shsC_in2 (List.mem_of_getElem? (i := 19) rfl)
theorem sh_200 : (200, .inr (.inl (0, 10))) ∈ shsC := shsC_in2 (List.mem_of_getElem? (i := 20) rfl)
theorem sh_201 : (201, .inr (.inl (0, 10))) ∈ shsC := shsC_in2 (List.mem_of_getElem? (i := 21) rfl)
theorem sh_202 : (202, .inr (.inl (0, 10))) ∈ shsC := shsC_in2 (List.mem_of_getElem? (i := 22) rfl)
theorem sh_203 : (203, .inr (.inl (0, 10))) ∈ shsC := shsC_in2 (List.mem_of_getElem? (i := 23) rfl)
theorem sh_204 : (204, .inr (.inl (0, 10))) ∈ shsC := shsC_in2 (List.mem_of_getElem? (i := 24) rfl)
theorem sh_205 : (205, .inr (.inl (0, 60))) ∈ shsC := shsC_in2 (List.mem_of_getElem? (i := 25) rfl)
theorem sh_206 : (206, .inl (10, [some 108, some 147, some 207, some 208, none, none, none, none, none])) ∈ shsC := shsC_in2 (List.mem_of_getElem? (i := 26) rfl)
theorem sh_207 : (207, .inr (.inl (0, 176))) ∈ shsC := shsC_in2 (List.mem_of_getElem? (i := 27) rfl)
theorem sh_208 : (208, .inr (.inl (1, 32))) ∈ shsC := shsC_in2 (List.mem_of_getElem? (i := 28) rfl)
theorem sh_209 : (209, .inl (7, [some 108, some 210])) ∈ shsC := shsC_in2 (List.mem_of_getElem? (i := 29) rfl)
theorem sh_210 : (210, .inr (.inl (0, 10))) ∈ shsC := shsC_in2 (List.mem_of_getElem? (i := 30) rfl)
theorem shsC_nd : (shsC.map Prod.fst).Nodup := by decide +kernel
abbrev Hp : Type := (Nat → Nat → Int32) × (Nat → Nat → Int64)
def wI (h : Hp) (k j : Nat) (v : Int32) : Hp := (fun a b => if a = k ∧ b = j then v else h.1 a b, h.2)
def wL (h : Hp) (k j : Nat) (v : Int64) : Hp := (h.1, fun a b => if a = k ∧ b = j then v else h.2 a b)
abbrev ix (i : Int32) : Nat := i.toNatClampNeg
def inb (i : Int32) (n : Nat) : Bool := decide (0 ≤ i.toInt ∧ i.toInt < n)
def zb (x : Int32) : Bool := decide (x = 0 ∨ x = 1)
def nz (x : Int32) : Bool := decide (¬ x = 0)
def ck {α : Type} (b : Bool) (x : Option α) : Option α := if b = true then x else none
def lt {α β : Type} (x : α) (f : α → β) : β := f x
def bi {α β : Type} (o : Option (α × Hp)) (f : α → Hp → Option β) : Option β := match o with
  | none => none
  | some p => f p.1 p.2
def bv {β : Type} (o : Option Hp) (f : Hp → Option β) : Option β := match o with
  | none => none
  | some p => f p
theorem ck_el {α : Type} {b : Bool} {x : Option α} {r : α} (h : ck b x = some r) : b = true ∧ x = some r := by
  unfold ck at h
  by_cases hb : b = true
  · rw [if_pos hb] at h; exact ⟨hb, h⟩
  · rw [if_neg hb] at h; cases h
theorem bi_el {α β : Type} {o : Option (α × Hp)} {f : α → Hp → Option β} {r : β} (h : bi o f = some r) : ∃ a h1, o = some (a, h1) ∧ f a h1 = some r := by
  cases o with
  | none => cases h
  | some p => exact ⟨p.1, p.2, rfl, h⟩
theorem bv_el {β : Type} {o : Option Hp} {f : Hp → Option β} {r : β} (h : bv o f = some r) : ∃ h1, o = some h1 ∧ f h1 = some r := by
  cases o with
  | none => cases h
  | some p => exact ⟨p, rfl, h⟩
theorem inb_in {i : Int32} {n : Nat} (h : inb i n = true) : vp_in i n := vp_in_iff.mpr (of_decide_eq_true h)
theorem nz_ne {x : Int32} (h : nz x = true) : ¬ x = 0 := of_decide_eq_true h
theorem zb_nar {x : Int32} (h : zb x = true) : narrow .boolean (.int x) = .int x := by
  rcases (of_decide_eq_true h : x = 0 ∨ x = 1) with rfl | rfl <;> rfl
theorem zb_fit {x : Int32} (h : zb x = true) : fits .boolean (.int x) = true := by
  rcases (of_decide_eq_true h : x = 0 ∨ x = 1) with rfl | rfl <;> rfl
def vl (q : Nat → Nat) (h : Hp) (k : Nat) (fs : List (Option Nat)) : List Value := fs.mapIdx (fun j o => match o with
  | none => Value.int (h.1 k j)
  | some t => Value.ref (q t))
theorem vl_i {q : Nat → Nat} {h : Hp} {k j : Nat} {fs : List (Option Nat)} (hj : fs[j]? = some none) : (vl q h k fs)[j]? = some (Value.int (h.1 k j)) := by
  unfold vl; rw [List.getElem?_mapIdx, hj]; rfl
theorem vl_r {q : Nat → Nat} {h : Hp} {k j t : Nat} {fs : List (Option Nat)} (hj : fs[j]? = some (some t)) : (vl q h k fs)[j]? = some (Value.ref (q t)) := by
  unfold vl; rw [List.getElem?_mapIdx, hj]; rfl
theorem vl_set {q : Nat → Nat} {h : Hp} {k j : Nat} {v : Int32} {fs : List (Option Nat)} (hj : fs[j]? = some none) : (vl q h k fs).set j (Value.int v) = vl q (wI h k j v) k fs := by
  apply List.ext_getElem?
  intro i
  by_cases hij : j = i
  · subst hij
    have hl : j < (vl q h k fs).length := by
      unfold vl; rw [List.length_mapIdx]; exact (List.getElem?_eq_some_iff.mp hj).1
    rw [List.getElem?_set_self hl, vl_i hj]
    simp [wI]
  · rw [List.getElem?_set_ne hij]
    unfold vl
    rw [List.getElem?_mapIdx, List.getElem?_mapIdx]
    cases fs[i]? with
    | none => rfl
    | some o =>
      cases o with
      | none => simp [wI, Ne.symm hij]
      | some t => rfl
def ce (q : Nat → Nat) (cy : Nat → ClassId) (h : Hp) (k : Nat) : Shp → va_E
  | .inl (c, fs) => .inr (c, vl q h k fs)
  | .inr (.inl (t, n)) => .inl (cy t, n, if t = 1 then .inr (.inl (h.2 k)) else .inl (h.1 k))
  | .inr (.inr (t, l)) => .inl (cy t, l.length, .inr (.inr (.inr (.inr (fun j => (l[j]?).map q)))))
def WD (S : List (Nat × Shp)) (q : Nat → Nat) (cy : Nat → ClassId) (h : Hp) : va_W := S.map (fun e => (q e.1, ce q cy h e.1 e.2))
def nd (S : List (Nat × Shp)) : Prop := (S.map Prod.fst).Nodup
theorem WD_at {S : List (Nat × Shp)} {q : Nat → Nat} {cy : Nat → ClassId} {h : Hp} {k : Nat} {s : Shp} (hs : (k, s) ∈ S) : ∃ p : Nat, S[p]? = some (k, s) ∧ (WD S q cy h)[p]? = some (q k, ce q cy h k s) := by
  obtain ⟨p, hp⟩ := List.getElem?_of_mem hs
  exact ⟨p, hp, by unfold WD; rw [List.getElem?_map, hp]; rfl⟩
theorem ce_same {q : Nat → Nat} {cy : Nat → ClassId} {h h' : Hp} {k : Nat} (e1 : h'.1 k = h.1 k) (e2 : h'.2 k = h.2 k) (s : Shp) : ce q cy h' k s = ce q cy h k s := by
  rcases s with ⟨c, fs⟩ | ⟨t, n⟩ | ⟨t, l⟩
  · simp only [ce, vl, e1]
  · simp only [ce, e1, e2]
  · rfl
theorem shs_id {S : List (Nat × Shp)} (hn : nd S) {p p' : Nat} {e e' : Nat × Shp} (h : S[p]? = some e) (h' : S[p']? = some e') (he : e.1 = e'.1) : p = p' := by
  have a1 : (S.map Prod.fst)[p]? = some e.1 := by rw [List.getElem?_map, h]; rfl
  have a2 : (S.map Prod.fst)[p']? = some e.1 := by rw [List.getElem?_map, h', he]; rfl
  exact (List.getElem?_inj (List.getElem?_eq_some_iff.mp a1).1 hn).mp (a1.trans a2.symm)
theorem WD_set {S : List (Nat × Shp)} (hn : nd S) {q : Nat → Nat} {cy : Nat → ClassId} {h h' : Hp} {p k : Nat} {s : Shp} (hp : S[p]? = some (k, s)) (hh : ∀ a, a ≠ k → h'.1 a = h.1 a ∧ h'.2 a = h.2 a) : (WD S q cy h).set p (q k, ce q cy h' k s) = WD S q cy h' := by
  apply List.ext_getElem?
  intro i
  have hl : p < (WD S q cy h).length := by unfold WD; rw [List.length_map]; exact (List.getElem?_eq_some_iff.mp hp).1
  by_cases hpi : p = i
  · subst hpi
    rw [List.getElem?_set_self hl]
    unfold WD
    rw [List.getElem?_map, hp]; rfl
  · rw [List.getElem?_set_ne hpi]
    unfold WD
    rw [List.getElem?_map, List.getElem?_map]
    cases hi : S[i]? with
    | none => rfl
    | some e =>
      have hne : e.1 ≠ k := fun x => hpi (shs_id hn hp hi x.symm)
      simp only [Option.map]
      rw [ce_same (hh _ hne).1 (hh _ hne).2]
theorem wI_off {h : Hp} {k j : Nat} {v : Int32} : ∀ a, a ≠ k → (wI h k j v).1 a = h.1 a ∧ (wI h k j v).2 a = h.2 a := fun a ha => ⟨by funext b; simp [wI, ha], rfl⟩
theorem wL_off {h : Hp} {k j : Nat} {v : Int64} : ∀ a, a ≠ k → (wL h k j v).1 a = h.1 a ∧ (wL h k j v).2 a = h.2 a := fun a ha => ⟨rfl, by funext b; simp [wL, ha]⟩
theorem wI_upd {h : Hp} {k j : Nat} {v : Int32} : (wI h k j v).1 k = upd (h.1 k) j v := by funext b; simp [wI, upd]
theorem wL_upd {h : Hp} {k j : Nat} {v : Int64} : (wL h k j v).2 k = vp_updL (h.2 k) j v := by funext b; simp [wL, vp_updL]
def ids (S : List (Nat × Shp)) : List Nat := S.map Prod.fst
def qi (S : List (Nat × Shp)) (q : Nat → Nat) : Prop := ∀ a b, a ∈ ids S → b ∈ ids S → q a = q b → a = b
def AA (S : List (Nat × Shp)) (q : Nat → Nat) : Nat → Prop := fun a => ∃ k, k ∈ ids S ∧ a = q k
theorem WD_D {S : List (Nat × Shp)} (hn : nd S) {q : Nat → Nat} {cy : Nat → ClassId} {h : Hp} {A : Nat → Prop} (hq : qi S q) (hA : ∀ a, AA S q a → A a) : va_D A (WD S q cy h) := by
  have key : ∀ (i : Nat) (x : Nat × va_E), (WD S q cy h)[i]? = some x → ∃ e, S[i]? = some e ∧ x.1 = q e.1 ∧ e.1 ∈ ids S := by
    intro i x hx
    unfold WD at hx
    rw [List.getElem?_map] at hx
    cases hi : S[i]? with
    | none => rw [hi] at hx; cases hx
    | some e =>
      rw [hi] at hx
      cases hx
      exact ⟨e, rfl, rfl, List.mem_map_of_mem (List.mem_of_getElem? hi)⟩
  refine ⟨fun i j x y hx hy hxy => ?_, fun i x hx => ?_⟩
  · obtain ⟨e, h1, h2, h3⟩ := key i x hx
    obtain ⟨e', h1', h2', h3'⟩ := key j y hy
    exact shs_id hn h1 h1' (hq _ _ h3 h3' (h2.symm.trans (hxy.trans h2')))
  · obtain ⟨e, h1, h2, h3⟩ := key i x hx
    exact hA _ ⟨e.1, h3, h2⟩
def tyl (cy : Nat → ClassId) : List (ClassId × FieldType) := [(cy 0, .int), (cy 1, .long), (cy 2, .byte), (cy 3, .boolean), (cy 4, .object "AfterOffice$Facts"), (cy 5, .object "AfterOffice$Letter")]
def rmL (n : Nat) : Room := { frames := n, cells := 0, slots := 0, locals := 40 * n }
abbrev ZT : Type := Launch × (Nat → Nat) × va_G × (Nat → ClassId) × List (Nat × Shp)
abbrev GT : Type := (Program × Env × Room × State × MethodId) × (Array Value × List Frame × Method × Code) × ((Nat → Prop) × Nat × Nat × (State → Prop))
def fsi (j : Nat) : Int32 := if j = 0 then 0 else if j = 1 then 1 else if j = 2 then 11 else if j = 3 then 56 else 176
/-- what lies outside the cells: the static row FEW_STARTS, and the words of nest mates -/
def SX (q : Nat → Nat) (A : Nat → Prop) (U : State) (H : Heap) : Prop := va_Z "AfterOffice" "FEW_STARTS" "[I" (.ref (q 999)) A U H ∧ va_T .int (q 999) 5 (fun j => .int (fsi j)) A U H ∧ (∀ o i y g, Cond.methodLinkNest o i y g ∈ lw_tbl → va_Nw (.methodLinkNest o i y g) U) ∧ (∀ o i b n d g, Cond.fieldLinkNest o i b n d g ∈ lw_tbl → va_Nw (.fieldLinkNest o i b n d g) U)
theorem SX.moved {q : Nat → Nat} {A : Nat → Prop} {s U : State} {H : Heap} (hW : s.WarmedH U.vm) (h : SX q A s H) : SX q A U H := ⟨h.1.moved hW.alike, h.2.1.moved hW.alike, fun o i y g hm => (h.2.2.1 o i y g hm).warmM hW, fun o i b n d g hm => (h.2.2.2 o i b n d g hm).warmF hW⟩
theorem SX.kept {q : Nat → Nat} {A : Nat → Prop} {U : State} {H H1 : Heap} (h : SX q A U H) (hq : ∀ a : Nat, a < H.size → ¬ A a → H1[a]? = H[a]?) : SX q A U H1 := ⟨h.1.kept hq, h.2.1.kept hq, h.2.2⟩
theorem SX.narrow {q : Nat → Nat} {A B : Nat → Prop} {U : State} {H : Heap} (h : SX q A U H) (hAB : ∀ a, B a → A a) : SX q B U H := ⟨h.1.narrow hAB, h.2.1.narrow hAB, h.2.2⟩
theorem SX.blind {q : Nat → Nat} {A : Nat → Prop} {U V : State} {H : Heap} (h : SX q A U H) (e : U.vm = V.vm) : SX q A V H := ⟨h.1.moved (e ▸ Vm.Alike.refl U.vm), h.2.1.moved (e ▸ Vm.Alike.refl U.vm), fun o i y g hm => (h.2.2.1 o i y g hm).same rfl e, fun o i b n d g hm => (h.2.2.2 o i b n d g hm).same rfl e⟩
def WW (Z : ZT) (h : Hp) (U : State) : Prop := va_P Z.2.2.1 vwCl (WD Z.2.2.2.2 Z.2.1 Z.2.2.2.1 h) U.heap ∧ va_K Z.2.2.1 vwCl (tyl Z.2.2.2.1) U ∧ qi Z.2.2.2.2 Z.2.1 ∧ SX Z.2.1 (AA Z.2.2.2.2 Z.2.1) U U.heap ∧ nd Z.2.2.2.2
def PC (Z : ZT) (avs : List Value) (h : Hp) : Array Value → State → Prop := fun v U => v = avs.toArray ∧ WW Z h U
def QC (Z : ZT) (ov : Option Value) (h' : Hp) : Array Value → State → Outcome → State → Prop := fun _ st oc t => oc = .returned ov ∧ WW Z h' t ∧ va_F (AA Z.2.2.2.2 Z.2.1) st t
/-- a method's contract: with these arguments and this heap it returns ov and leaves h' -/
def MC (Z : ZT) (y : MethodName) (cc : ByteArray) (mL : Nat) (ret : Option FieldType) (n : Nat) (avs : List Value) (h : Hp) (ov : Option Value) (h' : Hp) : Prop :=
  Met Z.1 y (Cond.code y cc mL ret :: TB) (rmL n) (PC Z avs h) (QC Z ov h') 0 0 (AA Z.2.2.2.2 Z.2.1)
def J (Z : ZT) (G : GT) (nL : Nat) (h : Hp) (pc : Nat) (lv : List (Nat × Value)) (st : List Value) : Prop :=
  ∀ (H : Heap) (locs : List Loc) (ls : Array Slot), va_P Z.2.2.1 vwCl (WD Z.2.2.2.2 Z.2.1 Z.2.2.2.1 h) H → va_S G.2.2.1 G.1.2.2.2.1.heap H locs → lv_has ls nL lv →
    W G.1.1 Z.1 G.1.2.1 G.1.2.2.1 G.1.2.2.2.1 G.1.2.2.2.2 G.2.1.1 G.2.1.2.1 G.2.1.2.2.1 G.2.1.2.2.2 H locs G.2.2.2.1 G.2.2.2.2.1 G.2.2.2.2.2 (F0 G.1.2.2.2.2 pc ls st)
def CX (Z : ZT) (G : GT) (cc : ByteArray) (own : String) (nL n : Nat) : Prop :=
  G.1.1.tables.exec = Jvm.exec ∧ G.2.1.2.2.2.code = cc ∧ G.2.1.2.2.2.maxLocals = nL ∧ G.1.2.2.2.1.vm.findClass own = some G.1.2.2.2.2.cls ∧ (∀ w ∈ TB, w.before G.2.1.1 G.1.2.2.2.1 = true) ∧ va_K Z.2.2.1 vwCl (tyl Z.2.2.2.1) G.1.2.2.2.1 ∧ qi Z.2.2.2.2 Z.2.1 ∧ (n ≤ G.1.2.2.1.frames ∧ 40 * n ≤ G.1.2.2.1.locals ∧ G.2.2.2.1 ≤ G.1.2.2.1.cells ∧ G.2.2.2.2.1 ≤ G.1.2.2.1.slots) ∧ (∀ a, AA Z.2.2.2.2 Z.2.1 a → G.2.2.1 a) ∧ SX Z.2.1 G.2.2.1 G.1.2.2.2.1 G.1.2.2.2.1.heap ∧ nd Z.2.2.2.2
def RX (Z : ZT) (G : GT) (ret : Option FieldType) (ov : Option Value) (h' : Hp) : Prop :=
  G.2.2 = (AA Z.2.2.2.2 Z.2.1, 0, 0, MQ G.2.1.2.1 (QC Z ov h') G.2.1.1 G.1.2.2.2.1 0 0 (AA Z.2.2.2.2 Z.2.1)) ∧ G.2.1.2.2.1.sig.returnType = ret ∧ G.2.1.2.2.1.locks = false
theorem gTB {y : MethodName} {cc : ByteArray} {mL : Nat} {ret : Option FieldType} (hc : Cond.code y cc mL ret ∈ TB) : GoodIn TB (Cond.code y cc mL ret :: TB) := fun w hw => by
  have hm : w ∈ TB := by
    rcases List.mem_cons.mp hw with rfl | h
    · exact hc
    · exact h
  exact ⟨hm, good_of_word (List.mem_filter.mp hm).2⟩
theorem PC_blind {Z : ZT} {avs : List Value} {h : Hp} : FrameBlind (PC Z avs h) := fun a U g mk ⟨e, hP, hK, hq, hx, hn⟩ => ⟨e, hP, va_K.moved (u := U) (U := U.calling g mk a) (Vm.Alike.refl U.vm) hK, hq, hx.blind (V := U.calling g mk a) rfl, hn⟩
theorem mc_start {Z : ZT} {y : MethodName} {cc : ByteArray} {mL : Nat} {ret : Option FieldType} {n : Nat} {avs : List Value} {h : Hp} {ov : Option Value} {h' : Hp} (hy : plainName y.cls = true) (hlen : (lg_sl avs).length ≤ mL)
    (k : ∀ G, CX Z G cc y.cls mL n → RX Z G ret ov h' → J Z G mL h 0 (lv_args 0 avs) []) : MC Z y cc mL ret n avs h ov h' := by
  refine Met.ofW (cc := cc) (maxL := mL) (ret := ret) hy rfl ?_
  intro p e s m args below meth c s₁ B hml hv
  obtain ⟨rfl, hP, hK, hq, hx, hn⟩ := hv
  have hts := atoms_spec (ws := Cond.code y cc mL ret :: TB) B.pre
  have hown : s.vm.findClass y.cls = some m.cls := findClass_of_methodNamed B.named
  have hl := lv_entry avs (n := mL) hlen
  rw [lg_entry_eq]
  generalize (lg_sl avs ++ List.replicate (mL - (lg_sl avs).length) Slot.unset).toArray = ls at hl ⊢
  exact k ((p, e, rmL n, s, m), (avs.toArray, below, meth, c), (AA Z.2.2.2.2 Z.2.1, 0, 0, MQ below (QC Z ov h') avs.toArray s 0 0 (AA Z.2.2.2.2 Z.2.1))) ⟨B.exec, B.bytes, hml, hown, fun w hw => hts w (List.mem_cons_of_mem _ hw), hK, hq, ⟨Nat.le_refl _, Nat.le_refl _, Nat.le_refl _, Nat.le_refl _⟩, fun _ h => h, hx, hn⟩ ⟨rfl, B.returns, B.notSynchronized⟩ s.heap [] ls hP va_S.rf hl
section RULES
variable {Z : ZT} {G : GT} {cc : ByteArray} {own : String} {nL n : Nat} {h : Hp} {pc : Nat} {lv : List (Nat × Value)} {st : List Value} {ρ : Type} {res : ρ}
theorem j_lv (lv' : List (Nat × Value)) (ks : List Nat) (e : lv_pick lv ks = lv') (k : J Z G nL h pc lv' st) : J Z G nL h pc lv st := fun H locs ls hP hS hl => k H locs ls hP hS (lv_sub hl ks e)
theorem j_iconst {a : Int} (v : Int32) (X : CX Z G cc own nL n) (d : decode cc pc = .ok (.iconst a, 1)) (hv : Int32.ofInt a = v) (k : J Z G nL h (pc + 1) lv (.int v :: st)) : J Z G nL h pc lv st := fun H locs ls hP hS hl => lv_iconst X.1 X.2.1 d hv (k H locs ls hP hS hl)
theorem j_bipush {a : Int} (v : Int32) (X : CX Z G cc own nL n) (d : decode cc pc = .ok (.bipush a, 2)) (hv : (Int8.ofInt a).toInt32 = v) (k : J Z G nL h (pc + 2) lv (.int v :: st)) : J Z G nL h pc lv st := fun H locs ls hP hS hl => lv_bipush X.1 X.2.1 d hv (k H locs ls hP hS hl)
theorem j_sipush {a : Int} (v : Int32) (X : CX Z G cc own nL n) (d : decode cc pc = .ok (.sipush a, 3)) (hv : (Int16.ofInt a).toInt32 = v) (k : J Z G nL h (pc + 3) lv (.int v :: st)) : J Z G nL h pc lv st := fun H locs ls hP hS hl => lv_sipush X.1 X.2.1 d hv (k H locs ls hP hS hl)
theorem j_lconst {a : Fin 2} (v : Int64) (X : CX Z G cc own nL n) (d : decode cc pc = .ok (.lconst a, 1)) (hv : Int64.ofNat (a : Nat) = v) (k : J Z G nL h (pc + 1) lv (.long v :: st)) : J Z G nL h pc lv st := fun H locs ls hP hS hl => lv_lconst X.1 X.2.1 d hv (k H locs ls hP hS hl)
theorem j_iload_n {a : Fin 4} {x : Int32} (pl : Nat) (X : CX Z G cc own nL n) (d : decode cc pc = .ok (.iload_n a, 1)) (hx : lv[pl]? = some ((a : Nat), .int x)) (k : J Z G nL h (pc + 1) lv (.int x :: st)) : J Z G nL h pc lv st := fun H locs ls hP hS hl => lv_iload_n X.1 X.2.1 d rfl (lv_at hl pl hx) (k H locs ls hP hS hl)
theorem j_iload {a : Nat} {x : Int32} (pl : Nat) (X : CX Z G cc own nL n) (d : decode cc pc = .ok (.iload a, 2)) (hx : lv[pl]? = some ((a : Nat), .int x)) (k : J Z G nL h (pc + 2) lv (.int x :: st)) : J Z G nL h pc lv st := fun H locs ls hP hS hl => lv_iload X.1 X.2.1 d (lv_at hl pl hx) (k H locs ls hP hS hl)
theorem j_lload_n {a : Fin 4} {x : Int64} (pl : Nat) (X : CX Z G cc own nL n) (d : decode cc pc = .ok (.lload_n a, 1)) (hx : lv[pl]? = some ((a : Nat), .long x)) (k : J Z G nL h (pc + 1) lv (.long x :: st)) : J Z G nL h pc lv st := fun H locs ls hP hS hl => lv_lload_n X.1 X.2.1 d rfl (lv_at hl pl hx) (k H locs ls hP hS hl)
theorem j_lload {a : Nat} {x : Int64} (pl : Nat) (X : CX Z G cc own nL n) (d : decode cc pc = .ok (.lload a, 2)) (hx : lv[pl]? = some ((a : Nat), .long x)) (k : J Z G nL h (pc + 2) lv (.long x :: st)) : J Z G nL h pc lv st := fun H locs ls hP hS hl => lv_lload X.1 X.2.1 d (lv_at hl pl hx) (k H locs ls hP hS hl)
theorem j_aload_n {a : Fin 4} {x : Nat} (pl : Nat) (X : CX Z G cc own nL n) (d : decode cc pc = .ok (.aload_n a, 1)) (hx : lv[pl]? = some ((a : Nat), .ref x)) (k : J Z G nL h (pc + 1) lv (.ref x :: st)) : J Z G nL h pc lv st := fun H locs ls hP hS hl => lv_aload_n X.1 X.2.1 d rfl (lv_at hl pl hx) (k H locs ls hP hS hl)
theorem j_aload {a : Nat} {x : Nat} (pl : Nat) (X : CX Z G cc own nL n) (d : decode cc pc = .ok (.aload a, 2)) (hx : lv[pl]? = some ((a : Nat), .ref x)) (k : J Z G nL h (pc + 2) lv (.ref x :: st)) : J Z G nL h pc lv st := fun H locs ls hP hS hl => lv_aload X.1 X.2.1 d (lv_at hl pl hx) (k H locs ls hP hS hl)
theorem j_istore_n {a : Fin 4} {x : Int32} {f : Int32 → Option ρ} (lv' : Int32 → List (Nat × Value)) (X : CX Z G cc own nL n) (d : decode cc pc = .ok (.istore_n a, 1)) (hn : (a : Nat) < nL) (hl' : ∀ y, ((a : Nat), Value.int y) :: lv.filter (fun q => !(q.1 == (a : Nat)) && !(q.1 + 1 == (a : Nat) && q.2.category == 2)) = lv' y) (hF : lt x f = some res) (k : ∀ y, f y = some res → J Z G nL h (pc + 1) (lv' y) st) : J Z G nL h pc lv (.int x :: st) := fun H locs ls hP hS hl => lv_istore_n X.1 X.2.1 d rfl hl hn (hl' x) (fun ls2 hl2 => k x hF H locs ls2 hP hS hl2)
theorem j_istore {a : Nat} {x : Int32} {f : Int32 → Option ρ} (lv' : Int32 → List (Nat × Value)) (X : CX Z G cc own nL n) (d : decode cc pc = .ok (.istore a, 2)) (hn : (a : Nat) < nL) (hl' : ∀ y, ((a : Nat), Value.int y) :: lv.filter (fun q => !(q.1 == (a : Nat)) && !(q.1 + 1 == (a : Nat) && q.2.category == 2)) = lv' y) (hF : lt x f = some res) (k : ∀ y, f y = some res → J Z G nL h (pc + 2) (lv' y) st) : J Z G nL h pc lv (.int x :: st) := fun H locs ls hP hS hl => lv_istore X.1 X.2.1 d hl hn (hl' x) (fun ls2 hl2 => k x hF H locs ls2 hP hS hl2)
theorem j_lstore_n {a : Fin 4} {x : Int64} {f : Int64 → Option ρ} (lv' : Int64 → List (Nat × Value)) (X : CX Z G cc own nL n) (d : decode cc pc = .ok (.lstore_n a, 1)) (hn : (a : Nat) + 1 < nL) (hl' : ∀ y, ((a : Nat), Value.long y) :: lv.filter (fun q => !(q.1 == (a : Nat)) && (!(q.1 == (a : Nat) + 1) && !(q.1 + 1 == (a : Nat) && q.2.category == 2))) = lv' y) (hF : lt x f = some res) (k : ∀ y, f y = some res → J Z G nL h (pc + 1) (lv' y) st) : J Z G nL h pc lv (.long x :: st) := fun H locs ls hP hS hl => lv_lstore_n X.1 X.2.1 d rfl hl hn (hl' x) (fun ls2 hl2 => k x hF H locs ls2 hP hS hl2)
theorem j_lstore {a : Nat} {x : Int64} {f : Int64 → Option ρ} (lv' : Int64 → List (Nat × Value)) (X : CX Z G cc own nL n) (d : decode cc pc = .ok (.lstore a, 2)) (hn : (a : Nat) + 1 < nL) (hl' : ∀ y, ((a : Nat), Value.long y) :: lv.filter (fun q => !(q.1 == (a : Nat)) && (!(q.1 == (a : Nat) + 1) && !(q.1 + 1 == (a : Nat) && q.2.category == 2))) = lv' y) (hF : lt x f = some res) (k : ∀ y, f y = some res → J Z G nL h (pc + 2) (lv' y) st) : J Z G nL h pc lv (.long x :: st) := fun H locs ls hP hS hl => lv_lstore X.1 X.2.1 d hl hn (hl' x) (fun ls2 hl2 => k x hF H locs ls2 hP hS hl2)
theorem j_astore_n {a : Fin 4} {x : Nat} (lv' : List (Nat × Value)) (X : CX Z G cc own nL n) (d : decode cc pc = .ok (.astore_n a, 1)) (hn : (a : Nat) < nL) (hl' : ((a : Nat), Value.ref x) :: lv.filter (fun q => !(q.1 == (a : Nat)) && !(q.1 + 1 == (a : Nat) && q.2.category == 2)) = lv') (k : J Z G nL h (pc + 1) lv' st) : J Z G nL h pc lv (.ref x :: st) := fun H locs ls hP hS hl => lv_astore_n X.1 X.2.1 d rfl hl hn hl' (fun ls2 hl2 => k H locs ls2 hP hS hl2)
theorem j_astore {a : Nat} {x : Nat} (lv' : List (Nat × Value)) (X : CX Z G cc own nL n) (d : decode cc pc = .ok (.astore a, 2)) (hn : (a : Nat) < nL) (hl' : ((a : Nat), Value.ref x) :: lv.filter (fun q => !(q.1 == (a : Nat)) && !(q.1 + 1 == (a : Nat) && q.2.category == 2)) = lv') (k : J Z G nL h (pc + 2) lv' st) : J Z G nL h pc lv (.ref x :: st) := fun H locs ls hP hS hl => lv_astore X.1 X.2.1 d hl hn hl' (fun ls2 hl2 => k H locs ls2 hP hS hl2)
theorem j_iinc {a : Nat} {b : Int} {x : Int32} {f : Int32 → Option ρ} (pl : Nat) (v : Int32) (lv' : Int32 → List (Nat × Value)) (X : CX Z G cc own nL n) (d : decode cc pc = .ok (.iinc a b, 3)) (hx : lv[pl]? = some (a, .int x)) (hv : x + Int32.ofInt b = v) (hn : a < nL) (hl' : ∀ y, (a, Value.int y) :: lv.filter (fun q => !(q.1 == (a : Nat)) && !(q.1 + 1 == (a : Nat) && q.2.category == 2)) = lv' y) (hF : lt v f = some res) (k : ∀ y, f y = some res → J Z G nL h (pc + 3) (lv' y) st) : J Z G nL h pc lv st := fun H locs ls hP hS hl => lv_iinc X.1 X.2.1 d hl hx hv hn (hl' v) (fun ls2 hl2 => k v hF H locs ls2 hP hS hl2)
theorem j_iadd {x y : Int32} (X : CX Z G cc own nL n) (d : decode cc pc = .ok (.iadd, 1)) (k : J Z G nL h (pc + 1) lv (.int (x + y) :: st)) : J Z G nL h pc lv (.int y :: .int x :: st) := fun H locs ls hP hS hl => lv_iadd X.1 X.2.1 d (k H locs ls hP hS hl)
theorem j_isub {x y : Int32} (X : CX Z G cc own nL n) (d : decode cc pc = .ok (.isub, 1)) (k : J Z G nL h (pc + 1) lv (.int (x - y) :: st)) : J Z G nL h pc lv (.int y :: .int x :: st) := fun H locs ls hP hS hl => lv_isub X.1 X.2.1 d (k H locs ls hP hS hl)
theorem j_imul {x y : Int32} (X : CX Z G cc own nL n) (d : decode cc pc = .ok (.imul, 1)) (k : J Z G nL h (pc + 1) lv (.int (x * y) :: st)) : J Z G nL h pc lv (.int y :: .int x :: st) := fun H locs ls hP hS hl => lv_imul X.1 X.2.1 d (k H locs ls hP hS hl)
theorem j_ishl {x y : Int32} (X : CX Z G cc own nL n) (d : decode cc pc = .ok (.ishl, 1)) (k : J Z G nL h (pc + 1) lv (.int (x <<< (y &&& 31)) :: st)) : J Z G nL h pc lv (.int y :: .int x :: st) := fun H locs ls hP hS hl => lv_ishl X.1 X.2.1 d (k H locs ls hP hS hl)
theorem j_ishr {x y : Int32} (X : CX Z G cc own nL n) (d : decode cc pc = .ok (.ishr, 1)) (k : J Z G nL h (pc + 1) lv (.int (x >>> (y &&& 31)) :: st)) : J Z G nL h pc lv (.int y :: .int x :: st) := fun H locs ls hP hS hl => lv_ishr X.1 X.2.1 d (k H locs ls hP hS hl)
theorem j_iand {x y : Int32} (X : CX Z G cc own nL n) (d : decode cc pc = .ok (.iand, 1)) (k : J Z G nL h (pc + 1) lv (.int (x &&& y) :: st)) : J Z G nL h pc lv (.int y :: .int x :: st) := fun H locs ls hP hS hl => lv_iand X.1 X.2.1 d (k H locs ls hP hS hl)
theorem j_ior {x y : Int32} (X : CX Z G cc own nL n) (d : decode cc pc = .ok (.ior, 1)) (k : J Z G nL h (pc + 1) lv (.int (x ||| y) :: st)) : J Z G nL h pc lv (.int y :: .int x :: st) := fun H locs ls hP hS hl => lv_ior X.1 X.2.1 d (k H locs ls hP hS hl)
theorem j_ixor {x y : Int32} (X : CX Z G cc own nL n) (d : decode cc pc = .ok (.ixor, 1)) (k : J Z G nL h (pc + 1) lv (.int (x ^^^ y) :: st)) : J Z G nL h pc lv (.int y :: .int x :: st) := fun H locs ls hP hS hl => lv_ixor X.1 X.2.1 d (k H locs ls hP hS hl)
def ushr (x y : Int32) : Int32 := (x.toUInt32 >>> (y.toUInt32 &&& Int32.toUInt32 31)).toInt32
theorem j_iushr {x y : Int32} (X : CX Z G cc own nL n) (d : decode cc pc = .ok (.iushr, 1)) (k : J Z G nL h (pc + 1) lv (.int (ushr x y) :: st)) : J Z G nL h pc lv (.int y :: .int x :: st) := fun H locs ls hP hS hl => lv_iushr X.1 X.2.1 d rfl (k H locs ls hP hS hl)
theorem j_idiv {x y : Int32} {o : Option ρ} (X : CX Z G cc own nL n) (d : decode cc pc = .ok (.idiv, 1)) (hF : ck (nz y) o = some res) (k : o = some res → J Z G nL h (pc + 1) lv (.int (x / y) :: st)) : J Z G nL h pc lv (.int y :: .int x :: st) := fun H locs ls hP hS hl => lv_idiv X.1 X.2.1 d (nz_ne (ck_el hF).1) (k (ck_el hF).2 H locs ls hP hS hl)
theorem j_irem {x y : Int32} {o : Option ρ} (X : CX Z G cc own nL n) (d : decode cc pc = .ok (.irem, 1)) (hF : ck (nz y) o = some res) (k : o = some res → J Z G nL h (pc + 1) lv (.int (x - x / y * y) :: st)) : J Z G nL h pc lv (.int y :: .int x :: st) := fun H locs ls hP hS hl => lv_irem X.1 X.2.1 d (nz_ne (ck_el hF).1) (k (ck_el hF).2 H locs ls hP hS hl)
theorem j_ladd {x y : Int64} (X : CX Z G cc own nL n) (d : decode cc pc = .ok (.ladd, 1)) (k : J Z G nL h (pc + 1) lv (.long (x + y) :: st)) : J Z G nL h pc lv (.long y :: .long x :: st) := fun H locs ls hP hS hl => lv_ladd X.1 X.2.1 d (k H locs ls hP hS hl)
theorem j_lsub {x y : Int64} (X : CX Z G cc own nL n) (d : decode cc pc = .ok (.lsub, 1)) (k : J Z G nL h (pc + 1) lv (.long (x - y) :: st)) : J Z G nL h pc lv (.long y :: .long x :: st) := fun H locs ls hP hS hl => lv_lsub X.1 X.2.1 d (k H locs ls hP hS hl)
theorem j_lmul {x y : Int64} (X : CX Z G cc own nL n) (d : decode cc pc = .ok (.lmul, 1)) (k : J Z G nL h (pc + 1) lv (.long (x * y) :: st)) : J Z G nL h pc lv (.long y :: .long x :: st) := fun H locs ls hP hS hl => lv_lmul X.1 X.2.1 d (k H locs ls hP hS hl)
theorem j_land {x y : Int64} (X : CX Z G cc own nL n) (d : decode cc pc = .ok (.land, 1)) (k : J Z G nL h (pc + 1) lv (.long (x &&& y) :: st)) : J Z G nL h pc lv (.long y :: .long x :: st) := fun H locs ls hP hS hl => lv_land X.1 X.2.1 d (k H locs ls hP hS hl)
theorem j_lor {x y : Int64} (X : CX Z G cc own nL n) (d : decode cc pc = .ok (.lor, 1)) (k : J Z G nL h (pc + 1) lv (.long (x ||| y) :: st)) : J Z G nL h pc lv (.long y :: .long x :: st) := fun H locs ls hP hS hl => lv_lor X.1 X.2.1 d (k H locs ls hP hS hl)
def shlL (x : Int64) (y : Int32) : Int64 := x <<< (y.toInt64 &&& 63)
def shrL (x : Int64) (y : Int32) : Int64 := x >>> (y.toInt64 &&& 63)
def ushrL (x : Int64) (y : Int32) : Int64 := (x.toUInt64 >>> (y.toInt64.toUInt64 &&& Int64.toUInt64 63)).toInt64
theorem j_lshl {x : Int64} {y : Int32} (X : CX Z G cc own nL n) (d : decode cc pc = .ok (.lshl, 1)) (k : J Z G nL h (pc + 1) lv (.long (shlL x y) :: st)) : J Z G nL h pc lv (.int y :: .long x :: st) := fun H locs ls hP hS hl => lv_lshl X.1 X.2.1 d rfl (k H locs ls hP hS hl)
theorem j_lshr {x : Int64} {y : Int32} (X : CX Z G cc own nL n) (d : decode cc pc = .ok (.lshr, 1)) (k : J Z G nL h (pc + 1) lv (.long (shrL x y) :: st)) : J Z G nL h pc lv (.int y :: .long x :: st) := fun H locs ls hP hS hl => lv_lshr X.1 X.2.1 d rfl (k H locs ls hP hS hl)
theorem j_lushr {x : Int64} {y : Int32} (X : CX Z G cc own nL n) (d : decode cc pc = .ok (.lushr, 1)) (k : J Z G nL h (pc + 1) lv (.long (ushrL x y) :: st)) : J Z G nL h pc lv (.int y :: .long x :: st) := fun H locs ls hP hS hl => lv_lushr X.1 X.2.1 d rfl (k H locs ls hP hS hl)
theorem j_i2l {x : Int32} (X : CX Z G cc own nL n) (d : decode cc pc = .ok (.i2l, 1)) (k : J Z G nL h (pc + 1) lv (.long x.toInt64 :: st)) : J Z G nL h pc lv (.int x :: st) := fun H locs ls hP hS hl => lv_i2l X.1 X.2.1 d rfl (k H locs ls hP hS hl)
theorem j_l2i {x : Int64} (X : CX Z G cc own nL n) (d : decode cc pc = .ok (.l2i, 1)) (k : J Z G nL h (pc + 1) lv (.int x.toInt32 :: st)) : J Z G nL h pc lv (.long x :: st) := fun H locs ls hP hS hl => lv_l2i X.1 X.2.1 d rfl (k H locs ls hP hS hl)
theorem j_i2b {x : Int32} (X : CX Z G cc own nL n) (d : decode cc pc = .ok (.i2b, 1)) (k : J Z G nL h (pc + 1) lv (.int x.toInt8.toInt32 :: st)) : J Z G nL h pc lv (.int x :: st) := fun H locs ls hP hS hl => lv_i2b X.1 X.2.1 d rfl (k H locs ls hP hS hl)
theorem j_lcmp {x y : Int64} (X : CX Z G cc own nL n) (d : decode cc pc = .ok (.lcmp, 1)) (k : J Z G nL h (pc + 1) lv (.int (lg_cmp x y) :: st)) : J Z G nL h pc lv (.long y :: .long x :: st) := fun H locs ls hP hS hl => W.lcmp X.1 X.2.1 d (k H locs ls hP hS hl)
theorem j_dup {v : Value} (X : CX Z G cc own nL n) (d : decode cc pc = .ok (.dup, 1)) (hv : v.category = 1) (k : J Z G nL h (pc + 1) lv (v :: v :: st)) : J Z G nL h pc lv (v :: st) := fun H locs ls hP hS hl => lv_dup X.1 X.2.1 d hv (k H locs ls hP hS hl)
theorem j_dup2 {v w : Value} (X : CX Z G cc own nL n) (d : decode cc pc = .ok (.dup2, 1)) (hv : v.category = 1) (hw : w.category = 1) (k : J Z G nL h (pc + 1) lv (v :: w :: v :: w :: st)) : J Z G nL h pc lv (v :: w :: st) := fun H locs ls hP hS hl => lv_dup2_11 X.1 X.2.1 d hv hw (k H locs ls hP hS hl)
theorem j_pop {v : Value} (X : CX Z G cc own nL n) (d : decode cc pc = .ok (.pop, 1)) (hv : v.category = 1) (k : J Z G nL h (pc + 1) lv st) : J Z G nL h pc lv (v :: st) := fun H locs ls hP hS hl => lv_pop X.1 X.2.1 d hv (k H locs ls hP hS hl)
theorem j_goto {off : Int} (tgt : Nat) (X : CX Z G cc own nL n) (d : decode cc pc = .ok (.goto off, 3)) (ht : (pc : Int) + off = (tgt : Int)) (k : J Z G nL h tgt lv st) : J Z G nL h pc lv st := fun H locs ls hP hS hl => lv_goto X.1 X.2.1 d ht (k H locs ls hP hS hl)
theorem j_icmp_eq {x y : Int32} {off : Int} {A B : Option ρ} (tgt : Nat) (X : CX Z G cc own nL n) (d : decode cc pc = .ok (.if_icmp .eq off, 3)) (ht : (pc : Int) + off = (tgt : Int)) (hF : (if x = y then A else B) = some res) (kt : A = some res → J Z G nL h tgt lv st) (kf : B = some res → J Z G nL h (pc + 3) lv st) : J Z G nL h pc lv (.int y :: .int x :: st) := fun H locs ls hP hS hl => lv_icmp_eq X.1 X.2.1 d ht (fun c => kt ((if_pos c).symm.trans hF) H locs ls hP hS hl) (fun c => kf ((if_neg c).symm.trans hF) H locs ls hP hS hl)
theorem j_icmp_ne {x y : Int32} {off : Int} {A B : Option ρ} (tgt : Nat) (X : CX Z G cc own nL n) (d : decode cc pc = .ok (.if_icmp .ne off, 3)) (ht : (pc : Int) + off = (tgt : Int)) (hF : (if x = y then B else A) = some res) (kt : A = some res → J Z G nL h tgt lv st) (kf : B = some res → J Z G nL h (pc + 3) lv st) : J Z G nL h pc lv (.int y :: .int x :: st) := fun H locs ls hP hS hl => lv_icmp_ne X.1 X.2.1 d ht (fun c => kt ((if_neg c).symm.trans hF) H locs ls hP hS hl) (fun c => kf ((if_pos c).symm.trans hF) H locs ls hP hS hl)
theorem j_icmp_lt {x y : Int32} {off : Int} {A B : Option ρ} (tgt : Nat) (X : CX Z G cc own nL n) (d : decode cc pc = .ok (.if_icmp .lt off, 3)) (ht : (pc : Int) + off = (tgt : Int)) (hF : (if x < y then A else B) = some res) (kt : A = some res → J Z G nL h tgt lv st) (kf : B = some res → J Z G nL h (pc + 3) lv st) : J Z G nL h pc lv (.int y :: .int x :: st) := fun H locs ls hP hS hl => lv_icmp_lt X.1 X.2.1 d ht (fun c => kt ((if_pos c).symm.trans hF) H locs ls hP hS hl) (fun c => kf ((if_neg c).symm.trans hF) H locs ls hP hS hl)
theorem j_icmp_ge {x y : Int32} {off : Int} {A B : Option ρ} (tgt : Nat) (X : CX Z G cc own nL n) (d : decode cc pc = .ok (.if_icmp .ge off, 3)) (ht : (pc : Int) + off = (tgt : Int)) (hF : (if y ≤ x then A else B) = some res) (kt : A = some res → J Z G nL h tgt lv st) (kf : B = some res → J Z G nL h (pc + 3) lv st) : J Z G nL h pc lv (.int y :: .int x :: st) := fun H locs ls hP hS hl => lv_icmp_ge X.1 X.2.1 d ht (fun c => kt ((if_pos c).symm.trans hF) H locs ls hP hS hl) (fun c => kf ((if_neg c).symm.trans hF) H locs ls hP hS hl)
theorem j_icmp_gt {x y : Int32} {off : Int} {A B : Option ρ} (tgt : Nat) (X : CX Z G cc own nL n) (d : decode cc pc = .ok (.if_icmp .gt off, 3)) (ht : (pc : Int) + off = (tgt : Int)) (hF : (if y < x then A else B) = some res) (kt : A = some res → J Z G nL h tgt lv st) (kf : B = some res → J Z G nL h (pc + 3) lv st) : J Z G nL h pc lv (.int y :: .int x :: st) := fun H locs ls hP hS hl => lv_icmp_gt X.1 X.2.1 d ht (fun c => kt ((if_pos c).symm.trans hF) H locs ls hP hS hl) (fun c => kf ((if_neg c).symm.trans hF) H locs ls hP hS hl)
theorem j_icmp_le {x y : Int32} {off : Int} {A B : Option ρ} (tgt : Nat) (X : CX Z G cc own nL n) (d : decode cc pc = .ok (.if_icmp .le off, 3)) (ht : (pc : Int) + off = (tgt : Int)) (hF : (if x ≤ y then A else B) = some res) (kt : A = some res → J Z G nL h tgt lv st) (kf : B = some res → J Z G nL h (pc + 3) lv st) : J Z G nL h pc lv (.int y :: .int x :: st) := fun H locs ls hP hS hl => lv_icmp_le X.1 X.2.1 d ht (fun c => kt ((if_pos c).symm.trans hF) H locs ls hP hS hl) (fun c => kf ((if_neg c).symm.trans hF) H locs ls hP hS hl)
theorem j_if_eq {x : Int32} {off : Int} {A B : Option ρ} (tgt : Nat) (X : CX Z G cc own nL n) (d : decode cc pc = .ok (.ifCond .eq off, 3)) (ht : (pc : Int) + off = (tgt : Int)) (hF : (if x = 0 then A else B) = some res) (kt : A = some res → J Z G nL h tgt lv st) (kf : B = some res → J Z G nL h (pc + 3) lv st) : J Z G nL h pc lv (.int x :: st) := fun H locs ls hP hS hl => lv_if_eq X.1 X.2.1 d ht (fun c => kt ((if_pos c).symm.trans hF) H locs ls hP hS hl) (fun c => kf ((if_neg c).symm.trans hF) H locs ls hP hS hl)
theorem j_if_ne {x : Int32} {off : Int} {A B : Option ρ} (tgt : Nat) (X : CX Z G cc own nL n) (d : decode cc pc = .ok (.ifCond .ne off, 3)) (ht : (pc : Int) + off = (tgt : Int)) (hF : (if x = 0 then B else A) = some res) (kt : A = some res → J Z G nL h tgt lv st) (kf : B = some res → J Z G nL h (pc + 3) lv st) : J Z G nL h pc lv (.int x :: st) := fun H locs ls hP hS hl => lv_if_ne X.1 X.2.1 d ht (fun c => kt ((if_neg c).symm.trans hF) H locs ls hP hS hl) (fun c => kf ((if_pos c).symm.trans hF) H locs ls hP hS hl)
theorem j_if_lt {x : Int32} {off : Int} {A B : Option ρ} (tgt : Nat) (X : CX Z G cc own nL n) (d : decode cc pc = .ok (.ifCond .lt off, 3)) (ht : (pc : Int) + off = (tgt : Int)) (hF : (if x < 0 then A else B) = some res) (kt : A = some res → J Z G nL h tgt lv st) (kf : B = some res → J Z G nL h (pc + 3) lv st) : J Z G nL h pc lv (.int x :: st) := fun H locs ls hP hS hl => lv_if_lt X.1 X.2.1 d ht (fun c => kt ((if_pos c).symm.trans hF) H locs ls hP hS hl) (fun c => kf ((if_neg c).symm.trans hF) H locs ls hP hS hl)
theorem j_if_ge {x : Int32} {off : Int} {A B : Option ρ} (tgt : Nat) (X : CX Z G cc own nL n) (d : decode cc pc = .ok (.ifCond .ge off, 3)) (ht : (pc : Int) + off = (tgt : Int)) (hF : (if 0 ≤ x then A else B) = some res) (kt : A = some res → J Z G nL h tgt lv st) (kf : B = some res → J Z G nL h (pc + 3) lv st) : J Z G nL h pc lv (.int x :: st) := fun H locs ls hP hS hl => lv_if_ge X.1 X.2.1 d ht (fun c => kt ((if_pos c).symm.trans hF) H locs ls hP hS hl) (fun c => kf ((if_neg c).symm.trans hF) H locs ls hP hS hl)
theorem j_if_gt {x : Int32} {off : Int} {A B : Option ρ} (tgt : Nat) (X : CX Z G cc own nL n) (d : decode cc pc = .ok (.ifCond .gt off, 3)) (ht : (pc : Int) + off = (tgt : Int)) (hF : (if 0 < x then A else B) = some res) (kt : A = some res → J Z G nL h tgt lv st) (kf : B = some res → J Z G nL h (pc + 3) lv st) : J Z G nL h pc lv (.int x :: st) := fun H locs ls hP hS hl => lv_if_gt X.1 X.2.1 d ht (fun c => kt ((if_pos c).symm.trans hF) H locs ls hP hS hl) (fun c => kf ((if_neg c).symm.trans hF) H locs ls hP hS hl)
theorem j_if_le {x : Int32} {off : Int} {A B : Option ρ} (tgt : Nat) (X : CX Z G cc own nL n) (d : decode cc pc = .ok (.ifCond .le off, 3)) (ht : (pc : Int) + off = (tgt : Int)) (hF : (if x ≤ 0 then A else B) = some res) (kt : A = some res → J Z G nL h tgt lv st) (kf : B = some res → J Z G nL h (pc + 3) lv st) : J Z G nL h pc lv (.int x :: st) := fun H locs ls hP hS hl => lv_if_le X.1 X.2.1 d ht (fun c => kt ((if_pos c).symm.trans hF) H locs ls hP hS hl) (fun c => kf ((if_neg c).symm.trans hF) H locs ls hP hS hl)
def FL (own : String) (idx c j : Nat) : Prop := ∃ (C : String) (TT : u_T) (N : Nat), vwCl[c]? = some (C, TT, N) ∧ (∀ w ∈ u_ws C TT N, w ∈ TB) ∧ j < N ∧ Cond.fieldLink own idx C (TT j).2.1 (TT j).2.2.1 ∈ TB ∧ (TT j).1 = C
def FP (own : String) (idx c j : Nat) (ty : FieldType) : Prop := ∃ (C : String) (TT : u_T) (N : Nat) (ty0 : Nat → FieldType), vwCl[c]? = some (C, TT, N) ∧ (∀ w ∈ u_ws C TT N, w ∈ TB) ∧ j < N ∧ Cond.fieldLink own idx C (TT j).2.1 (TT j).2.2.1 ∈ TB ∧ (TT j).1 = C ∧ (∀ k, k < N → parseFieldDescriptor (TT k).2.2.1 = some (ty0 k)) ∧ (∀ a, a < N → ∀ b, b < N → a ≠ b → (TT a).2.1 ≠ (TT b).2.1) ∧ (TT j).2.2.2 = false ∧ parseFieldDescriptor (TT j).2.2.1 = some ty
theorem j_geti {k c j idx : Nat} {fs : List (Option Nat)} (X : CX Z G cc own nL n) (d : decode cc pc = .ok (.getfield idx, 3)) (hs : (k, .inl (c, fs)) ∈ Z.2.2.2.2) (hl : FL own idx c j) (hj : fs[j]? = some none) (kk : J Z G nL h (pc + 3) lv (.int (h.1 k j) :: st)) : J Z G nL h pc lv (.ref (Z.2.1 k) :: st) := fun H locs ls hP hS hl' => by
  obtain ⟨C, TT, N, h1, h2, h3, h4, h5⟩ := hl
  obtain ⟨p, hp, hw⟩ := WD_at (q := Z.2.1) (cy := Z.2.2.2.1) (h := h) hs
  exact va_get X.1 X.2.1 X.2.2.2.2.1 h2 X.2.2.2.1 X.2.2.2.2.2.1 hP p hw h1 j h3 (X.2.2.2.2.1 _ h4) (fun x hx => by rw [h5] at hx; exact hx) (vl_i hj) d (kk H locs ls hP hS hl')
theorem j_getr {k c j t idx : Nat} {fs : List (Option Nat)} (X : CX Z G cc own nL n) (d : decode cc pc = .ok (.getfield idx, 3)) (hs : (k, .inl (c, fs)) ∈ Z.2.2.2.2) (hl : FL own idx c j) (hj : fs[j]? = some (some t)) (kk : J Z G nL h (pc + 3) lv (.ref (Z.2.1 t) :: st)) : J Z G nL h pc lv (.ref (Z.2.1 k) :: st) := fun H locs ls hP hS hl' => by
  obtain ⟨C, TT, N, h1, h2, h3, h4, h5⟩ := hl
  obtain ⟨p, hp, hw⟩ := WD_at (q := Z.2.1) (cy := Z.2.2.2.1) (h := h) hs
  exact va_get X.1 X.2.1 X.2.2.2.2.1 h2 X.2.2.2.1 X.2.2.2.2.2.1 hP p hw h1 j h3 (X.2.2.2.2.1 _ h4) (fun x hx => by rw [h5] at hx; exact hx) (vl_r hj) d (kk H locs ls hP hS hl')
theorem j_puti {k c j idx : Nat} {fs : List (Option Nat)} {x : Int32} {f : Hp → Option ρ} (X : CX Z G cc own nL n) (d : decode cc pc = .ok (.putfield idx, 3)) (hs : (k, .inl (c, fs)) ∈ Z.2.2.2.2) (hl : FP own idx c j .int) (hj : fs[j]? = some none) (hF : lt (wI h k j x) f = some res) (kk : ∀ h1, f h1 = some res → J Z G nL h1 (pc + 3) lv st) : J Z G nL h pc lv (.int x :: .ref (Z.2.1 k) :: st) := fun H locs ls hP hS hl' => by
  obtain ⟨C, TT, N, ty0, h1, h2, h3, h4, h5, h6, h7, h8, h9⟩ := hl
  obtain ⟨p, hp, hw⟩ := WD_at (q := Z.2.1) (cy := Z.2.2.2.1) (h := h) hs
  refine va_put X.1 X.2.1 X.2.2.2.2.1 h2 ty0 h6 h7 X.2.2.2.1 X.2.2.2.2.2.1 hP (WD_D X.2.2.2.2.2.2.2.2.2.2 X.2.2.2.2.2.2.1 X.2.2.2.2.2.2.2.2.1) hS p hw h1 j h3 (X.2.2.2.2.1 _ h4) (fun x hx => by rw [h5] at hx; exact hx) h8 h9 rfl rfl (by rw [vl, List.length_mapIdx]; exact (List.getElem?_eq_some_iff.mp hj).1) d (fun H1 locs1 hP1 _ hS1 => ?_)
  refine kk _ hF H1 locs1 ls ?_ hS1 hl'
  rw [vl_set hj] at hP1
  rw [← WD_set X.2.2.2.2.2.2.2.2.2.2 (cy := Z.2.2.2.1) hp wI_off]
  exact hP1
theorem j_putz {k c j idx : Nat} {fs : List (Option Nat)} {x : Int32} {f : Hp → Option ρ} (X : CX Z G cc own nL n) (d : decode cc pc = .ok (.putfield idx, 3)) (hs : (k, .inl (c, fs)) ∈ Z.2.2.2.2) (hl : FP own idx c j .boolean) (hj : fs[j]? = some none) (hF : ck (zb x) (lt (wI h k j x) f) = some res) (kk : ∀ h1, f h1 = some res → J Z G nL h1 (pc + 3) lv st) : J Z G nL h pc lv (.int x :: .ref (Z.2.1 k) :: st) := fun H locs ls hP hS hl' => by
  obtain ⟨C, TT, N, ty0, h1, h2, h3, h4, h5, h6, h7, h8, h9⟩ := hl
  obtain ⟨p, hp, hw⟩ := WD_at (q := Z.2.1) (cy := Z.2.2.2.1) (h := h) hs
  refine va_put X.1 X.2.1 X.2.2.2.2.1 h2 ty0 h6 h7 X.2.2.2.1 X.2.2.2.2.2.1 hP (WD_D X.2.2.2.2.2.2.2.2.2.2 X.2.2.2.2.2.2.1 X.2.2.2.2.2.2.2.2.1) hS p hw h1 j h3 (X.2.2.2.2.1 _ h4) (fun x hx => by rw [h5] at hx; exact hx) h8 h9 (zb_nar (ck_el hF).1) (zb_fit (ck_el hF).1) (by rw [vl, List.length_mapIdx]; exact (List.getElem?_eq_some_iff.mp hj).1) d (fun H1 locs1 hP1 _ hS1 => ?_)
  refine kk _ (ck_el hF).2 H1 locs1 ls ?_ hS1 hl'
  rw [vl_set hj] at hP1
  rw [← WD_set X.2.2.2.2.2.2.2.2.2.2 (cy := Z.2.2.2.1) hp wI_off]
  exact hP1
theorem j_iald {k len : Nat} {i : Int32} {o : Option ρ} (X : CX Z G cc own nL n) (d : decode cc pc = .ok (.iaload, 1)) (hs : (k, .inr (.inl (0, len))) ∈ Z.2.2.2.2) (hF : ck (inb i len) o = some res) (kk : o = some res → J Z G nL h (pc + 1) lv (.int (h.1 k (ix i)) :: st)) : J Z G nL h pc lv (.int i :: .ref (Z.2.1 k) :: st) := fun H locs ls hP hS hl' => by
  obtain ⟨p, hp, hw⟩ := WD_at (q := Z.2.1) (cy := Z.2.2.2.1) (h := h) hs
  exact va_iald X.1 X.2.1 X.2.2.2.2.2.1 hP p 0 hw rfl (inb_in (ck_el hF).1) d (kk (ck_el hF).2 H locs ls hP hS hl')
theorem j_bald {k len : Nat} {i : Int32} {o : Option ρ} (X : CX Z G cc own nL n) (d : decode cc pc = .ok (.baload, 1)) (hs : (k, .inr (.inl (2, len))) ∈ Z.2.2.2.2) (hF : ck (inb i len) o = some res) (kk : o = some res → J Z G nL h (pc + 1) lv (.int (h.1 k (ix i)) :: st)) : J Z G nL h pc lv (.int i :: .ref (Z.2.1 k) :: st) := fun H locs ls hP hS hl' => by
  obtain ⟨p, hp, hw⟩ := WD_at (q := Z.2.1) (cy := Z.2.2.2.1) (h := h) hs
  exact va_bald X.1 X.2.1 X.2.2.2.2.2.1 hP p 2 hw rfl (inb_in (ck_el hF).1) d (kk (ck_el hF).2 H locs ls hP hS hl')
theorem j_zald {k len : Nat} {i : Int32} {o : Option ρ} (X : CX Z G cc own nL n) (d : decode cc pc = .ok (.baload, 1)) (hs : (k, .inr (.inl (3, len))) ∈ Z.2.2.2.2) (hF : ck (inb i len) o = some res) (kk : o = some res → J Z G nL h (pc + 1) lv (.int (h.1 k (ix i)) :: st)) : J Z G nL h pc lv (.int i :: .ref (Z.2.1 k) :: st) := fun H locs ls hP hS hl' => by
  obtain ⟨p, hp, hw⟩ := WD_at (q := Z.2.1) (cy := Z.2.2.2.1) (h := h) hs
  exact va_zald X.1 X.2.1 X.2.2.2.2.2.1 hP p 3 hw rfl (inb_in (ck_el hF).1) d (kk (ck_el hF).2 H locs ls hP hS hl')
theorem j_lald {k len : Nat} {i : Int32} {o : Option ρ} (X : CX Z G cc own nL n) (d : decode cc pc = .ok (.laload, 1)) (hs : (k, .inr (.inl (1, len))) ∈ Z.2.2.2.2) (hF : ck (inb i len) o = some res) (kk : o = some res → J Z G nL h (pc + 1) lv (.long (h.2 k (ix i)) :: st)) : J Z G nL h pc lv (.int i :: .ref (Z.2.1 k) :: st) := fun H locs ls hP hS hl' => by
  obtain ⟨p, hp, hw⟩ := WD_at (q := Z.2.1) (cy := Z.2.2.2.1) (h := h) hs
  exact va_lald X.1 X.2.1 X.2.2.2.2.2.1 hP p 1 hw rfl (inb_in (ck_el hF).1) d (kk (ck_el hF).2 H locs ls hP hS hl')
theorem j_iast {k len : Nat} {i x : Int32} {f : Hp → Option ρ} (X : CX Z G cc own nL n) (d : decode cc pc = .ok (.iastore, 1)) (hs : (k, .inr (.inl (0, len))) ∈ Z.2.2.2.2) (hF : ck (inb i len) (lt (wI h k (ix i) x) f) = some res) (kk : ∀ h1, f h1 = some res → J Z G nL h1 (pc + 1) lv st) : J Z G nL h pc lv (.int x :: .int i :: .ref (Z.2.1 k) :: st) := fun H locs ls hP hS hl' => by
  obtain ⟨p, hp, hw⟩ := WD_at (q := Z.2.1) (cy := Z.2.2.2.1) (h := h) hs
  refine va_iast X.1 X.2.1 X.2.2.2.2.2.1 hP (WD_D X.2.2.2.2.2.2.2.2.2.2 X.2.2.2.2.2.2.1 X.2.2.2.2.2.2.2.2.1) hS p 0 hw rfl (inb_in (ck_el hF).1) d (fun H1 locs1 hP1 _ hS1 => ?_)
  refine kk _ (ck_el hF).2 H1 locs1 ls ?_ hS1 hl'
  rw [← WD_set X.2.2.2.2.2.2.2.2.2.2 (cy := Z.2.2.2.1) hp wI_off]
  show va_P _ _ (List.set _ p (Z.2.1 k, .inl (Z.2.2.2.1 0, len, .inl ((wI h k (ix i) x).1 k)))) H1
  rw [wI_upd]
  exact hP1
theorem j_bast {k len : Nat} {i x : Int32} {f : Hp → Option ρ} (X : CX Z G cc own nL n) (d : decode cc pc = .ok (.bastore, 1)) (hs : (k, .inr (.inl (2, len))) ∈ Z.2.2.2.2) (hF : ck (inb i len) (lt (wI h k (ix i) (vp_nar .byte x)) f) = some res) (kk : ∀ h1, f h1 = some res → J Z G nL h1 (pc + 1) lv st) : J Z G nL h pc lv (.int x :: .int i :: .ref (Z.2.1 k) :: st) := fun H locs ls hP hS hl' => by
  obtain ⟨p, hp, hw⟩ := WD_at (q := Z.2.1) (cy := Z.2.2.2.1) (h := h) hs
  refine va_bast X.1 X.2.1 X.2.2.2.2.2.1 hP (WD_D X.2.2.2.2.2.2.2.2.2.2 X.2.2.2.2.2.2.1 X.2.2.2.2.2.2.2.2.1) hS p 2 hw rfl (inb_in (ck_el hF).1) d (fun H1 locs1 hP1 _ hS1 => ?_)
  refine kk _ (ck_el hF).2 H1 locs1 ls ?_ hS1 hl'
  rw [← WD_set X.2.2.2.2.2.2.2.2.2.2 (cy := Z.2.2.2.1) hp wI_off]
  show va_P _ _ (List.set _ p (Z.2.1 k, .inl (Z.2.2.2.1 2, len, .inl ((wI h k (ix i) (vp_nar .byte x)).1 k)))) H1
  rw [wI_upd]
  exact hP1
theorem j_zast {k len : Nat} {i x : Int32} {f : Hp → Option ρ} (X : CX Z G cc own nL n) (d : decode cc pc = .ok (.bastore, 1)) (hs : (k, .inr (.inl (3, len))) ∈ Z.2.2.2.2) (hF : ck (inb i len) (lt (wI h k (ix i) (vp_nar .boolean x)) f) = some res) (kk : ∀ h1, f h1 = some res → J Z G nL h1 (pc + 1) lv st) : J Z G nL h pc lv (.int x :: .int i :: .ref (Z.2.1 k) :: st) := fun H locs ls hP hS hl' => by
  obtain ⟨p, hp, hw⟩ := WD_at (q := Z.2.1) (cy := Z.2.2.2.1) (h := h) hs
  refine va_zast X.1 X.2.1 X.2.2.2.2.2.1 hP (WD_D X.2.2.2.2.2.2.2.2.2.2 X.2.2.2.2.2.2.1 X.2.2.2.2.2.2.2.2.1) hS p 3 hw rfl (inb_in (ck_el hF).1) d (fun H1 locs1 hP1 _ hS1 => ?_)
  refine kk _ (ck_el hF).2 H1 locs1 ls ?_ hS1 hl'
  rw [← WD_set X.2.2.2.2.2.2.2.2.2.2 (cy := Z.2.2.2.1) hp wI_off]
  show va_P _ _ (List.set _ p (Z.2.1 k, .inl (Z.2.2.2.1 3, len, .inl ((wI h k (ix i) (vp_nar .boolean x)).1 k)))) H1
  rw [wI_upd]
  exact hP1
theorem j_last {k len : Nat} {i : Int32} {x : Int64} {f : Hp → Option ρ} (X : CX Z G cc own nL n) (d : decode cc pc = .ok (.lastore, 1)) (hs : (k, .inr (.inl (1, len))) ∈ Z.2.2.2.2) (hF : ck (inb i len) (lt (wL h k (ix i) x) f) = some res) (kk : ∀ h1, f h1 = some res → J Z G nL h1 (pc + 1) lv st) : J Z G nL h pc lv (.long x :: .int i :: .ref (Z.2.1 k) :: st) := fun H locs ls hP hS hl' => by
  obtain ⟨p, hp, hw⟩ := WD_at (q := Z.2.1) (cy := Z.2.2.2.1) (h := h) hs
  refine va_last X.1 X.2.1 X.2.2.2.2.2.1 hP (WD_D X.2.2.2.2.2.2.2.2.2.2 X.2.2.2.2.2.2.1 X.2.2.2.2.2.2.2.2.1) hS p 1 hw rfl (inb_in (ck_el hF).1) d (fun H1 locs1 hP1 _ hS1 => ?_)
  refine kk _ (ck_el hF).2 H1 locs1 ls ?_ hS1 hl'
  rw [← WD_set X.2.2.2.2.2.2.2.2.2.2 (cy := Z.2.2.2.1) hp wL_off]
  show va_P _ _ (List.set _ p (Z.2.1 k, .inl (Z.2.2.2.1 1, len, .inr (.inl ((wL h k (ix i) x).2 k))))) H1
  rw [wL_upd]
  exact hP1
theorem j_alen {k t len : Nat} {v : Int32} (X : CX Z G cc own nL n) (d : decode cc pc = .ok (.arraylength, 1)) (hs : (k, .inr (.inl (t, len))) ∈ Z.2.2.2.2) (ht : t < 4) (hv : Int32.ofNat len = v) (kk : J Z G nL h (pc + 1) lv (.int v :: st)) : J Z G nL h pc lv (.ref (Z.2.1 k) :: st) := fun H locs ls hP hS hl' => by
  obtain ⟨p, hp, hw⟩ := WD_at (q := Z.2.1) (cy := Z.2.2.2.1) (h := h) hs
  have hty : ∃ ty, (tyl Z.2.2.2.1)[t]? = some (Z.2.2.2.1 t, ty) := by
    rcases (show t = 0 ∨ t = 1 ∨ t = 2 ∨ t = 3 by omega) with rfl | rfl | rfl | rfl <;> exact ⟨_, rfl⟩
  obtain ⟨ty, hty⟩ := hty
  exact va_alen X.1 X.2.1 X.2.2.2.2.2.1 hP p t hw hty hv d (kk H locs ls hP hS hl')
theorem j_aald {k len t : Nat} {g : Nat → Nat} {l : List Nat} {i : Int32} {o : Option ρ} {C : String} (X : CX Z G cc own nL n) (d : decode cc pc = .ok (.aaload, 1)) (hs : (k, .inr (.inr (t, l))) ∈ Z.2.2.2.2) (hty : ∀ cy, (tyl cy)[t]? = some (cy t, .object C)) (hlen : l.length = len) (ht : ∀ j, j < len → l[j]? = some (g j)) (hF : ck (inb i len) o = some res) (kk : inb i len = true → o = some res → J Z G nL h (pc + 1) lv (.ref (Z.2.1 (g (ix i))) :: st)) : J Z G nL h pc lv (.int i :: .ref (Z.2.1 k) :: st) := fun H locs ls hP hS hl' => by
  obtain ⟨p, hp, hw⟩ := WD_at (q := Z.2.1) (cy := Z.2.2.2.1) (h := h) hs
  have hin := inb_in (ck_el hF).1
  have hlt : ix i < len := Nat.not_le.mp fun z => hin (Or.inr z)
  refine va_aldq X.1 X.2.1 X.2.2.2.2.2.1 hP p t hw (hty _) (by rw [hlen]; exact hin) d ?_
  have e : va_rf ((l[ix i]?).map Z.2.1) = .ref (Z.2.1 (g (ix i))) := by rw [ht _ hlt]; rfl
  rw [e]
  exact kk (ck_el hF).1 (ck_el hF).2 H locs ls hP hS hl'
theorem qc_end {ret : Option FieldType} {ov : Option Value} {h' : Hp} {H : Heap} {locs : List Loc} (X : CX Z G cc own nL n) (E : RX Z G ret ov h') (hP : va_P Z.2.2.1 vwCl (WD Z.2.2.2.2 Z.2.1 Z.2.2.2.1 h') H) (hS : va_S G.2.2.1 G.1.2.2.2.1.heap H locs) : ∀ t : State, t.heap = H → G.1.2.2.2.1.WarmedH t.vm → QC Z ov h' G.2.1.1 G.1.2.2.2.1 (.returned ov) t := fun t ht hW => ⟨rfl, ⟨by rw [ht]; exact hP, va_K.moved hW.alike X.2.2.2.2.2.1, X.2.2.2.2.2.2.1, by rw [ht]; exact ((X.2.2.2.2.2.2.2.2.2.1.moved hW).kept hS.2.1).narrow X.2.2.2.2.2.2.2.2.1, X.2.2.2.2.2.2.2.2.2.2⟩, by rw [E.1] at hS; exact hS.F ht⟩
theorem j_iret {x r : Int32} {h' : Hp} (X : CX Z G cc own nL n) (E : RX Z G (some .int) (some (.int r)) h') (d : decode cc pc = .ok (.ireturn, 1)) (hF : (some (x, h) : Option (Int32 × Hp)) = some (r, h')) : J Z G nL h pc lv [.int x] := fun H locs ls hP hS hl => by
  cases hF
  have hq := qc_end X E hP hS
  obtain ⟨e, hr, hlk⟩ := E
  rw [e] at hS ⊢
  exact W.iret X.1 X.2.1 hr hq hS.2.2 d hlk
theorem j_zret {x r : Int32} {h' : Hp} (X : CX Z G cc own nL n) (E : RX Z G (some .boolean) (some (.int r)) h') (d : decode cc pc = .ok (.ireturn, 1)) (hF : ck (zb x) (some (x, h) : Option (Int32 × Hp)) = some (r, h')) : J Z G nL h pc lv [.int x] := fun H locs ls hP hS hl => by
  obtain ⟨hz, hF⟩ := ck_el hF
  cases hF
  have hq := qc_end X E hP hS
  obtain ⟨e, hr, hlk⟩ := E
  rw [e] at hS ⊢
  exact W.zret X.1 X.2.1 hr (zb_nar hz) hq hS.2.2 d hlk
theorem j_lret {x r : Int64} {h' : Hp} (X : CX Z G cc own nL n) (E : RX Z G (some .long) (some (.long r)) h') (d : decode cc pc = .ok (.lreturn, 1)) (hF : (some (x, h) : Option (Int64 × Hp)) = some (r, h')) : J Z G nL h pc lv [.long x] := fun H locs ls hP hS hl => by
  cases hF
  have hq := qc_end X E hP hS
  obtain ⟨e, hr, hlk⟩ := E
  rw [e] at hS ⊢
  exact W.lret X.1 X.2.1 hr hq hS.2.2 d hlk
theorem j_aret {x r : Nat} {C : String} {h' : Hp} (X : CX Z G cc own nL n) (E : RX Z G (some (.object C)) (some (.ref (Z.2.1 r))) h') (d : decode cc pc = .ok (.areturn, 1)) (hF : (some (x, h) : Option (Nat × Hp)) = some (r, h')) : J Z G nL h pc lv [.ref (Z.2.1 x)] := fun H locs ls hP hS hl => by
  cases hF
  have hq := qc_end X E hP hS
  obtain ⟨e, hr, hlk⟩ := E
  rw [e] at hS ⊢
  exact W.aret X.1 X.2.1 hr (Or.inl ⟨_, rfl⟩) (Or.inr ⟨_, rfl⟩) hq hS.2.2 d hlk
theorem j_vret {h' : Hp} (X : CX Z G cc own nL n) (E : RX Z G none none h') (d : decode cc pc = .ok (.return_, 1)) (hF : (some h : Option Hp) = some h') : J Z G nL h pc lv [] := fun H locs ls hP hS hl => by
  cases hF
  have hq := qc_end X E hP hS
  obtain ⟨e, hr, hlk⟩ := E
  rw [e] at hS ⊢
  exact W.vret X.1 X.2.1 hr hq hS.2.2 d hlk
def CK (y : MethodName) (cc' : ByteArray) (mL : Nat) (ret : Option FieldType) (np : Nat) : Prop := Cond.code y cc' mL ret ∈ TB ∧ Cond.initialized y.cls ∈ TB ∧ (y.cls ≠ "java/lang/invoke/MethodHandle" ∧ y.cls ≠ "java/lang/invoke/VarHandle" ∧ (parseMethodDescriptor y.desc).map (fun d => d.parameters.length) = some np) ∧ mL ≤ 21
def CV (y : MethodName) : Prop := Cond.instanceMethod y ∈ TB ∧ Cond.selects y.cls y y ∈ TB
theorem j_back {y : MethodName} {a : Array Value} {g : List Value} {ov : Option Value} {h' : Hp} {rest : List Value} {H : Heap} {locs : List Loc} {ls : Array Slot} (X : CX Z G cc own nL n) (hl : lv_has ls nL lv) (hS : va_S G.2.2.1 G.1.2.2.2.1.heap H locs)
    (hr : va_Run G.1.1 Z.1 G.1.2.1 G.1.2.2.1 G.1.2.2.2.1 G.1.2.2.2.2 G.2.1.1 G.2.1.2.1 G.2.1.2.2.1 G.2.1.2.2.2 H locs G.2.2.2.1 G.2.2.2.2.1 0 0 (F0 G.1.2.2.2.2 pc ls g) rest (QC Z ov h' a) (AA Z.2.2.2.2 Z.2.1)) (kk : J Z G nL h' (pc + 3) lv (ov.toList ++ rest)) :
    W G.1.1 Z.1 G.1.2.1 G.1.2.2.1 G.1.2.2.2.1 G.1.2.2.2.2 G.2.1.1 G.2.1.2.1 G.2.1.2.2.1 G.2.1.2.2.2 H locs G.2.2.2.1 G.2.2.2.2.1 G.2.2.2.2.2 (F0 G.1.2.2.2.2 pc ls g) := by
  intro T hT XX
  obtain ⟨v, st₀, t, T', L, h0, X', hL, e1, e2, ⟨hv, ⟨hP, -⟩, hz, hk⟩, st⟩ := hr T hT XX
  cases hv
  rw [h0] at hz hk
  have hA := X.2.2.2.2.2.2.2.2.1
  obtain ⟨t2, a1, b1⟩ := kk T'.heap (locs ++ L) ls (by rw [e1]; exact hP)
    ⟨Nat.le_trans hS.1 (by rw [e1]; exact hz), fun q h1 h2 => by rw [e1, hk q (Nat.lt_of_lt_of_le h1 hS.1) (fun z => h2 (hA q z))]; exact hS.2.1 q h1 h2, fun q hq => by
      rcases List.mem_append.mp hq with h | h
      · exact hS.2.2 q h
      · exact hA _ (hL q h)⟩ hl T' rfl X'
  exact ⟨t2, st t2 a1, b1⟩
theorem j_callV {y : MethodName} {cc' : ByteArray} {mL np n' k ci idx : Nat} {ret : Option FieldType} {As rest : List Value} {ov : Option Value} {h' : Hp} {fs : List (Option Nat)} {TT : u_T} {N : Nat} (X : CX Z G cc own nL n) (d : decode cc pc = .ok (.invokevirtual idx, 3)) (hm : Cond.methodLink own idx y ∈ TB) (hc : CK y cc' mL ret np) (hv : CV y) (hk : (k, .inl (ci, fs)) ∈ Z.2.2.2.2) (hci : vwCl[ci]? = some (y.cls, TT, N)) (hn : n' + 1 ≤ n) (hAs : As.length = np) (hrest : (rest.map fun v => v.category).sum ≤ 8) (hst : st = As.reverse ++ .ref (Z.2.1 k) :: rest)
    (hM : MC Z y cc' mL ret n' (.ref (Z.2.1 k) :: As) h ov h') (kk : J Z G nL h' (pc + 3) lv (ov.toList ++ rest)) : J Z G nL h pc lv st := fun H locs ls hP hS hl => by
  subst hst
  obtain ⟨p, hp, hw⟩ := WD_at (q := Z.2.1) (cy := Z.2.2.2.1) (h := h) hk
  obtain ⟨hf1, hf2, hf3, hf4⟩ := X.2.2.2.2.2.2.2.1
  have hmL := hc.2.2.2
  refine j_back (a := (Value.ref (Z.2.1 k) :: As).toArray) (y := y) X hl hS (va_runV (As := As) (rest := rest) (Ts := TB) ⟨X.1, X.2.1, X.2.2.1, X.2.2.2.1, X.2.2.2.2.1⟩ hM ⟨callB_of np X.2.2.2.2.1 (gTB hc.1) rfl rfl rfl (X.2.2.2.2.1 _ hc.2.1) (X.2.2.2.2.1 _ hm) hc.2.2.1 ⟨Nat.le_trans (show (rmL n').frames + 1 ≤ n from hn) hf1, Nat.le_trans (show 8 + (mL + 11) + 40 * n' ≤ 40 * n by omega) hf2⟩, X.2.2.2.2.1 _ hv.1, X.2.2.2.2.1 _ hv.2⟩ ⟨PC_blind, va_recv X.2.2.2.2.2.1 hP hci hw, fun U hU hW => ⟨rfl, by rw [hU]; exact hP, va_K.moved hW.alike X.2.2.2.2.2.1, X.2.2.2.2.2.2.1, by rw [hU]; exact ((X.2.2.2.2.2.2.2.2.2.1.moved hW).kept hS.2.1).narrow X.2.2.2.2.2.2.2.2.1, X.2.2.2.2.2.2.2.2.2.2⟩⟩ rfl hAs hl.1 rfl (lv_room hrest) d ⟨hf3, hf4⟩) kk
theorem j_callS {y : MethodName} {cc' : ByteArray} {mL np n' idx : Nat} {ret : Option FieldType} {As rest : List Value} {ov : Option Value} {h' : Hp} (X : CX Z G cc own nL n) (d : decode cc pc = .ok (.invokestatic idx, 3)) (hm : Cond.methodLink own idx y ∈ TB) (hc : CK y cc' mL ret np) (hv : Cond.static y ∈ TB) (hn : n' + 1 ≤ n) (hAs : As.length = np) (hrest : (rest.map fun v => v.category).sum ≤ 8) (hst : st = As.reverse ++ rest)
    (hM : MC Z y cc' mL ret n' As h ov h') (kk : J Z G nL h' (pc + 3) lv (ov.toList ++ rest)) : J Z G nL h pc lv st := fun H locs ls hP hS hl => by
  subst hst
  obtain ⟨hf1, hf2, hf3, hf4⟩ := X.2.2.2.2.2.2.2.1
  have hmL := hc.2.2.2
  refine j_back (a := As.toArray) (y := y) X hl hS (va_runS (As := As) (rest := rest) (Ts := TB) ⟨X.1, X.2.1, X.2.2.1, X.2.2.2.1, X.2.2.2.2.1⟩ hM ⟨callB_of np X.2.2.2.2.1 (gTB hc.1) rfl rfl rfl (X.2.2.2.2.1 _ hc.2.1) (X.2.2.2.2.1 _ hm) hc.2.2.1 ⟨Nat.le_trans (show (rmL n').frames + 1 ≤ n from hn) hf1, Nat.le_trans (show 8 + (mL + 11) + 40 * n' ≤ 40 * n by omega) hf2⟩, X.2.2.2.2.1 _ hv⟩ ⟨PC_blind, fun U hU hW => ⟨rfl, by rw [hU]; exact hP, va_K.moved hW.alike X.2.2.2.2.2.1, X.2.2.2.2.2.2.1, by rw [hU]; exact ((X.2.2.2.2.2.2.2.2.2.1.moved hW).kept hS.2.1).narrow X.2.2.2.2.2.2.2.2.1, X.2.2.2.2.2.2.2.2.2.2⟩⟩ rfl hAs hl.1 rfl (lv_room hrest) d ⟨hf3, hf4⟩) kk
theorem j_callSN {y : MethodName} {host : String} {cc' : ByteArray} {mL np n' idx : Nat} {ret : Option FieldType} {As rest : List Value} {ov : Option Value} {h' : Hp} (X : CX Z G cc own nL n) (d : decode cc pc = .ok (.invokestatic idx, 3)) (hm : Cond.methodLinkNest own idx y host ∈ lw_tbl) (hc : CK y cc' mL ret np) (hv : Cond.static y ∈ TB) (hn : n' + 1 ≤ n) (hAs : As.length = np) (hrest : (rest.map fun v => v.category).sum ≤ 8) (hst : st = As.reverse ++ rest)
    (hM : MC Z y cc' mL ret n' As h ov h') (kk : J Z G nL h' (pc + 3) lv (ov.toList ++ rest)) : J Z G nL h pc lv st := fun H locs ls hP hS hl => by
  subst hst
  obtain ⟨hf1, hf2, hf3, hf4⟩ := X.2.2.2.2.2.2.2.1
  have hmL := hc.2.2.2
  refine j_back (a := As.toArray) (y := y) X hl hS (va_runSN (As := As) (rest := rest) (Ts := TB) ⟨X.1, X.2.1, X.2.2.1, X.2.2.2.1, X.2.2.2.2.1⟩ hM ⟨va_cnB np X.2.2.2.2.1 (gTB hc.1) rfl rfl rfl (X.2.2.2.2.2.2.2.2.2.1.2.2.1 _ _ _ _ hm) (X.2.2.2.2.1 _ hc.2.1) hc.2.2.1 ⟨Nat.le_trans (show (rmL n').frames + 1 ≤ n from hn) hf1, Nat.le_trans (show 8 + (mL + 11) + 40 * n' ≤ 40 * n by omega) hf2⟩, X.2.2.2.2.1 _ hv, trivial⟩ ⟨PC_blind, fun U hU hW => ⟨rfl, by rw [hU]; exact hP, va_K.moved hW.alike X.2.2.2.2.2.1, X.2.2.2.2.2.2.1, by rw [hU]; exact ((X.2.2.2.2.2.2.2.2.2.1.moved hW).kept hS.2.1).narrow X.2.2.2.2.2.2.2.2.1, X.2.2.2.2.2.2.2.2.2.2⟩⟩ rfl hAs hl.1 rfl (lv_room hrest) d ⟨hf3, hf4⟩) kk
end RULES

