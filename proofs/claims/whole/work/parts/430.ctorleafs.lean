theorem dX8_init_0 : decode cX8_init 0 = .ok (.aload_n 0, 1) := by decide +kernel
theorem dX8_init_1 : decode cX8_init 1 = .ok (.invokespecial 3, 3) := by decide +kernel
theorem dX8_init_4 : decode cX8_init 4 = .ok (.aload_n 0, 1) := by decide +kernel
theorem dX8_init_5 : decode cX8_init 5 = .ok (.sipush 2000, 3) := by decide +kernel
theorem dX8_init_8 : decode cX8_init 8 = .ok (.newarray .byte, 2) := by decide +kernel
theorem dX8_init_10 : decode cX8_init 10 = .ok (.putfield 9, 3) := by decide +kernel
theorem dX8_init_13 : decode cX8_init 13 = .ok (.return_, 1) := by decide +kernel
theorem dX3_init_0 : decode cX3_init 0 = .ok (.aload_n 0, 1) := by decide +kernel
theorem dX3_init_1 : decode cX3_init 1 = .ok (.invokespecial 3, 3) := by decide +kernel
theorem dX3_init_4 : decode cX3_init 4 = .ok (.aload_n 0, 1) := by decide +kernel
theorem dX3_init_5 : decode cX3_init 5 = .ok (.bipush 60, 2) := by decide +kernel
theorem dX3_init_7 : decode cX3_init 7 = .ok (.newarray .int, 2) := by decide +kernel
theorem dX3_init_9 : decode cX3_init 9 = .ok (.putfield 9, 3) := by decide +kernel
theorem dX3_init_12 : decode cX3_init 12 = .ok (.aload_n 0, 1) := by decide +kernel
theorem dX3_init_13 : decode cX3_init 13 = .ok (.bipush 60, 2) := by decide +kernel
theorem dX3_init_15 : decode cX3_init 15 = .ok (.newarray .int, 2) := by decide +kernel
theorem dX3_init_17 : decode cX3_init 17 = .ok (.putfield 15, 3) := by decide +kernel
theorem dX3_init_20 : decode cX3_init 20 = .ok (.aload_n 0, 1) := by decide +kernel
theorem dX3_init_21 : decode cX3_init 21 = .ok (.bipush 60, 2) := by decide +kernel
theorem dX3_init_23 : decode cX3_init 23 = .ok (.newarray .int, 2) := by decide +kernel
theorem dX3_init_25 : decode cX3_init 25 = .ok (.putfield 18, 3) := by decide +kernel
theorem dX3_init_28 : decode cX3_init 28 = .ok (.aload_n 0, 1) := by decide +kernel
theorem dX3_init_29 : decode cX3_init 29 = .ok (.bipush 60, 2) := by decide +kernel
theorem dX3_init_31 : decode cX3_init 31 = .ok (.newarray .int, 2) := by decide +kernel
theorem dX3_init_33 : decode cX3_init 33 = .ok (.putfield 21, 3) := by decide +kernel
theorem dX3_init_36 : decode cX3_init 36 = .ok (.aload_n 0, 1) := by decide +kernel
theorem dX3_init_37 : decode cX3_init 37 = .ok (.bipush 60, 2) := by decide +kernel
theorem dX3_init_39 : decode cX3_init 39 = .ok (.newarray .int, 2) := by decide +kernel
theorem dX3_init_41 : decode cX3_init 41 = .ok (.putfield 24, 3) := by decide +kernel
theorem dX3_init_44 : decode cX3_init 44 = .ok (.aload_n 0, 1) := by decide +kernel
theorem dX3_init_45 : decode cX3_init 45 = .ok (.bipush 61, 2) := by decide +kernel
theorem dX3_init_47 : decode cX3_init 47 = .ok (.newarray .int, 2) := by decide +kernel
theorem dX3_init_49 : decode cX3_init 49 = .ok (.putfield 27, 3) := by decide +kernel
theorem dX3_init_52 : decode cX3_init 52 = .ok (.return_, 1) := by decide +kernel
theorem dX4_init_0 : decode cX4_init 0 = .ok (.aload_n 0, 1) := by decide +kernel
theorem dX4_init_1 : decode cX4_init 1 = .ok (.invokespecial 1, 3) := by decide +kernel
theorem dX4_init_4 : decode cX4_init 4 = .ok (.return_, 1) := by decide +kernel
theorem dX5_init_0 : decode cX5_init 0 = .ok (.aload_n 0, 1) := by decide +kernel
theorem dX5_init_1 : decode cX5_init 1 = .ok (.invokespecial 3, 3) := by decide +kernel
theorem dX5_init_4 : decode cX5_init 4 = .ok (.aload_n 0, 1) := by decide +kernel
theorem dX5_init_5 : decode cX5_init 5 = .ok (.bipush 10, 2) := by decide +kernel
theorem dX5_init_7 : decode cX5_init 7 = .ok (.newarray .long, 2) := by decide +kernel
theorem dX5_init_9 : decode cX5_init 9 = .ok (.putfield 9, 3) := by decide +kernel
theorem dX5_init_12 : decode cX5_init 12 = .ok (.aload_n 0, 1) := by decide +kernel
theorem dX5_init_13 : decode cX5_init 13 = .ok (.iconst 4, 1) := by decide +kernel
theorem dX5_init_14 : decode cX5_init 14 = .ok (.newarray .long, 2) := by decide +kernel
theorem dX5_init_16 : decode cX5_init 16 = .ok (.putfield 15, 3) := by decide +kernel
theorem dX5_init_19 : decode cX5_init 19 = .ok (.aload_n 0, 1) := by decide +kernel
theorem dX5_init_20 : decode cX5_init 20 = .ok (.bipush 10, 2) := by decide +kernel
theorem dX5_init_22 : decode cX5_init 22 = .ok (.newarray .long, 2) := by decide +kernel
theorem dX5_init_24 : decode cX5_init 24 = .ok (.putfield 18, 3) := by decide +kernel
theorem dX5_init_27 : decode cX5_init 27 = .ok (.aload_n 0, 1) := by decide +kernel
theorem dX5_init_28 : decode cX5_init 28 = .ok (.bipush 64, 2) := by decide +kernel
theorem dX5_init_30 : decode cX5_init 30 = .ok (.newarray .int, 2) := by decide +kernel
theorem dX5_init_32 : decode cX5_init 32 = .ok (.putfield 21, 3) := by decide +kernel
theorem dX5_init_35 : decode cX5_init 35 = .ok (.aload_n 0, 1) := by decide +kernel
theorem dX5_init_36 : decode cX5_init 36 = .ok (.aload_n 1, 1) := by decide +kernel
theorem dX5_init_37 : decode cX5_init 37 = .ok (.putfield 25, 3) := by decide +kernel
theorem dX5_init_40 : decode cX5_init 40 = .ok (.aload_n 0, 1) := by decide +kernel
theorem dX5_init_41 : decode cX5_init 41 = .ok (.aload_n 2, 1) := by decide +kernel
theorem dX5_init_42 : decode cX5_init 42 = .ok (.putfield 29, 3) := by decide +kernel
theorem dX5_init_45 : decode cX5_init 45 = .ok (.return_, 1) := by decide +kernel
theorem dX6_init_0 : decode cX6_init 0 = .ok (.aload_n 0, 1) := by decide +kernel
theorem dX6_init_1 : decode cX6_init 1 = .ok (.invokespecial 3, 3) := by decide +kernel
theorem dX6_init_4 : decode cX6_init 4 = .ok (.aload_n 0, 1) := by decide +kernel
theorem dX6_init_5 : decode cX6_init 5 = .ok (.bipush 64, 2) := by decide +kernel
theorem dX6_init_7 : decode cX6_init 7 = .ok (.newarray .int, 2) := by decide +kernel
theorem dX6_init_9 : decode cX6_init 9 = .ok (.putfield 9, 3) := by decide +kernel
theorem dX6_init_12 : decode cX6_init 12 = .ok (.aload_n 0, 1) := by decide +kernel
theorem dX6_init_13 : decode cX6_init 13 = .ok (.iconst 4, 1) := by decide +kernel
theorem dX6_init_14 : decode cX6_init 14 = .ok (.newarray .int, 2) := by decide +kernel
theorem dX6_init_16 : decode cX6_init 16 = .ok (.putfield 15, 3) := by decide +kernel
theorem dX6_init_19 : decode cX6_init 19 = .ok (.aload_n 0, 1) := by decide +kernel
theorem dX6_init_20 : decode cX6_init 20 = .ok (.sipush 600, 3) := by decide +kernel
theorem dX6_init_23 : decode cX6_init 23 = .ok (.newarray .int, 2) := by decide +kernel
theorem dX6_init_25 : decode cX6_init 25 = .ok (.putfield 18, 3) := by decide +kernel
theorem dX6_init_28 : decode cX6_init 28 = .ok (.aload_n 0, 1) := by decide +kernel
theorem dX6_init_29 : decode cX6_init 29 = .ok (.sipush 240, 3) := by decide +kernel
theorem dX6_init_32 : decode cX6_init 32 = .ok (.newarray .int, 2) := by decide +kernel
theorem dX6_init_34 : decode cX6_init 34 = .ok (.putfield 21, 3) := by decide +kernel
theorem dX6_init_37 : decode cX6_init 37 = .ok (.aload_n 0, 1) := by decide +kernel
theorem dX6_init_38 : decode cX6_init 38 = .ok (.aload_n 1, 1) := by decide +kernel
theorem dX6_init_39 : decode cX6_init 39 = .ok (.putfield 24, 3) := by decide +kernel
theorem dX6_init_42 : decode cX6_init 42 = .ok (.return_, 1) := by decide +kernel
theorem dX7_init_0 : decode cX7_init 0 = .ok (.aload_n 0, 1) := by decide +kernel
theorem dX7_init_1 : decode cX7_init 1 = .ok (.invokespecial 3, 3) := by decide +kernel
theorem dX7_init_4 : decode cX7_init 4 = .ok (.aload_n 0, 1) := by decide +kernel
theorem dX7_init_5 : decode cX7_init 5 = .ok (.bipush 10, 2) := by decide +kernel
theorem dX7_init_7 : decode cX7_init 7 = .ok (.newarray .int, 2) := by decide +kernel
theorem dX7_init_9 : decode cX7_init 9 = .ok (.putfield 9, 3) := by decide +kernel
theorem dX7_init_12 : decode cX7_init 12 = .ok (.aload_n 0, 1) := by decide +kernel
theorem dX7_init_13 : decode cX7_init 13 = .ok (.aload_n 1, 1) := by decide +kernel
theorem dX7_init_14 : decode cX7_init 14 = .ok (.putfield 15, 3) := by decide +kernel
theorem dX7_init_17 : decode cX7_init 17 = .ok (.return_, 1) := by decide +kernel
theorem dX1_init_0 : decode cX1_init 0 = .ok (.aload_n 0, 1) := by decide +kernel
theorem dX1_init_1 : decode cX1_init 1 = .ok (.invokespecial 3, 3) := by decide +kernel
theorem dX1_init_4 : decode cX1_init 4 = .ok (.aload_n 0, 1) := by decide +kernel
theorem dX1_init_5 : decode cX1_init 5 = .ok (.bipush 10, 2) := by decide +kernel
theorem dX1_init_7 : decode cX1_init 7 = .ok (.newarray .int, 2) := by decide +kernel
theorem dX1_init_9 : decode cX1_init 9 = .ok (.putfield 9, 3) := by decide +kernel
theorem dX1_init_12 : decode cX1_init 12 = .ok (.aload_n 0, 1) := by decide +kernel
theorem dX1_init_13 : decode cX1_init 13 = .ok (.bipush 10, 2) := by decide +kernel
theorem dX1_init_15 : decode cX1_init 15 = .ok (.newarray .int, 2) := by decide +kernel
theorem dX1_init_17 : decode cX1_init 17 = .ok (.putfield 15, 3) := by decide +kernel
theorem dX1_init_20 : decode cX1_init 20 = .ok (.aload_n 0, 1) := by decide +kernel
theorem dX1_init_21 : decode cX1_init 21 = .ok (.bipush 10, 2) := by decide +kernel
theorem dX1_init_23 : decode cX1_init 23 = .ok (.newarray .int, 2) := by decide +kernel
theorem dX1_init_25 : decode cX1_init 25 = .ok (.putfield 18, 3) := by decide +kernel
theorem dX1_init_28 : decode cX1_init 28 = .ok (.aload_n 0, 1) := by decide +kernel
theorem dX1_init_29 : decode cX1_init 29 = .ok (.bipush 10, 2) := by decide +kernel
theorem dX1_init_31 : decode cX1_init 31 = .ok (.newarray .int, 2) := by decide +kernel
theorem dX1_init_33 : decode cX1_init 33 = .ok (.putfield 21, 3) := by decide +kernel
theorem dX1_init_36 : decode cX1_init 36 = .ok (.aload_n 0, 1) := by decide +kernel
theorem dX1_init_37 : decode cX1_init 37 = .ok (.bipush 10, 2) := by decide +kernel
theorem dX1_init_39 : decode cX1_init 39 = .ok (.newarray .int, 2) := by decide +kernel
theorem dX1_init_41 : decode cX1_init 41 = .ok (.putfield 24, 3) := by decide +kernel
theorem dX1_init_44 : decode cX1_init 44 = .ok (.aload_n 0, 1) := by decide +kernel
theorem dX1_init_45 : decode cX1_init 45 = .ok (.bipush 10, 2) := by decide +kernel
theorem dX1_init_47 : decode cX1_init 47 = .ok (.newarray .int, 2) := by decide +kernel
theorem dX1_init_49 : decode cX1_init 49 = .ok (.putfield 27, 3) := by decide +kernel
theorem dX1_init_52 : decode cX1_init 52 = .ok (.aload_n 0, 1) := by decide +kernel
theorem dX1_init_53 : decode cX1_init 53 = .ok (.bipush 60, 2) := by decide +kernel
theorem dX1_init_55 : decode cX1_init 55 = .ok (.newarray .int, 2) := by decide +kernel
theorem dX1_init_57 : decode cX1_init 57 = .ok (.putfield 30, 3) := by decide +kernel
theorem dX1_init_60 : decode cX1_init 60 = .ok (.aload_n 0, 1) := by decide +kernel
theorem dX1_init_61 : decode cX1_init 61 = .ok (.aload_n 1, 1) := by decide +kernel
theorem dX1_init_62 : decode cX1_init 62 = .ok (.putfield 33, 3) := by decide +kernel
theorem dX1_init_65 : decode cX1_init 65 = .ok (.aload_n 0, 1) := by decide +kernel
theorem dX1_init_66 : decode cX1_init 66 = .ok (.aload_n 2, 1) := by decide +kernel
theorem dX1_init_67 : decode cX1_init 67 = .ok (.putfield 37, 3) := by decide +kernel
theorem dX1_init_70 : decode cX1_init 70 = .ok (.aload_n 0, 1) := by decide +kernel
theorem dX1_init_71 : decode cX1_init 71 = .ok (.aload_n 3, 1) := by decide +kernel
theorem dX1_init_72 : decode cX1_init 72 = .ok (.putfield 41, 3) := by decide +kernel
theorem dX1_init_75 : decode cX1_init 75 = .ok (.return_, 1) := by decide +kernel
theorem ml_oi_X8 : Cond.methodLink "AfterOffice$Tape" 3 Lib.objectInit ∈ TB := tb_mem (tb_tab (tt_1 (List.mem_of_getElem? (i := 37) rfl))) rfl
theorem pF_X8_9 : ∃ (C : String) (TT : u_T) (N : Nat) (ty0 : Nat → FieldType), vwCl[8]? = some (C, TT, N) ∧ (∀ w ∈ u_ws C TT N, w ∈ TB) ∧ 0 < N ∧ Cond.fieldLink "AfterOffice$Tape" 9 C (TT 0).2.1 (TT 0).2.2.1 ∈ TB ∧ (TT 0).1 = C ∧ (∀ k, k < N → parseFieldDescriptor (TT k).2.2.1 = some (ty0 k)) ∧ (∀ a, a < N → ∀ b, b < N → a ≠ b → (TT a).2.1 ≠ (TT b).2.1) ∧ (TT 0).2.2.2 = true ∧ parseFieldDescriptor (TT 0).2.2.1 = some (tyX8 0) ∧ C = "AfterOffice$Tape" := ⟨_, _, _, tyX8, rfl, inX8, by decide, tb_mem (tb_tab (tt_1 (List.mem_of_getElem? (i := 38) rfl))) rfl, rfl, tyX8_ok, nmX8, rfl, tyX8_ok 0 (by decide), rfl⟩
theorem ml_oi_X3 : Cond.methodLink "AfterOffice$Facts" 3 Lib.objectInit ∈ TB := tb_mem (tb_tab (tt_2 (List.mem_of_getElem? (i := 101) rfl))) rfl
theorem pF_X3_9 : ∃ (C : String) (TT : u_T) (N : Nat) (ty0 : Nat → FieldType), vwCl[3]? = some (C, TT, N) ∧ (∀ w ∈ u_ws C TT N, w ∈ TB) ∧ 0 < N ∧ Cond.fieldLink "AfterOffice$Facts" 9 C (TT 0).2.1 (TT 0).2.2.1 ∈ TB ∧ (TT 0).1 = C ∧ (∀ k, k < N → parseFieldDescriptor (TT k).2.2.1 = some (ty0 k)) ∧ (∀ a, a < N → ∀ b, b < N → a ≠ b → (TT a).2.1 ≠ (TT b).2.1) ∧ (TT 0).2.2.2 = true ∧ parseFieldDescriptor (TT 0).2.2.1 = some (tyX3 0) ∧ C = "AfterOffice$Facts" := ⟨_, _, _, tyX3, rfl, inX3, by decide, tb_mem (tb_tab (tt_2 (List.mem_of_getElem? (i := 102) rfl))) rfl, rfl, tyX3_ok, nmX3, rfl, tyX3_ok 0 (by decide), rfl⟩
theorem pF_X3_15 : ∃ (C : String) (TT : u_T) (N : Nat) (ty0 : Nat → FieldType), vwCl[3]? = some (C, TT, N) ∧ (∀ w ∈ u_ws C TT N, w ∈ TB) ∧ 1 < N ∧ Cond.fieldLink "AfterOffice$Facts" 15 C (TT 1).2.1 (TT 1).2.2.1 ∈ TB ∧ (TT 1).1 = C ∧ (∀ k, k < N → parseFieldDescriptor (TT k).2.2.1 = some (ty0 k)) ∧ (∀ a, a < N → ∀ b, b < N → a ≠ b → (TT a).2.1 ≠ (TT b).2.1) ∧ (TT 1).2.2.2 = true ∧ parseFieldDescriptor (TT 1).2.2.1 = some (tyX3 1) ∧ C = "AfterOffice$Facts" := ⟨_, _, _, tyX3, rfl, inX3, by decide, tb_mem (tb_tab (tt_2 (List.mem_of_getElem? (i := 105) rfl))) rfl, rfl, tyX3_ok, nmX3, rfl, tyX3_ok 1 (by decide), rfl⟩
theorem pF_X3_18 : ∃ (C : String) (TT : u_T) (N : Nat) (ty0 : Nat → FieldType), vwCl[3]? = some (C, TT, N) ∧ (∀ w ∈ u_ws C TT N, w ∈ TB) ∧ 2 < N ∧ Cond.fieldLink "AfterOffice$Facts" 18 C (TT 2).2.1 (TT 2).2.2.1 ∈ TB ∧ (TT 2).1 = C ∧ (∀ k, k < N → parseFieldDescriptor (TT k).2.2.1 = some (ty0 k)) ∧ (∀ a, a < N → ∀ b, b < N → a ≠ b → (TT a).2.1 ≠ (TT b).2.1) ∧ (TT 2).2.2.2 = true ∧ parseFieldDescriptor (TT 2).2.2.1 = some (tyX3 2) ∧ C = "AfterOffice$Facts" := ⟨_, _, _, tyX3, rfl, inX3, by decide, tb_mem (tb_tab (tt_2 (List.mem_of_getElem? (i := 107) rfl))) rfl, rfl, tyX3_ok, nmX3, rfl, tyX3_ok 2 (by decide), rfl⟩
theorem pF_X3_21 : ∃ (C : String) (TT : u_T) (N : Nat) (ty0 : Nat → FieldType), vwCl[3]? = some (C, TT, N) ∧ (∀ w ∈ u_ws C TT N, w ∈ TB) ∧ 3 < N ∧ Cond.fieldLink "AfterOffice$Facts" 21 C (TT 3).2.1 (TT 3).2.2.1 ∈ TB ∧ (TT 3).1 = C ∧ (∀ k, k < N → parseFieldDescriptor (TT k).2.2.1 = some (ty0 k)) ∧ (∀ a, a < N → ∀ b, b < N → a ≠ b → (TT a).2.1 ≠ (TT b).2.1) ∧ (TT 3).2.2.2 = true ∧ parseFieldDescriptor (TT 3).2.2.1 = some (tyX3 3) ∧ C = "AfterOffice$Facts" := ⟨_, _, _, tyX3, rfl, inX3, by decide, tb_mem (tb_tab (tt_2 (List.mem_of_getElem? (i := 110) rfl))) rfl, rfl, tyX3_ok, nmX3, rfl, tyX3_ok 3 (by decide), rfl⟩
theorem pF_X3_24 : ∃ (C : String) (TT : u_T) (N : Nat) (ty0 : Nat → FieldType), vwCl[3]? = some (C, TT, N) ∧ (∀ w ∈ u_ws C TT N, w ∈ TB) ∧ 4 < N ∧ Cond.fieldLink "AfterOffice$Facts" 24 C (TT 4).2.1 (TT 4).2.2.1 ∈ TB ∧ (TT 4).1 = C ∧ (∀ k, k < N → parseFieldDescriptor (TT k).2.2.1 = some (ty0 k)) ∧ (∀ a, a < N → ∀ b, b < N → a ≠ b → (TT a).2.1 ≠ (TT b).2.1) ∧ (TT 4).2.2.2 = true ∧ parseFieldDescriptor (TT 4).2.2.1 = some (tyX3 4) ∧ C = "AfterOffice$Facts" := ⟨_, _, _, tyX3, rfl, inX3, by decide, tb_mem (tb_tab (tt_2 (List.mem_of_getElem? (i := 113) rfl))) rfl, rfl, tyX3_ok, nmX3, rfl, tyX3_ok 4 (by decide), rfl⟩
theorem pF_X3_27 : ∃ (C : String) (TT : u_T) (N : Nat) (ty0 : Nat → FieldType), vwCl[3]? = some (C, TT, N) ∧ (∀ w ∈ u_ws C TT N, w ∈ TB) ∧ 5 < N ∧ Cond.fieldLink "AfterOffice$Facts" 27 C (TT 5).2.1 (TT 5).2.2.1 ∈ TB ∧ (TT 5).1 = C ∧ (∀ k, k < N → parseFieldDescriptor (TT k).2.2.1 = some (ty0 k)) ∧ (∀ a, a < N → ∀ b, b < N → a ≠ b → (TT a).2.1 ≠ (TT b).2.1) ∧ (TT 5).2.2.2 = true ∧ parseFieldDescriptor (TT 5).2.2.1 = some (tyX3 5) ∧ C = "AfterOffice$Facts" := ⟨_, _, _, tyX3, rfl, inX3, by decide, tb_mem (tb_tab (tt_2 (List.mem_of_getElem? (i := 115) rfl))) rfl, rfl, tyX3_ok, nmX3, rfl, tyX3_ok 5 (by decide), rfl⟩
theorem ml_oi_X4 : Cond.methodLink "AfterOffice$Letter" 1 Lib.objectInit ∈ TB := tb_mem (tb_tab (tt_1 (List.mem_of_getElem? (i := 136) rfl))) rfl
theorem ml_oi_X5 : Cond.methodLink "AfterOffice$Parser" 3 Lib.objectInit ∈ TB := tb_mem (tb_tab (tt_2 (List.mem_of_getElem? (i := 31) rfl))) rfl
theorem pF_X5_9 : ∃ (C : String) (TT : u_T) (N : Nat) (ty0 : Nat → FieldType), vwCl[5]? = some (C, TT, N) ∧ (∀ w ∈ u_ws C TT N, w ∈ TB) ∧ 2 < N ∧ Cond.fieldLink "AfterOffice$Parser" 9 C (TT 2).2.1 (TT 2).2.2.1 ∈ TB ∧ (TT 2).1 = C ∧ (∀ k, k < N → parseFieldDescriptor (TT k).2.2.1 = some (ty0 k)) ∧ (∀ a, a < N → ∀ b, b < N → a ≠ b → (TT a).2.1 ≠ (TT b).2.1) ∧ (TT 2).2.2.2 = true ∧ parseFieldDescriptor (TT 2).2.2.1 = some (tyX5 2) ∧ C = "AfterOffice$Parser" := ⟨_, _, _, tyX5, rfl, inX5, by decide, tb_mem (tb_tab (tt_2 (List.mem_of_getElem? (i := 34) rfl))) rfl, rfl, tyX5_ok, nmX5, rfl, tyX5_ok 2 (by decide), rfl⟩
theorem pF_X5_15 : ∃ (C : String) (TT : u_T) (N : Nat) (ty0 : Nat → FieldType), vwCl[5]? = some (C, TT, N) ∧ (∀ w ∈ u_ws C TT N, w ∈ TB) ∧ 3 < N ∧ Cond.fieldLink "AfterOffice$Parser" 15 C (TT 3).2.1 (TT 3).2.2.1 ∈ TB ∧ (TT 3).1 = C ∧ (∀ k, k < N → parseFieldDescriptor (TT k).2.2.1 = some (ty0 k)) ∧ (∀ a, a < N → ∀ b, b < N → a ≠ b → (TT a).2.1 ≠ (TT b).2.1) ∧ (TT 3).2.2.2 = true ∧ parseFieldDescriptor (TT 3).2.2.1 = some (tyX5 3) ∧ C = "AfterOffice$Parser" := ⟨_, _, _, tyX5, rfl, inX5, by decide, tb_mem (tb_tab (tt_2 (List.mem_of_getElem? (i := 35) rfl))) rfl, rfl, tyX5_ok, nmX5, rfl, tyX5_ok 3 (by decide), rfl⟩
theorem pF_X5_18 : ∃ (C : String) (TT : u_T) (N : Nat) (ty0 : Nat → FieldType), vwCl[5]? = some (C, TT, N) ∧ (∀ w ∈ u_ws C TT N, w ∈ TB) ∧ 4 < N ∧ Cond.fieldLink "AfterOffice$Parser" 18 C (TT 4).2.1 (TT 4).2.2.1 ∈ TB ∧ (TT 4).1 = C ∧ (∀ k, k < N → parseFieldDescriptor (TT k).2.2.1 = some (ty0 k)) ∧ (∀ a, a < N → ∀ b, b < N → a ≠ b → (TT a).2.1 ≠ (TT b).2.1) ∧ (TT 4).2.2.2 = true ∧ parseFieldDescriptor (TT 4).2.2.1 = some (tyX5 4) ∧ C = "AfterOffice$Parser" := ⟨_, _, _, tyX5, rfl, inX5, by decide, tb_mem (tb_tab (tt_2 (List.mem_of_getElem? (i := 36) rfl))) rfl, rfl, tyX5_ok, nmX5, rfl, tyX5_ok 4 (by decide), rfl⟩
theorem pF_X5_21 : ∃ (C : String) (TT : u_T) (N : Nat) (ty0 : Nat → FieldType), vwCl[5]? = some (C, TT, N) ∧ (∀ w ∈ u_ws C TT N, w ∈ TB) ∧ 5 < N ∧ Cond.fieldLink "AfterOffice$Parser" 21 C (TT 5).2.1 (TT 5).2.2.1 ∈ TB ∧ (TT 5).1 = C ∧ (∀ k, k < N → parseFieldDescriptor (TT k).2.2.1 = some (ty0 k)) ∧ (∀ a, a < N → ∀ b, b < N → a ≠ b → (TT a).2.1 ≠ (TT b).2.1) ∧ (TT 5).2.2.2 = true ∧ parseFieldDescriptor (TT 5).2.2.1 = some (tyX5 5) ∧ C = "AfterOffice$Parser" := ⟨_, _, _, tyX5, rfl, inX5, by decide, tb_mem (tb_tab (tt_2 (List.mem_of_getElem? (i := 37) rfl))) rfl, rfl, tyX5_ok, nmX5, rfl, tyX5_ok 5 (by decide), rfl⟩
theorem pF_X5_25 : ∃ (C : String) (TT : u_T) (N : Nat) (ty0 : Nat → FieldType), vwCl[5]? = some (C, TT, N) ∧ (∀ w ∈ u_ws C TT N, w ∈ TB) ∧ 0 < N ∧ Cond.fieldLink "AfterOffice$Parser" 25 C (TT 0).2.1 (TT 0).2.2.1 ∈ TB ∧ (TT 0).1 = C ∧ (∀ k, k < N → parseFieldDescriptor (TT k).2.2.1 = some (ty0 k)) ∧ (∀ a, a < N → ∀ b, b < N → a ≠ b → (TT a).2.1 ≠ (TT b).2.1) ∧ (TT 0).2.2.2 = true ∧ parseFieldDescriptor (TT 0).2.2.1 = some (tyX5 0) ∧ C = "AfterOffice$Parser" := ⟨_, _, _, tyX5, rfl, inX5, by decide, tb_mem (tb_tab (tt_2 (List.mem_of_getElem? (i := 32) rfl))) rfl, rfl, tyX5_ok, nmX5, rfl, tyX5_ok 0 (by decide), rfl⟩
theorem pF_X5_29 : ∃ (C : String) (TT : u_T) (N : Nat) (ty0 : Nat → FieldType), vwCl[5]? = some (C, TT, N) ∧ (∀ w ∈ u_ws C TT N, w ∈ TB) ∧ 1 < N ∧ Cond.fieldLink "AfterOffice$Parser" 29 C (TT 1).2.1 (TT 1).2.2.1 ∈ TB ∧ (TT 1).1 = C ∧ (∀ k, k < N → parseFieldDescriptor (TT k).2.2.1 = some (ty0 k)) ∧ (∀ a, a < N → ∀ b, b < N → a ≠ b → (TT a).2.1 ≠ (TT b).2.1) ∧ (TT 1).2.2.2 = true ∧ parseFieldDescriptor (TT 1).2.2.1 = some (tyX5 1) ∧ C = "AfterOffice$Parser" := ⟨_, _, _, tyX5, rfl, inX5, by decide, tb_mem (tb_tab (tt_2 (List.mem_of_getElem? (i := 33) rfl))) rfl, rfl, tyX5_ok, nmX5, rfl, tyX5_ok 1 (by decide), rfl⟩
theorem ml_oi_X6 : Cond.methodLink "AfterOffice$Reckoner" 3 Lib.objectInit ∈ TB := tb_mem (tb_tab (tt_2 (List.mem_of_getElem? (i := 70) rfl))) rfl
theorem pF_X6_9 : ∃ (C : String) (TT : u_T) (N : Nat) (ty0 : Nat → FieldType), vwCl[6]? = some (C, TT, N) ∧ (∀ w ∈ u_ws C TT N, w ∈ TB) ∧ 1 < N ∧ Cond.fieldLink "AfterOffice$Reckoner" 9 C (TT 1).2.1 (TT 1).2.2.1 ∈ TB ∧ (TT 1).1 = C ∧ (∀ k, k < N → parseFieldDescriptor (TT k).2.2.1 = some (ty0 k)) ∧ (∀ a, a < N → ∀ b, b < N → a ≠ b → (TT a).2.1 ≠ (TT b).2.1) ∧ (TT 1).2.2.2 = true ∧ parseFieldDescriptor (TT 1).2.2.1 = some (tyX6 1) ∧ C = "AfterOffice$Reckoner" := ⟨_, _, _, tyX6, rfl, inX6, by decide, tb_mem (tb_tab (tt_2 (List.mem_of_getElem? (i := 72) rfl))) rfl, rfl, tyX6_ok, nmX6, rfl, tyX6_ok 1 (by decide), rfl⟩
theorem pF_X6_15 : ∃ (C : String) (TT : u_T) (N : Nat) (ty0 : Nat → FieldType), vwCl[6]? = some (C, TT, N) ∧ (∀ w ∈ u_ws C TT N, w ∈ TB) ∧ 2 < N ∧ Cond.fieldLink "AfterOffice$Reckoner" 15 C (TT 2).2.1 (TT 2).2.2.1 ∈ TB ∧ (TT 2).1 = C ∧ (∀ k, k < N → parseFieldDescriptor (TT k).2.2.1 = some (ty0 k)) ∧ (∀ a, a < N → ∀ b, b < N → a ≠ b → (TT a).2.1 ≠ (TT b).2.1) ∧ (TT 2).2.2.2 = true ∧ parseFieldDescriptor (TT 2).2.2.1 = some (tyX6 2) ∧ C = "AfterOffice$Reckoner" := ⟨_, _, _, tyX6, rfl, inX6, by decide, tb_mem (tb_tab (tt_2 (List.mem_of_getElem? (i := 73) rfl))) rfl, rfl, tyX6_ok, nmX6, rfl, tyX6_ok 2 (by decide), rfl⟩
theorem pF_X6_18 : ∃ (C : String) (TT : u_T) (N : Nat) (ty0 : Nat → FieldType), vwCl[6]? = some (C, TT, N) ∧ (∀ w ∈ u_ws C TT N, w ∈ TB) ∧ 3 < N ∧ Cond.fieldLink "AfterOffice$Reckoner" 18 C (TT 3).2.1 (TT 3).2.2.1 ∈ TB ∧ (TT 3).1 = C ∧ (∀ k, k < N → parseFieldDescriptor (TT k).2.2.1 = some (ty0 k)) ∧ (∀ a, a < N → ∀ b, b < N → a ≠ b → (TT a).2.1 ≠ (TT b).2.1) ∧ (TT 3).2.2.2 = true ∧ parseFieldDescriptor (TT 3).2.2.1 = some (tyX6 3) ∧ C = "AfterOffice$Reckoner" := ⟨_, _, _, tyX6, rfl, inX6, by decide, tb_mem (tb_tab (tt_2 (List.mem_of_getElem? (i := 74) rfl))) rfl, rfl, tyX6_ok, nmX6, rfl, tyX6_ok 3 (by decide), rfl⟩
theorem pF_X6_21 : ∃ (C : String) (TT : u_T) (N : Nat) (ty0 : Nat → FieldType), vwCl[6]? = some (C, TT, N) ∧ (∀ w ∈ u_ws C TT N, w ∈ TB) ∧ 4 < N ∧ Cond.fieldLink "AfterOffice$Reckoner" 21 C (TT 4).2.1 (TT 4).2.2.1 ∈ TB ∧ (TT 4).1 = C ∧ (∀ k, k < N → parseFieldDescriptor (TT k).2.2.1 = some (ty0 k)) ∧ (∀ a, a < N → ∀ b, b < N → a ≠ b → (TT a).2.1 ≠ (TT b).2.1) ∧ (TT 4).2.2.2 = true ∧ parseFieldDescriptor (TT 4).2.2.1 = some (tyX6 4) ∧ C = "AfterOffice$Reckoner" := ⟨_, _, _, tyX6, rfl, inX6, by decide, tb_mem (tb_tab (tt_2 (List.mem_of_getElem? (i := 75) rfl))) rfl, rfl, tyX6_ok, nmX6, rfl, tyX6_ok 4 (by decide), rfl⟩
theorem pF_X6_24 : ∃ (C : String) (TT : u_T) (N : Nat) (ty0 : Nat → FieldType), vwCl[6]? = some (C, TT, N) ∧ (∀ w ∈ u_ws C TT N, w ∈ TB) ∧ 0 < N ∧ Cond.fieldLink "AfterOffice$Reckoner" 24 C (TT 0).2.1 (TT 0).2.2.1 ∈ TB ∧ (TT 0).1 = C ∧ (∀ k, k < N → parseFieldDescriptor (TT k).2.2.1 = some (ty0 k)) ∧ (∀ a, a < N → ∀ b, b < N → a ≠ b → (TT a).2.1 ≠ (TT b).2.1) ∧ (TT 0).2.2.2 = true ∧ parseFieldDescriptor (TT 0).2.2.1 = some (tyX6 0) ∧ C = "AfterOffice$Reckoner" := ⟨_, _, _, tyX6, rfl, inX6, by decide, tb_mem (tb_tab (tt_2 (List.mem_of_getElem? (i := 71) rfl))) rfl, rfl, tyX6_ok, nmX6, rfl, tyX6_ok 0 (by decide), rfl⟩
theorem ml_oi_X7 : Cond.methodLink "AfterOffice$Rings" 3 Lib.objectInit ∈ TB := tb_mem (tb_tab (tt_3 (List.mem_of_getElem? (i := 44) rfl))) rfl
theorem pF_X7_9 : ∃ (C : String) (TT : u_T) (N : Nat) (ty0 : Nat → FieldType), vwCl[7]? = some (C, TT, N) ∧ (∀ w ∈ u_ws C TT N, w ∈ TB) ∧ 1 < N ∧ Cond.fieldLink "AfterOffice$Rings" 9 C (TT 1).2.1 (TT 1).2.2.1 ∈ TB ∧ (TT 1).1 = C ∧ (∀ k, k < N → parseFieldDescriptor (TT k).2.2.1 = some (ty0 k)) ∧ (∀ a, a < N → ∀ b, b < N → a ≠ b → (TT a).2.1 ≠ (TT b).2.1) ∧ (TT 1).2.2.2 = true ∧ parseFieldDescriptor (TT 1).2.2.1 = some (tyX7 1) ∧ C = "AfterOffice$Rings" := ⟨_, _, _, tyX7, rfl, inX7, by decide, tb_mem (tb_tab (tt_3 (List.mem_of_getElem? (i := 46) rfl))) rfl, rfl, tyX7_ok, nmX7, rfl, tyX7_ok 1 (by decide), rfl⟩
theorem pF_X7_15 : ∃ (C : String) (TT : u_T) (N : Nat) (ty0 : Nat → FieldType), vwCl[7]? = some (C, TT, N) ∧ (∀ w ∈ u_ws C TT N, w ∈ TB) ∧ 0 < N ∧ Cond.fieldLink "AfterOffice$Rings" 15 C (TT 0).2.1 (TT 0).2.2.1 ∈ TB ∧ (TT 0).1 = C ∧ (∀ k, k < N → parseFieldDescriptor (TT k).2.2.1 = some (ty0 k)) ∧ (∀ a, a < N → ∀ b, b < N → a ≠ b → (TT a).2.1 ≠ (TT b).2.1) ∧ (TT 0).2.2.2 = true ∧ parseFieldDescriptor (TT 0).2.2.1 = some (tyX7 0) ∧ C = "AfterOffice$Rings" := ⟨_, _, _, tyX7, rfl, inX7, by decide, tb_mem (tb_tab (tt_3 (List.mem_of_getElem? (i := 45) rfl))) rfl, rfl, tyX7_ok, nmX7, rfl, tyX7_ok 0 (by decide), rfl⟩
theorem ml_oi_X1 : Cond.methodLink "AfterOffice$Course" 3 Lib.objectInit ∈ TB := tb_mem (tb_tab (tt_2 (List.mem_of_getElem? (i := 146) rfl))) rfl
theorem pF_X1_9 : ∃ (C : String) (TT : u_T) (N : Nat) (ty0 : Nat → FieldType), vwCl[1]? = some (C, TT, N) ∧ (∀ w ∈ u_ws C TT N, w ∈ TB) ∧ 3 < N ∧ Cond.fieldLink "AfterOffice$Course" 9 C (TT 3).2.1 (TT 3).2.2.1 ∈ TB ∧ (TT 3).1 = C ∧ (∀ k, k < N → parseFieldDescriptor (TT k).2.2.1 = some (ty0 k)) ∧ (∀ a, a < N → ∀ b, b < N → a ≠ b → (TT a).2.1 ≠ (TT b).2.1) ∧ (TT 3).2.2.2 = true ∧ parseFieldDescriptor (TT 3).2.2.1 = some (tyX1 3) ∧ C = "AfterOffice$Course" := ⟨_, _, _, tyX1, rfl, inX1, by decide, tb_mem (tb_tab (tt_2 (List.mem_of_getElem? (i := 150) rfl))) rfl, rfl, tyX1_ok, nmX1, rfl, tyX1_ok 3 (by decide), rfl⟩
theorem pF_X1_15 : ∃ (C : String) (TT : u_T) (N : Nat) (ty0 : Nat → FieldType), vwCl[1]? = some (C, TT, N) ∧ (∀ w ∈ u_ws C TT N, w ∈ TB) ∧ 4 < N ∧ Cond.fieldLink "AfterOffice$Course" 15 C (TT 4).2.1 (TT 4).2.2.1 ∈ TB ∧ (TT 4).1 = C ∧ (∀ k, k < N → parseFieldDescriptor (TT k).2.2.1 = some (ty0 k)) ∧ (∀ a, a < N → ∀ b, b < N → a ≠ b → (TT a).2.1 ≠ (TT b).2.1) ∧ (TT 4).2.2.2 = true ∧ parseFieldDescriptor (TT 4).2.2.1 = some (tyX1 4) ∧ C = "AfterOffice$Course" := ⟨_, _, _, tyX1, rfl, inX1, by decide, tb_mem (tb_tab (tt_2 (List.mem_of_getElem? (i := 153) rfl))) rfl, rfl, tyX1_ok, nmX1, rfl, tyX1_ok 4 (by decide), rfl⟩
theorem pF_X1_18 : ∃ (C : String) (TT : u_T) (N : Nat) (ty0 : Nat → FieldType), vwCl[1]? = some (C, TT, N) ∧ (∀ w ∈ u_ws C TT N, w ∈ TB) ∧ 5 < N ∧ Cond.fieldLink "AfterOffice$Course" 18 C (TT 5).2.1 (TT 5).2.2.1 ∈ TB ∧ (TT 5).1 = C ∧ (∀ k, k < N → parseFieldDescriptor (TT k).2.2.1 = some (ty0 k)) ∧ (∀ a, a < N → ∀ b, b < N → a ≠ b → (TT a).2.1 ≠ (TT b).2.1) ∧ (TT 5).2.2.2 = true ∧ parseFieldDescriptor (TT 5).2.2.1 = some (tyX1 5) ∧ C = "AfterOffice$Course" := ⟨_, _, _, tyX1, rfl, inX1, by decide, tb_mem (tb_tab (tt_2 (List.mem_of_getElem? (i := 156) rfl))) rfl, rfl, tyX1_ok, nmX1, rfl, tyX1_ok 5 (by decide), rfl⟩
theorem pF_X1_21 : ∃ (C : String) (TT : u_T) (N : Nat) (ty0 : Nat → FieldType), vwCl[1]? = some (C, TT, N) ∧ (∀ w ∈ u_ws C TT N, w ∈ TB) ∧ 6 < N ∧ Cond.fieldLink "AfterOffice$Course" 21 C (TT 6).2.1 (TT 6).2.2.1 ∈ TB ∧ (TT 6).1 = C ∧ (∀ k, k < N → parseFieldDescriptor (TT k).2.2.1 = some (ty0 k)) ∧ (∀ a, a < N → ∀ b, b < N → a ≠ b → (TT a).2.1 ≠ (TT b).2.1) ∧ (TT 6).2.2.2 = true ∧ parseFieldDescriptor (TT 6).2.2.1 = some (tyX1 6) ∧ C = "AfterOffice$Course" := ⟨_, _, _, tyX1, rfl, inX1, by decide, tb_mem (tb_tab (tt_2 (List.mem_of_getElem? (i := 158) rfl))) rfl, rfl, tyX1_ok, nmX1, rfl, tyX1_ok 6 (by decide), rfl⟩
theorem pF_X1_24 : ∃ (C : String) (TT : u_T) (N : Nat) (ty0 : Nat → FieldType), vwCl[1]? = some (C, TT, N) ∧ (∀ w ∈ u_ws C TT N, w ∈ TB) ∧ 7 < N ∧ Cond.fieldLink "AfterOffice$Course" 24 C (TT 7).2.1 (TT 7).2.2.1 ∈ TB ∧ (TT 7).1 = C ∧ (∀ k, k < N → parseFieldDescriptor (TT k).2.2.1 = some (ty0 k)) ∧ (∀ a, a < N → ∀ b, b < N → a ≠ b → (TT a).2.1 ≠ (TT b).2.1) ∧ (TT 7).2.2.2 = true ∧ parseFieldDescriptor (TT 7).2.2.1 = some (tyX1 7) ∧ C = "AfterOffice$Course" := ⟨_, _, _, tyX1, rfl, inX1, by decide, tb_mem (tb_tab (tt_2 (List.mem_of_getElem? (i := 159) rfl))) rfl, rfl, tyX1_ok, nmX1, rfl, tyX1_ok 7 (by decide), rfl⟩
theorem pF_X1_27 : ∃ (C : String) (TT : u_T) (N : Nat) (ty0 : Nat → FieldType), vwCl[1]? = some (C, TT, N) ∧ (∀ w ∈ u_ws C TT N, w ∈ TB) ∧ 8 < N ∧ Cond.fieldLink "AfterOffice$Course" 27 C (TT 8).2.1 (TT 8).2.2.1 ∈ TB ∧ (TT 8).1 = C ∧ (∀ k, k < N → parseFieldDescriptor (TT k).2.2.1 = some (ty0 k)) ∧ (∀ a, a < N → ∀ b, b < N → a ≠ b → (TT a).2.1 ≠ (TT b).2.1) ∧ (TT 8).2.2.2 = true ∧ parseFieldDescriptor (TT 8).2.2.1 = some (tyX1 8) ∧ C = "AfterOffice$Course" := ⟨_, _, _, tyX1, rfl, inX1, by decide, tb_mem (tb_tab (tt_2 (List.mem_of_getElem? (i := 161) rfl))) rfl, rfl, tyX1_ok, nmX1, rfl, tyX1_ok 8 (by decide), rfl⟩
theorem pF_X1_30 : ∃ (C : String) (TT : u_T) (N : Nat) (ty0 : Nat → FieldType), vwCl[1]? = some (C, TT, N) ∧ (∀ w ∈ u_ws C TT N, w ∈ TB) ∧ 9 < N ∧ Cond.fieldLink "AfterOffice$Course" 30 C (TT 9).2.1 (TT 9).2.2.1 ∈ TB ∧ (TT 9).1 = C ∧ (∀ k, k < N → parseFieldDescriptor (TT k).2.2.1 = some (ty0 k)) ∧ (∀ a, a < N → ∀ b, b < N → a ≠ b → (TT a).2.1 ≠ (TT b).2.1) ∧ (TT 9).2.2.2 = true ∧ parseFieldDescriptor (TT 9).2.2.1 = some (tyX1 9) ∧ C = "AfterOffice$Course" := ⟨_, _, _, tyX1, rfl, inX1, by decide, tb_mem (tb_tab (tt_2 (List.mem_of_getElem? (i := 162) rfl))) rfl, rfl, tyX1_ok, nmX1, rfl, tyX1_ok 9 (by decide), rfl⟩
theorem pF_X1_33 : ∃ (C : String) (TT : u_T) (N : Nat) (ty0 : Nat → FieldType), vwCl[1]? = some (C, TT, N) ∧ (∀ w ∈ u_ws C TT N, w ∈ TB) ∧ 0 < N ∧ Cond.fieldLink "AfterOffice$Course" 33 C (TT 0).2.1 (TT 0).2.2.1 ∈ TB ∧ (TT 0).1 = C ∧ (∀ k, k < N → parseFieldDescriptor (TT k).2.2.1 = some (ty0 k)) ∧ (∀ a, a < N → ∀ b, b < N → a ≠ b → (TT a).2.1 ≠ (TT b).2.1) ∧ (TT 0).2.2.2 = true ∧ parseFieldDescriptor (TT 0).2.2.1 = some (tyX1 0) ∧ C = "AfterOffice$Course" := ⟨_, _, _, tyX1, rfl, inX1, by decide, tb_mem (tb_tab (tt_2 (List.mem_of_getElem? (i := 147) rfl))) rfl, rfl, tyX1_ok, nmX1, rfl, tyX1_ok 0 (by decide), rfl⟩
theorem pF_X1_37 : ∃ (C : String) (TT : u_T) (N : Nat) (ty0 : Nat → FieldType), vwCl[1]? = some (C, TT, N) ∧ (∀ w ∈ u_ws C TT N, w ∈ TB) ∧ 1 < N ∧ Cond.fieldLink "AfterOffice$Course" 37 C (TT 1).2.1 (TT 1).2.2.1 ∈ TB ∧ (TT 1).1 = C ∧ (∀ k, k < N → parseFieldDescriptor (TT k).2.2.1 = some (ty0 k)) ∧ (∀ a, a < N → ∀ b, b < N → a ≠ b → (TT a).2.1 ≠ (TT b).2.1) ∧ (TT 1).2.2.2 = true ∧ parseFieldDescriptor (TT 1).2.2.1 = some (tyX1 1) ∧ C = "AfterOffice$Course" := ⟨_, _, _, tyX1, rfl, inX1, by decide, tb_mem (tb_tab (tt_2 (List.mem_of_getElem? (i := 148) rfl))) rfl, rfl, tyX1_ok, nmX1, rfl, tyX1_ok 1 (by decide), rfl⟩
theorem pF_X1_41 : ∃ (C : String) (TT : u_T) (N : Nat) (ty0 : Nat → FieldType), vwCl[1]? = some (C, TT, N) ∧ (∀ w ∈ u_ws C TT N, w ∈ TB) ∧ 2 < N ∧ Cond.fieldLink "AfterOffice$Course" 41 C (TT 2).2.1 (TT 2).2.2.1 ∈ TB ∧ (TT 2).1 = C ∧ (∀ k, k < N → parseFieldDescriptor (TT k).2.2.1 = some (ty0 k)) ∧ (∀ a, a < N → ∀ b, b < N → a ≠ b → (TT a).2.1 ≠ (TT b).2.1) ∧ (TT 2).2.2.2 = true ∧ parseFieldDescriptor (TT 2).2.2.1 = some (tyX1 2) ∧ C = "AfterOffice$Course" := ⟨_, _, _, tyX1, rfl, inX1, by decide, tb_mem (tb_tab (tt_2 (List.mem_of_getElem? (i := 149) rfl))) rfl, rfl, tyX1_ok, nmX1, rfl, tyX1_ok 2 (by decide), rfl⟩
set_option maxRecDepth 40000 in
theorem tX8_init (l : Launch) (qs : Nat → Nat) (D : va_G) (cy : Nat → ClassId) (a sz : Nat) : MI l qs D cy yX8_init cX8_init 1 1 1 2000 [.ref a] a 8 sz [.null, .int 0] (fun w1 => ∃ q1 : Nat, w1 = [(a, .inr (8, [.ref q1, .int 0])), (q1, .inl (cy 2, 2000, .inl (fun _ => 0)))]) := by
  refine mi_start (by decide) rfl (Nat.le_of_ble_eq_true rfl) (fun G X => ?_)
  refine w_aload_n (pc := 0) 0 X.1.1 dX8_init_0 rfl ?_
  refine r_obj (pc := 1) X dX8_init_1 ml_oi_X8 ml_oc (Nat.le_of_ble_eq_true rfl) (Nat.le_of_ble_eq_true rfl) ?_
  refine w_aload_n (pc := 4) 0 X.1.1 dX8_init_4 rfl ?_
  refine w_sipush (pc := 5) 2000 X.1.1 dX8_init_5 rfl ?_
  refine r_newa (pc := 8) (N := 2000) (a0 := (2000, .inl (fun _ => 0))) 2 X.1 dX8_init_8 (fun _ => rfl) rfl ac_byte (fun _ => rfl) (by decide) (by decide) (by decide) (by rw [X.2.2.1]; exact Nat.le_of_ble_eq_true rfl) (by rw [X.2.2.1]; exact Nat.le_of_ble_eq_true rfl) (fun q1 => ?_)
  refine r_putF (pc := 10) (p := 0) [(a, .inr (8, [.ref q1, .int 0])), (q1, .inl (cy 2, 2000, .inl (fun _ => 0)))] X.1 X.2.1 dX8_init_10 pF_X8_9 rfl rfl rfl (Nat.le_of_ble_eq_true rfl) rfl ?_
  exact r_vret (pc := 13) X dX8_init_13 ⟨q1, rfl⟩
set_option maxRecDepth 40000 in
theorem tX3_init (l : Launch) (qs : Nat → Nat) (D : va_G) (cy : Nat → ClassId) (a sz : Nat) : MI l qs D cy yX3_init cX3_init 1 1 6 361 [.ref a] a 3 sz [.null, .null, .null, .null, .null, .null, .int 0] (fun w1 => ∃ q1 q2 q3 q4 q5 q6 : Nat, w1 = [(a, .inr (3, [.ref q1, .ref q2, .ref q3, .ref q4, .ref q5, .ref q6, .int 0])), (q1, .inl (cy 0, 60, .inl (fun _ => 0))), (q2, .inl (cy 0, 60, .inl (fun _ => 0))), (q3, .inl (cy 0, 60, .inl (fun _ => 0))), (q4, .inl (cy 0, 60, .inl (fun _ => 0))), (q5, .inl (cy 0, 60, .inl (fun _ => 0))), (q6, .inl (cy 0, 61, .inl (fun _ => 0)))]) := by
  refine mi_start (by decide) rfl (Nat.le_of_ble_eq_true rfl) (fun G X => ?_)
  refine w_aload_n (pc := 0) 0 X.1.1 dX3_init_0 rfl ?_
  refine r_obj (pc := 1) X dX3_init_1 ml_oi_X3 ml_oc (Nat.le_of_ble_eq_true rfl) (Nat.le_of_ble_eq_true rfl) ?_
  refine w_aload_n (pc := 4) 0 X.1.1 dX3_init_4 rfl ?_
  refine w_bipush (pc := 5) 60 X.1.1 dX3_init_5 rfl ?_
  refine r_newa (pc := 7) (N := 60) (a0 := (60, .inl (fun _ => 0))) 0 X.1 dX3_init_7 (fun _ => rfl) rfl ac_int (fun _ => rfl) (by decide) (by decide) (by decide) (by rw [X.2.2.1]; exact Nat.le_of_ble_eq_true rfl) (by rw [X.2.2.1]; exact Nat.le_of_ble_eq_true rfl) (fun q1 => ?_)
  refine r_putF (pc := 9) (p := 0) [(a, .inr (3, [.ref q1, .null, .null, .null, .null, .null, .int 0])), (q1, .inl (cy 0, 60, .inl (fun _ => 0)))] X.1 X.2.1 dX3_init_9 pF_X3_9 rfl rfl rfl (Nat.le_of_ble_eq_true rfl) rfl ?_
  refine w_aload_n (pc := 12) 0 X.1.1 dX3_init_12 rfl ?_
  refine w_bipush (pc := 13) 60 X.1.1 dX3_init_13 rfl ?_
  refine r_newa (pc := 15) (N := 60) (a0 := (60, .inl (fun _ => 0))) 0 X.1 dX3_init_15 (fun _ => rfl) rfl ac_int (fun _ => rfl) (by decide) (by decide) (by decide) (by rw [X.2.2.1]; exact Nat.le_of_ble_eq_true rfl) (by rw [X.2.2.1]; exact Nat.le_of_ble_eq_true rfl) (fun q2 => ?_)
  refine r_putF (pc := 17) (p := 0) [(a, .inr (3, [.ref q1, .ref q2, .null, .null, .null, .null, .int 0])), (q1, .inl (cy 0, 60, .inl (fun _ => 0))), (q2, .inl (cy 0, 60, .inl (fun _ => 0)))] X.1 X.2.1 dX3_init_17 pF_X3_15 rfl rfl rfl (Nat.le_of_ble_eq_true rfl) rfl ?_
  refine w_aload_n (pc := 20) 0 X.1.1 dX3_init_20 rfl ?_
  refine w_bipush (pc := 21) 60 X.1.1 dX3_init_21 rfl ?_
  refine r_newa (pc := 23) (N := 60) (a0 := (60, .inl (fun _ => 0))) 0 X.1 dX3_init_23 (fun _ => rfl) rfl ac_int (fun _ => rfl) (by decide) (by decide) (by decide) (by rw [X.2.2.1]; exact Nat.le_of_ble_eq_true rfl) (by rw [X.2.2.1]; exact Nat.le_of_ble_eq_true rfl) (fun q3 => ?_)
  refine r_putF (pc := 25) (p := 0) [(a, .inr (3, [.ref q1, .ref q2, .ref q3, .null, .null, .null, .int 0])), (q1, .inl (cy 0, 60, .inl (fun _ => 0))), (q2, .inl (cy 0, 60, .inl (fun _ => 0))), (q3, .inl (cy 0, 60, .inl (fun _ => 0)))] X.1 X.2.1 dX3_init_25 pF_X3_18 rfl rfl rfl (Nat.le_of_ble_eq_true rfl) rfl ?_
  refine w_aload_n (pc := 28) 0 X.1.1 dX3_init_28 rfl ?_
  refine w_bipush (pc := 29) 60 X.1.1 dX3_init_29 rfl ?_
  refine r_newa (pc := 31) (N := 60) (a0 := (60, .inl (fun _ => 0))) 0 X.1 dX3_init_31 (fun _ => rfl) rfl ac_int (fun _ => rfl) (by decide) (by decide) (by decide) (by rw [X.2.2.1]; exact Nat.le_of_ble_eq_true rfl) (by rw [X.2.2.1]; exact Nat.le_of_ble_eq_true rfl) (fun q4 => ?_)
  refine r_putF (pc := 33) (p := 0) [(a, .inr (3, [.ref q1, .ref q2, .ref q3, .ref q4, .null, .null, .int 0])), (q1, .inl (cy 0, 60, .inl (fun _ => 0))), (q2, .inl (cy 0, 60, .inl (fun _ => 0))), (q3, .inl (cy 0, 60, .inl (fun _ => 0))), (q4, .inl (cy 0, 60, .inl (fun _ => 0)))] X.1 X.2.1 dX3_init_33 pF_X3_21 rfl rfl rfl (Nat.le_of_ble_eq_true rfl) rfl ?_
  refine w_aload_n (pc := 36) 0 X.1.1 dX3_init_36 rfl ?_
  refine w_bipush (pc := 37) 60 X.1.1 dX3_init_37 rfl ?_
  refine r_newa (pc := 39) (N := 60) (a0 := (60, .inl (fun _ => 0))) 0 X.1 dX3_init_39 (fun _ => rfl) rfl ac_int (fun _ => rfl) (by decide) (by decide) (by decide) (by rw [X.2.2.1]; exact Nat.le_of_ble_eq_true rfl) (by rw [X.2.2.1]; exact Nat.le_of_ble_eq_true rfl) (fun q5 => ?_)
  refine r_putF (pc := 41) (p := 0) [(a, .inr (3, [.ref q1, .ref q2, .ref q3, .ref q4, .ref q5, .null, .int 0])), (q1, .inl (cy 0, 60, .inl (fun _ => 0))), (q2, .inl (cy 0, 60, .inl (fun _ => 0))), (q3, .inl (cy 0, 60, .inl (fun _ => 0))), (q4, .inl (cy 0, 60, .inl (fun _ => 0))), (q5, .inl (cy 0, 60, .inl (fun _ => 0)))] X.1 X.2.1 dX3_init_41 pF_X3_24 rfl rfl rfl (Nat.le_of_ble_eq_true rfl) rfl ?_
  refine w_aload_n (pc := 44) 0 X.1.1 dX3_init_44 rfl ?_
  refine w_bipush (pc := 45) 61 X.1.1 dX3_init_45 rfl ?_
  refine r_newa (pc := 47) (N := 61) (a0 := (61, .inl (fun _ => 0))) 0 X.1 dX3_init_47 (fun _ => rfl) rfl ac_int (fun _ => rfl) (by decide) (by decide) (by decide) (by rw [X.2.2.1]; exact Nat.le_of_ble_eq_true rfl) (by rw [X.2.2.1]; exact Nat.le_of_ble_eq_true rfl) (fun q6 => ?_)
  refine r_putF (pc := 49) (p := 0) [(a, .inr (3, [.ref q1, .ref q2, .ref q3, .ref q4, .ref q5, .ref q6, .int 0])), (q1, .inl (cy 0, 60, .inl (fun _ => 0))), (q2, .inl (cy 0, 60, .inl (fun _ => 0))), (q3, .inl (cy 0, 60, .inl (fun _ => 0))), (q4, .inl (cy 0, 60, .inl (fun _ => 0))), (q5, .inl (cy 0, 60, .inl (fun _ => 0))), (q6, .inl (cy 0, 61, .inl (fun _ => 0)))] X.1 X.2.1 dX3_init_49 pF_X3_27 rfl rfl rfl (Nat.le_of_ble_eq_true rfl) rfl ?_
  exact r_vret (pc := 52) X dX3_init_52 ⟨q1, q2, q3, q4, q5, q6, rfl⟩
set_option maxRecDepth 40000 in
theorem tX4_init (l : Launch) (qs : Nat → Nat) (D : va_G) (cy : Nat → ClassId) (a sz : Nat) : MI l qs D cy yX4_init cX4_init 1 1 0 0 [.ref a] a 4 sz [.int 0, .int 0, .int 0, .int 0, .int 0, .int 0, .int 0, .int 0] (fun w1 => w1 = [(a, .inr (4, [.int 0, .int 0, .int 0, .int 0, .int 0, .int 0, .int 0, .int 0]))]) := by
  refine mi_start (by decide) rfl (Nat.le_of_ble_eq_true rfl) (fun G X => ?_)
  refine w_aload_n (pc := 0) 0 X.1.1 dX4_init_0 rfl ?_
  refine r_obj (pc := 1) X dX4_init_1 ml_oi_X4 ml_oc (Nat.le_of_ble_eq_true rfl) (Nat.le_of_ble_eq_true rfl) ?_
  exact r_vret (pc := 4) X dX4_init_4 rfl
set_option maxRecDepth 40000 in
theorem tX5_init (l : Launch) (qs : Nat → Nat) (D : va_G) (cy : Nat → ClassId) (a sz : Nat) (r1 : Nat) (r2 : Nat) : MI l qs D cy yX5_init cX5_init 3 1 4 88 [.ref a, .ref r1, .ref r2] a 5 sz [.null, .null, .null, .null, .null, .null, .int 0, .int 0, .int 0, .int 0] (fun w1 => ∃ q1 q2 q3 q4 : Nat, w1 = [(a, .inr (5, [.ref r1, .ref r2, .ref q1, .ref q2, .ref q3, .ref q4, .int 0, .int 0, .int 0, .int 0])), (q1, .inl (cy 1, 10, .inr (.inl (fun _ => 0)))), (q2, .inl (cy 1, 4, .inr (.inl (fun _ => 0)))), (q3, .inl (cy 1, 10, .inr (.inl (fun _ => 0)))), (q4, .inl (cy 0, 64, .inl (fun _ => 0)))]) := by
  refine mi_start (by decide) rfl (Nat.le_of_ble_eq_true rfl) (fun G X => ?_)
  refine w_aload_n (pc := 0) 0 X.1.1 dX5_init_0 rfl ?_
  refine r_obj (pc := 1) X dX5_init_1 ml_oi_X5 ml_oc (Nat.le_of_ble_eq_true rfl) (Nat.le_of_ble_eq_true rfl) ?_
  refine w_aload_n (pc := 4) 0 X.1.1 dX5_init_4 rfl ?_
  refine w_bipush (pc := 5) 10 X.1.1 dX5_init_5 rfl ?_
  refine r_newa (pc := 7) (N := 10) (a0 := (10, .inr (.inl (fun _ => 0)))) 1 X.1 dX5_init_7 (fun _ => rfl) rfl ac_long (fun _ => rfl) (by decide) (by decide) (by decide) (by rw [X.2.2.1]; exact Nat.le_of_ble_eq_true rfl) (by rw [X.2.2.1]; exact Nat.le_of_ble_eq_true rfl) (fun q1 => ?_)
  refine r_putF (pc := 9) (p := 0) [(a, .inr (5, [.null, .null, .ref q1, .null, .null, .null, .int 0, .int 0, .int 0, .int 0])), (q1, .inl (cy 1, 10, .inr (.inl (fun _ => 0))))] X.1 X.2.1 dX5_init_9 pF_X5_9 rfl rfl rfl (Nat.le_of_ble_eq_true rfl) rfl ?_
  refine w_aload_n (pc := 12) 0 X.1.1 dX5_init_12 rfl ?_
  refine w_iconst (pc := 13) 4 X.1.1 dX5_init_13 rfl ?_
  refine r_newa (pc := 14) (N := 4) (a0 := (4, .inr (.inl (fun _ => 0)))) 1 X.1 dX5_init_14 (fun _ => rfl) rfl ac_long (fun _ => rfl) (by decide) (by decide) (by decide) (by rw [X.2.2.1]; exact Nat.le_of_ble_eq_true rfl) (by rw [X.2.2.1]; exact Nat.le_of_ble_eq_true rfl) (fun q2 => ?_)
  refine r_putF (pc := 16) (p := 0) [(a, .inr (5, [.null, .null, .ref q1, .ref q2, .null, .null, .int 0, .int 0, .int 0, .int 0])), (q1, .inl (cy 1, 10, .inr (.inl (fun _ => 0)))), (q2, .inl (cy 1, 4, .inr (.inl (fun _ => 0))))] X.1 X.2.1 dX5_init_16 pF_X5_15 rfl rfl rfl (Nat.le_of_ble_eq_true rfl) rfl ?_
  refine w_aload_n (pc := 19) 0 X.1.1 dX5_init_19 rfl ?_
  refine w_bipush (pc := 20) 10 X.1.1 dX5_init_20 rfl ?_
  refine r_newa (pc := 22) (N := 10) (a0 := (10, .inr (.inl (fun _ => 0)))) 1 X.1 dX5_init_22 (fun _ => rfl) rfl ac_long (fun _ => rfl) (by decide) (by decide) (by decide) (by rw [X.2.2.1]; exact Nat.le_of_ble_eq_true rfl) (by rw [X.2.2.1]; exact Nat.le_of_ble_eq_true rfl) (fun q3 => ?_)
  refine r_putF (pc := 24) (p := 0) [(a, .inr (5, [.null, .null, .ref q1, .ref q2, .ref q3, .null, .int 0, .int 0, .int 0, .int 0])), (q1, .inl (cy 1, 10, .inr (.inl (fun _ => 0)))), (q2, .inl (cy 1, 4, .inr (.inl (fun _ => 0)))), (q3, .inl (cy 1, 10, .inr (.inl (fun _ => 0))))] X.1 X.2.1 dX5_init_24 pF_X5_18 rfl rfl rfl (Nat.le_of_ble_eq_true rfl) rfl ?_
  refine w_aload_n (pc := 27) 0 X.1.1 dX5_init_27 rfl ?_
  refine w_bipush (pc := 28) 64 X.1.1 dX5_init_28 rfl ?_
  refine r_newa (pc := 30) (N := 64) (a0 := (64, .inl (fun _ => 0))) 0 X.1 dX5_init_30 (fun _ => rfl) rfl ac_int (fun _ => rfl) (by decide) (by decide) (by decide) (by rw [X.2.2.1]; exact Nat.le_of_ble_eq_true rfl) (by rw [X.2.2.1]; exact Nat.le_of_ble_eq_true rfl) (fun q4 => ?_)
  refine r_putF (pc := 32) (p := 0) [(a, .inr (5, [.null, .null, .ref q1, .ref q2, .ref q3, .ref q4, .int 0, .int 0, .int 0, .int 0])), (q1, .inl (cy 1, 10, .inr (.inl (fun _ => 0)))), (q2, .inl (cy 1, 4, .inr (.inl (fun _ => 0)))), (q3, .inl (cy 1, 10, .inr (.inl (fun _ => 0)))), (q4, .inl (cy 0, 64, .inl (fun _ => 0)))] X.1 X.2.1 dX5_init_32 pF_X5_21 rfl rfl rfl (Nat.le_of_ble_eq_true rfl) rfl ?_
  refine w_aload_n (pc := 35) 0 X.1.1 dX5_init_35 rfl ?_
  refine w_aload_n (pc := 36) 1 X.1.1 dX5_init_36 rfl ?_
  refine r_putF (pc := 37) (p := 0) [(a, .inr (5, [.ref r1, .null, .ref q1, .ref q2, .ref q3, .ref q4, .int 0, .int 0, .int 0, .int 0])), (q1, .inl (cy 1, 10, .inr (.inl (fun _ => 0)))), (q2, .inl (cy 1, 4, .inr (.inl (fun _ => 0)))), (q3, .inl (cy 1, 10, .inr (.inl (fun _ => 0)))), (q4, .inl (cy 0, 64, .inl (fun _ => 0)))] X.1 X.2.1 dX5_init_37 pF_X5_25 rfl rfl rfl (Nat.le_of_ble_eq_true rfl) rfl ?_
  refine w_aload_n (pc := 40) 0 X.1.1 dX5_init_40 rfl ?_
  refine w_aload_n (pc := 41) 2 X.1.1 dX5_init_41 rfl ?_
  refine r_putF (pc := 42) (p := 0) [(a, .inr (5, [.ref r1, .ref r2, .ref q1, .ref q2, .ref q3, .ref q4, .int 0, .int 0, .int 0, .int 0])), (q1, .inl (cy 1, 10, .inr (.inl (fun _ => 0)))), (q2, .inl (cy 1, 4, .inr (.inl (fun _ => 0)))), (q3, .inl (cy 1, 10, .inr (.inl (fun _ => 0)))), (q4, .inl (cy 0, 64, .inl (fun _ => 0)))] X.1 X.2.1 dX5_init_42 pF_X5_29 rfl rfl rfl (Nat.le_of_ble_eq_true rfl) rfl ?_
  exact r_vret (pc := 45) X dX5_init_45 ⟨q1, q2, q3, q4, rfl⟩
set_option maxRecDepth 40000 in
theorem tX6_init (l : Launch) (qs : Nat → Nat) (D : va_G) (cy : Nat → ClassId) (a sz : Nat) (r1 : Nat) : MI l qs D cy yX6_init cX6_init 2 1 4 908 [.ref a, .ref r1] a 6 sz [.null, .null, .null, .null, .null, .int 0, .int 0, .int 0] (fun w1 => ∃ q1 q2 q3 q4 : Nat, w1 = [(a, .inr (6, [.ref r1, .ref q1, .ref q2, .ref q3, .ref q4, .int 0, .int 0, .int 0])), (q1, .inl (cy 0, 64, .inl (fun _ => 0))), (q2, .inl (cy 0, 4, .inl (fun _ => 0))), (q3, .inl (cy 0, 600, .inl (fun _ => 0))), (q4, .inl (cy 0, 240, .inl (fun _ => 0)))]) := by
  refine mi_start (by decide) rfl (Nat.le_of_ble_eq_true rfl) (fun G X => ?_)
  refine w_aload_n (pc := 0) 0 X.1.1 dX6_init_0 rfl ?_
  refine r_obj (pc := 1) X dX6_init_1 ml_oi_X6 ml_oc (Nat.le_of_ble_eq_true rfl) (Nat.le_of_ble_eq_true rfl) ?_
  refine w_aload_n (pc := 4) 0 X.1.1 dX6_init_4 rfl ?_
  refine w_bipush (pc := 5) 64 X.1.1 dX6_init_5 rfl ?_
  refine r_newa (pc := 7) (N := 64) (a0 := (64, .inl (fun _ => 0))) 0 X.1 dX6_init_7 (fun _ => rfl) rfl ac_int (fun _ => rfl) (by decide) (by decide) (by decide) (by rw [X.2.2.1]; exact Nat.le_of_ble_eq_true rfl) (by rw [X.2.2.1]; exact Nat.le_of_ble_eq_true rfl) (fun q1 => ?_)
  refine r_putF (pc := 9) (p := 0) [(a, .inr (6, [.null, .ref q1, .null, .null, .null, .int 0, .int 0, .int 0])), (q1, .inl (cy 0, 64, .inl (fun _ => 0)))] X.1 X.2.1 dX6_init_9 pF_X6_9 rfl rfl rfl (Nat.le_of_ble_eq_true rfl) rfl ?_
  refine w_aload_n (pc := 12) 0 X.1.1 dX6_init_12 rfl ?_
  refine w_iconst (pc := 13) 4 X.1.1 dX6_init_13 rfl ?_
  refine r_newa (pc := 14) (N := 4) (a0 := (4, .inl (fun _ => 0))) 0 X.1 dX6_init_14 (fun _ => rfl) rfl ac_int (fun _ => rfl) (by decide) (by decide) (by decide) (by rw [X.2.2.1]; exact Nat.le_of_ble_eq_true rfl) (by rw [X.2.2.1]; exact Nat.le_of_ble_eq_true rfl) (fun q2 => ?_)
  refine r_putF (pc := 16) (p := 0) [(a, .inr (6, [.null, .ref q1, .ref q2, .null, .null, .int 0, .int 0, .int 0])), (q1, .inl (cy 0, 64, .inl (fun _ => 0))), (q2, .inl (cy 0, 4, .inl (fun _ => 0)))] X.1 X.2.1 dX6_init_16 pF_X6_15 rfl rfl rfl (Nat.le_of_ble_eq_true rfl) rfl ?_
  refine w_aload_n (pc := 19) 0 X.1.1 dX6_init_19 rfl ?_
  refine w_sipush (pc := 20) 600 X.1.1 dX6_init_20 rfl ?_
  refine r_newa (pc := 23) (N := 600) (a0 := (600, .inl (fun _ => 0))) 0 X.1 dX6_init_23 (fun _ => rfl) rfl ac_int (fun _ => rfl) (by decide) (by decide) (by decide) (by rw [X.2.2.1]; exact Nat.le_of_ble_eq_true rfl) (by rw [X.2.2.1]; exact Nat.le_of_ble_eq_true rfl) (fun q3 => ?_)
  refine r_putF (pc := 25) (p := 0) [(a, .inr (6, [.null, .ref q1, .ref q2, .ref q3, .null, .int 0, .int 0, .int 0])), (q1, .inl (cy 0, 64, .inl (fun _ => 0))), (q2, .inl (cy 0, 4, .inl (fun _ => 0))), (q3, .inl (cy 0, 600, .inl (fun _ => 0)))] X.1 X.2.1 dX6_init_25 pF_X6_18 rfl rfl rfl (Nat.le_of_ble_eq_true rfl) rfl ?_
  refine w_aload_n (pc := 28) 0 X.1.1 dX6_init_28 rfl ?_
  refine w_sipush (pc := 29) 240 X.1.1 dX6_init_29 rfl ?_
  refine r_newa (pc := 32) (N := 240) (a0 := (240, .inl (fun _ => 0))) 0 X.1 dX6_init_32 (fun _ => rfl) rfl ac_int (fun _ => rfl) (by decide) (by decide) (by decide) (by rw [X.2.2.1]; exact Nat.le_of_ble_eq_true rfl) (by rw [X.2.2.1]; exact Nat.le_of_ble_eq_true rfl) (fun q4 => ?_)
  refine r_putF (pc := 34) (p := 0) [(a, .inr (6, [.null, .ref q1, .ref q2, .ref q3, .ref q4, .int 0, .int 0, .int 0])), (q1, .inl (cy 0, 64, .inl (fun _ => 0))), (q2, .inl (cy 0, 4, .inl (fun _ => 0))), (q3, .inl (cy 0, 600, .inl (fun _ => 0))), (q4, .inl (cy 0, 240, .inl (fun _ => 0)))] X.1 X.2.1 dX6_init_34 pF_X6_21 rfl rfl rfl (Nat.le_of_ble_eq_true rfl) rfl ?_
  refine w_aload_n (pc := 37) 0 X.1.1 dX6_init_37 rfl ?_
  refine w_aload_n (pc := 38) 1 X.1.1 dX6_init_38 rfl ?_
  refine r_putF (pc := 39) (p := 0) [(a, .inr (6, [.ref r1, .ref q1, .ref q2, .ref q3, .ref q4, .int 0, .int 0, .int 0])), (q1, .inl (cy 0, 64, .inl (fun _ => 0))), (q2, .inl (cy 0, 4, .inl (fun _ => 0))), (q3, .inl (cy 0, 600, .inl (fun _ => 0))), (q4, .inl (cy 0, 240, .inl (fun _ => 0)))] X.1 X.2.1 dX6_init_39 pF_X6_24 rfl rfl rfl (Nat.le_of_ble_eq_true rfl) rfl ?_
  exact r_vret (pc := 42) X dX6_init_42 ⟨q1, q2, q3, q4, rfl⟩
set_option maxRecDepth 40000 in
theorem tX7_init (l : Launch) (qs : Nat → Nat) (D : va_G) (cy : Nat → ClassId) (a sz : Nat) (r1 : Nat) : MI l qs D cy yX7_init cX7_init 2 1 1 10 [.ref a, .ref r1] a 7 sz [.null, .null] (fun w1 => ∃ q1 : Nat, w1 = [(a, .inr (7, [.ref r1, .ref q1])), (q1, .inl (cy 0, 10, .inl (fun _ => 0)))]) := by
  refine mi_start (by decide) rfl (Nat.le_of_ble_eq_true rfl) (fun G X => ?_)
  refine w_aload_n (pc := 0) 0 X.1.1 dX7_init_0 rfl ?_
  refine r_obj (pc := 1) X dX7_init_1 ml_oi_X7 ml_oc (Nat.le_of_ble_eq_true rfl) (Nat.le_of_ble_eq_true rfl) ?_
  refine w_aload_n (pc := 4) 0 X.1.1 dX7_init_4 rfl ?_
  refine w_bipush (pc := 5) 10 X.1.1 dX7_init_5 rfl ?_
  refine r_newa (pc := 7) (N := 10) (a0 := (10, .inl (fun _ => 0))) 0 X.1 dX7_init_7 (fun _ => rfl) rfl ac_int (fun _ => rfl) (by decide) (by decide) (by decide) (by rw [X.2.2.1]; exact Nat.le_of_ble_eq_true rfl) (by rw [X.2.2.1]; exact Nat.le_of_ble_eq_true rfl) (fun q1 => ?_)
  refine r_putF (pc := 9) (p := 0) [(a, .inr (7, [.null, .ref q1])), (q1, .inl (cy 0, 10, .inl (fun _ => 0)))] X.1 X.2.1 dX7_init_9 pF_X7_9 rfl rfl rfl (Nat.le_of_ble_eq_true rfl) rfl ?_
  refine w_aload_n (pc := 12) 0 X.1.1 dX7_init_12 rfl ?_
  refine w_aload_n (pc := 13) 1 X.1.1 dX7_init_13 rfl ?_
  refine r_putF (pc := 14) (p := 0) [(a, .inr (7, [.ref r1, .ref q1])), (q1, .inl (cy 0, 10, .inl (fun _ => 0)))] X.1 X.2.1 dX7_init_14 pF_X7_15 rfl rfl rfl (Nat.le_of_ble_eq_true rfl) rfl ?_
  exact r_vret (pc := 17) X dX7_init_17 ⟨q1, rfl⟩
set_option maxRecDepth 40000 in
theorem tX1_init (l : Launch) (qs : Nat → Nat) (D : va_G) (cy : Nat → ClassId) (a sz : Nat) (r1 : Nat) (r2 : Nat) (r3 : Nat) : MI l qs D cy yX1_init cX1_init 4 1 7 120 [.ref a, .ref r1, .ref r2, .ref r3] a 1 sz [.null, .null, .null, .null, .null, .null, .null, .null, .null, .null, .int 0, .int 0, .int 0, .int 0, .int 0] (fun w1 => ∃ q1 q2 q3 q4 q5 q6 q7 : Nat, w1 = [(a, .inr (1, [.ref r1, .ref r2, .ref r3, .ref q1, .ref q2, .ref q3, .ref q4, .ref q5, .ref q6, .ref q7, .int 0, .int 0, .int 0, .int 0, .int 0])), (q1, .inl (cy 0, 10, .inl (fun _ => 0))), (q2, .inl (cy 0, 10, .inl (fun _ => 0))), (q3, .inl (cy 0, 10, .inl (fun _ => 0))), (q4, .inl (cy 0, 10, .inl (fun _ => 0))), (q5, .inl (cy 0, 10, .inl (fun _ => 0))), (q6, .inl (cy 0, 10, .inl (fun _ => 0))), (q7, .inl (cy 0, 60, .inl (fun _ => 0)))]) := by
  refine mi_start (by decide) rfl (Nat.le_of_ble_eq_true rfl) (fun G X => ?_)
  refine w_aload_n (pc := 0) 0 X.1.1 dX1_init_0 rfl ?_
  refine r_obj (pc := 1) X dX1_init_1 ml_oi_X1 ml_oc (Nat.le_of_ble_eq_true rfl) (Nat.le_of_ble_eq_true rfl) ?_
  refine w_aload_n (pc := 4) 0 X.1.1 dX1_init_4 rfl ?_
  refine w_bipush (pc := 5) 10 X.1.1 dX1_init_5 rfl ?_
  refine r_newa (pc := 7) (N := 10) (a0 := (10, .inl (fun _ => 0))) 0 X.1 dX1_init_7 (fun _ => rfl) rfl ac_int (fun _ => rfl) (by decide) (by decide) (by decide) (by rw [X.2.2.1]; exact Nat.le_of_ble_eq_true rfl) (by rw [X.2.2.1]; exact Nat.le_of_ble_eq_true rfl) (fun q1 => ?_)
  refine r_putF (pc := 9) (p := 0) [(a, .inr (1, [.null, .null, .null, .ref q1, .null, .null, .null, .null, .null, .null, .int 0, .int 0, .int 0, .int 0, .int 0])), (q1, .inl (cy 0, 10, .inl (fun _ => 0)))] X.1 X.2.1 dX1_init_9 pF_X1_9 rfl rfl rfl (Nat.le_of_ble_eq_true rfl) rfl ?_
  refine w_aload_n (pc := 12) 0 X.1.1 dX1_init_12 rfl ?_
  refine w_bipush (pc := 13) 10 X.1.1 dX1_init_13 rfl ?_
  refine r_newa (pc := 15) (N := 10) (a0 := (10, .inl (fun _ => 0))) 0 X.1 dX1_init_15 (fun _ => rfl) rfl ac_int (fun _ => rfl) (by decide) (by decide) (by decide) (by rw [X.2.2.1]; exact Nat.le_of_ble_eq_true rfl) (by rw [X.2.2.1]; exact Nat.le_of_ble_eq_true rfl) (fun q2 => ?_)
  refine r_putF (pc := 17) (p := 0) [(a, .inr (1, [.null, .null, .null, .ref q1, .ref q2, .null, .null, .null, .null, .null, .int 0, .int 0, .int 0, .int 0, .int 0])), (q1, .inl (cy 0, 10, .inl (fun _ => 0))), (q2, .inl (cy 0, 10, .inl (fun _ => 0)))] X.1 X.2.1 dX1_init_17 pF_X1_15 rfl rfl rfl (Nat.le_of_ble_eq_true rfl) rfl ?_
  refine w_aload_n (pc := 20) 0 X.1.1 dX1_init_20 rfl ?_
  refine w_bipush (pc := 21) 10 X.1.1 dX1_init_21 rfl ?_
  refine r_newa (pc := 23) (N := 10) (a0 := (10, .inl (fun _ => 0))) 0 X.1 dX1_init_23 (fun _ => rfl) rfl ac_int (fun _ => rfl) (by decide) (by decide) (by decide) (by rw [X.2.2.1]; exact Nat.le_of_ble_eq_true rfl) (by rw [X.2.2.1]; exact Nat.le_of_ble_eq_true rfl) (fun q3 => ?_)
  refine r_putF (pc := 25) (p := 0) [(a, .inr (1, [.null, .null, .null, .ref q1, .ref q2, .ref q3, .null, .null, .null, .null, .int 0, .int 0, .int 0, .int 0, .int 0])), (q1, .inl (cy 0, 10, .inl (fun _ => 0))), (q2, .inl (cy 0, 10, .inl (fun _ => 0))), (q3, .inl (cy 0, 10, .inl (fun _ => 0)))] X.1 X.2.1 dX1_init_25 pF_X1_18 rfl rfl rfl (Nat.le_of_ble_eq_true rfl) rfl ?_
  refine w_aload_n (pc := 28) 0 X.1.1 dX1_init_28 rfl ?_
  refine w_bipush (pc := 29) 10 X.1.1 dX1_init_29 rfl ?_
  refine r_newa (pc := 31) (N := 10) (a0 := (10, .inl (fun _ => 0))) 0 X.1 dX1_init_31 (fun _ => rfl) rfl ac_int (fun _ => rfl) (by decide) (by decide) (by decide) (by rw [X.2.2.1]; exact Nat.le_of_ble_eq_true rfl) (by rw [X.2.2.1]; exact Nat.le_of_ble_eq_true rfl) (fun q4 => ?_)
  refine r_putF (pc := 33) (p := 0) [(a, .inr (1, [.null, .null, .null, .ref q1, .ref q2, .ref q3, .ref q4, .null, .null, .null, .int 0, .int 0, .int 0, .int 0, .int 0])), (q1, .inl (cy 0, 10, .inl (fun _ => 0))), (q2, .inl (cy 0, 10, .inl (fun _ => 0))), (q3, .inl (cy 0, 10, .inl (fun _ => 0))), (q4, .inl (cy 0, 10, .inl (fun _ => 0)))] X.1 X.2.1 dX1_init_33 pF_X1_21 rfl rfl rfl (Nat.le_of_ble_eq_true rfl) rfl ?_
  refine w_aload_n (pc := 36) 0 X.1.1 dX1_init_36 rfl ?_
  refine w_bipush (pc := 37) 10 X.1.1 dX1_init_37 rfl ?_
  refine r_newa (pc := 39) (N := 10) (a0 := (10, .inl (fun _ => 0))) 0 X.1 dX1_init_39 (fun _ => rfl) rfl ac_int (fun _ => rfl) (by decide) (by decide) (by decide) (by rw [X.2.2.1]; exact Nat.le_of_ble_eq_true rfl) (by rw [X.2.2.1]; exact Nat.le_of_ble_eq_true rfl) (fun q5 => ?_)
  refine r_putF (pc := 41) (p := 0) [(a, .inr (1, [.null, .null, .null, .ref q1, .ref q2, .ref q3, .ref q4, .ref q5, .null, .null, .int 0, .int 0, .int 0, .int 0, .int 0])), (q1, .inl (cy 0, 10, .inl (fun _ => 0))), (q2, .inl (cy 0, 10, .inl (fun _ => 0))), (q3, .inl (cy 0, 10, .inl (fun _ => 0))), (q4, .inl (cy 0, 10, .inl (fun _ => 0))), (q5, .inl (cy 0, 10, .inl (fun _ => 0)))] X.1 X.2.1 dX1_init_41 pF_X1_24 rfl rfl rfl (Nat.le_of_ble_eq_true rfl) rfl ?_
  refine w_aload_n (pc := 44) 0 X.1.1 dX1_init_44 rfl ?_
  refine w_bipush (pc := 45) 10 X.1.1 dX1_init_45 rfl ?_
  refine r_newa (pc := 47) (N := 10) (a0 := (10, .inl (fun _ => 0))) 0 X.1 dX1_init_47 (fun _ => rfl) rfl ac_int (fun _ => rfl) (by decide) (by decide) (by decide) (by rw [X.2.2.1]; exact Nat.le_of_ble_eq_true rfl) (by rw [X.2.2.1]; exact Nat.le_of_ble_eq_true rfl) (fun q6 => ?_)
  refine r_putF (pc := 49) (p := 0) [(a, .inr (1, [.null, .null, .null, .ref q1, .ref q2, .ref q3, .ref q4, .ref q5, .ref q6, .null, .int 0, .int 0, .int 0, .int 0, .int 0])), (q1, .inl (cy 0, 10, .inl (fun _ => 0))), (q2, .inl (cy 0, 10, .inl (fun _ => 0))), (q3, .inl (cy 0, 10, .inl (fun _ => 0))), (q4, .inl (cy 0, 10, .inl (fun _ => 0))), (q5, .inl (cy 0, 10, .inl (fun _ => 0))), (q6, .inl (cy 0, 10, .inl (fun _ => 0)))] X.1 X.2.1 dX1_init_49 pF_X1_27 rfl rfl rfl (Nat.le_of_ble_eq_true rfl) rfl ?_
  refine w_aload_n (pc := 52) 0 X.1.1 dX1_init_52 rfl ?_
  refine w_bipush (pc := 53) 60 X.1.1 dX1_init_53 rfl ?_
  refine r_newa (pc := 55) (N := 60) (a0 := (60, .inl (fun _ => 0))) 0 X.1 dX1_init_55 (fun _ => rfl) rfl ac_int (fun _ => rfl) (by decide) (by decide) (by decide) (by rw [X.2.2.1]; exact Nat.le_of_ble_eq_true rfl) (by rw [X.2.2.1]; exact Nat.le_of_ble_eq_true rfl) (fun q7 => ?_)
  refine r_putF (pc := 57) (p := 0) [(a, .inr (1, [.null, .null, .null, .ref q1, .ref q2, .ref q3, .ref q4, .ref q5, .ref q6, .ref q7, .int 0, .int 0, .int 0, .int 0, .int 0])), (q1, .inl (cy 0, 10, .inl (fun _ => 0))), (q2, .inl (cy 0, 10, .inl (fun _ => 0))), (q3, .inl (cy 0, 10, .inl (fun _ => 0))), (q4, .inl (cy 0, 10, .inl (fun _ => 0))), (q5, .inl (cy 0, 10, .inl (fun _ => 0))), (q6, .inl (cy 0, 10, .inl (fun _ => 0))), (q7, .inl (cy 0, 60, .inl (fun _ => 0)))] X.1 X.2.1 dX1_init_57 pF_X1_30 rfl rfl rfl (Nat.le_of_ble_eq_true rfl) rfl ?_
  refine w_aload_n (pc := 60) 0 X.1.1 dX1_init_60 rfl ?_
  refine w_aload_n (pc := 61) 1 X.1.1 dX1_init_61 rfl ?_
  refine r_putF (pc := 62) (p := 0) [(a, .inr (1, [.ref r1, .null, .null, .ref q1, .ref q2, .ref q3, .ref q4, .ref q5, .ref q6, .ref q7, .int 0, .int 0, .int 0, .int 0, .int 0])), (q1, .inl (cy 0, 10, .inl (fun _ => 0))), (q2, .inl (cy 0, 10, .inl (fun _ => 0))), (q3, .inl (cy 0, 10, .inl (fun _ => 0))), (q4, .inl (cy 0, 10, .inl (fun _ => 0))), (q5, .inl (cy 0, 10, .inl (fun _ => 0))), (q6, .inl (cy 0, 10, .inl (fun _ => 0))), (q7, .inl (cy 0, 60, .inl (fun _ => 0)))] X.1 X.2.1 dX1_init_62 pF_X1_33 rfl rfl rfl (Nat.le_of_ble_eq_true rfl) rfl ?_
  refine w_aload_n (pc := 65) 0 X.1.1 dX1_init_65 rfl ?_
  refine w_aload_n (pc := 66) 2 X.1.1 dX1_init_66 rfl ?_
  refine r_putF (pc := 67) (p := 0) [(a, .inr (1, [.ref r1, .ref r2, .null, .ref q1, .ref q2, .ref q3, .ref q4, .ref q5, .ref q6, .ref q7, .int 0, .int 0, .int 0, .int 0, .int 0])), (q1, .inl (cy 0, 10, .inl (fun _ => 0))), (q2, .inl (cy 0, 10, .inl (fun _ => 0))), (q3, .inl (cy 0, 10, .inl (fun _ => 0))), (q4, .inl (cy 0, 10, .inl (fun _ => 0))), (q5, .inl (cy 0, 10, .inl (fun _ => 0))), (q6, .inl (cy 0, 10, .inl (fun _ => 0))), (q7, .inl (cy 0, 60, .inl (fun _ => 0)))] X.1 X.2.1 dX1_init_67 pF_X1_37 rfl rfl rfl (Nat.le_of_ble_eq_true rfl) rfl ?_
  refine w_aload_n (pc := 70) 0 X.1.1 dX1_init_70 rfl ?_
  refine w_aload_n (pc := 71) 3 X.1.1 dX1_init_71 rfl ?_
  refine r_putF (pc := 72) (p := 0) [(a, .inr (1, [.ref r1, .ref r2, .ref r3, .ref q1, .ref q2, .ref q3, .ref q4, .ref q5, .ref q6, .ref q7, .int 0, .int 0, .int 0, .int 0, .int 0])), (q1, .inl (cy 0, 10, .inl (fun _ => 0))), (q2, .inl (cy 0, 10, .inl (fun _ => 0))), (q3, .inl (cy 0, 10, .inl (fun _ => 0))), (q4, .inl (cy 0, 10, .inl (fun _ => 0))), (q5, .inl (cy 0, 10, .inl (fun _ => 0))), (q6, .inl (cy 0, 10, .inl (fun _ => 0))), (q7, .inl (cy 0, 60, .inl (fun _ => 0)))] X.1 X.2.1 dX1_init_72 pF_X1_41 rfl rfl rfl (Nat.le_of_ble_eq_true rfl) rfl ?_
  exact r_vret (pc := 75) X dX1_init_75 ⟨q1, q2, q3, q4, q5, q6, q7, rfl⟩
