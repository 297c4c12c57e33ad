theorem dX11_init_0 : decode cX11_init 0 = .ok (.aload_n 0, 1) := by decide +kernel
theorem dX11_init_1 : decode cX11_init 1 = .ok (.invokespecial 1, 3) := by decide +kernel
theorem dX11_init_4 : decode cX11_init 4 = .ok (.aload_n 0, 1) := by decide +kernel
theorem dX11_init_5 : decode cX11_init 5 = .ok (.new 7, 3) := by decide +kernel
theorem dX11_init_8 : decode cX11_init 8 = .ok (.dup, 1) := by decide +kernel
theorem dX11_init_9 : decode cX11_init 9 = .ok (.invokespecial 9, 3) := by decide +kernel
theorem dX11_init_12 : decode cX11_init 12 = .ok (.putfield 10, 3) := by decide +kernel
theorem dX11_init_15 : decode cX11_init 15 = .ok (.aload_n 0, 1) := by decide +kernel
theorem dX11_init_16 : decode cX11_init 16 = .ok (.new 16, 3) := by decide +kernel
theorem dX11_init_19 : decode cX11_init 19 = .ok (.dup, 1) := by decide +kernel
theorem dX11_init_20 : decode cX11_init 20 = .ok (.invokespecial 18, 3) := by decide +kernel
theorem dX11_init_23 : decode cX11_init 23 = .ok (.putfield 19, 3) := by decide +kernel
theorem dX11_init_26 : decode cX11_init 26 = .ok (.aload_n 0, 1) := by decide +kernel
theorem dX11_init_27 : decode cX11_init 27 = .ok (.new 23, 3) := by decide +kernel
theorem dX11_init_30 : decode cX11_init 30 = .ok (.dup, 1) := by decide +kernel
theorem dX11_init_31 : decode cX11_init 31 = .ok (.invokespecial 25, 3) := by decide +kernel
theorem dX11_init_34 : decode cX11_init 34 = .ok (.putfield 26, 3) := by decide +kernel
theorem dX11_init_37 : decode cX11_init 37 = .ok (.aload_n 0, 1) := by decide +kernel
theorem dX11_init_38 : decode cX11_init 38 = .ok (.new 23, 3) := by decide +kernel
theorem dX11_init_41 : decode cX11_init 41 = .ok (.dup, 1) := by decide +kernel
theorem dX11_init_42 : decode cX11_init 42 = .ok (.invokespecial 25, 3) := by decide +kernel
theorem dX11_init_45 : decode cX11_init 45 = .ok (.putfield 30, 3) := by decide +kernel
theorem dX11_init_48 : decode cX11_init 48 = .ok (.aload_n 0, 1) := by decide +kernel
theorem dX11_init_49 : decode cX11_init 49 = .ok (.new 33, 3) := by decide +kernel
theorem dX11_init_52 : decode cX11_init 52 = .ok (.dup, 1) := by decide +kernel
theorem dX11_init_53 : decode cX11_init 53 = .ok (.aload_n 0, 1) := by decide +kernel
theorem dX11_init_54 : decode cX11_init 54 = .ok (.getfield 19, 3) := by decide +kernel
theorem dX11_init_57 : decode cX11_init 57 = .ok (.aload_n 0, 1) := by decide +kernel
theorem dX11_init_58 : decode cX11_init 58 = .ok (.getfield 30, 3) := by decide +kernel
theorem dX11_init_61 : decode cX11_init 61 = .ok (.invokespecial 35, 3) := by decide +kernel
theorem dX11_init_64 : decode cX11_init 64 = .ok (.putfield 38, 3) := by decide +kernel
theorem dX11_init_67 : decode cX11_init 67 = .ok (.aload_n 0, 1) := by decide +kernel
theorem dX11_init_68 : decode cX11_init 68 = .ok (.new 42, 3) := by decide +kernel
theorem dX11_init_71 : decode cX11_init 71 = .ok (.dup, 1) := by decide +kernel
theorem dX11_init_72 : decode cX11_init 72 = .ok (.aload_n 0, 1) := by decide +kernel
theorem dX11_init_73 : decode cX11_init 73 = .ok (.getfield 26, 3) := by decide +kernel
theorem dX11_init_76 : decode cX11_init 76 = .ok (.invokespecial 44, 3) := by decide +kernel
theorem dX11_init_79 : decode cX11_init 79 = .ok (.putfield 47, 3) := by decide +kernel
theorem dX11_init_82 : decode cX11_init 82 = .ok (.aload_n 0, 1) := by decide +kernel
theorem dX11_init_83 : decode cX11_init 83 = .ok (.new 51, 3) := by decide +kernel
theorem dX11_init_86 : decode cX11_init 86 = .ok (.dup, 1) := by decide +kernel
theorem dX11_init_87 : decode cX11_init 87 = .ok (.invokespecial 53, 3) := by decide +kernel
theorem dX11_init_90 : decode cX11_init 90 = .ok (.putfield 54, 3) := by decide +kernel
theorem dX11_init_93 : decode cX11_init 93 = .ok (.aload_n 0, 1) := by decide +kernel
theorem dX11_init_94 : decode cX11_init 94 = .ok (.iconst 3, 1) := by decide +kernel
theorem dX11_init_95 : decode cX11_init 95 = .ok (.anewarray 51, 3) := by decide +kernel
theorem dX11_init_98 : decode cX11_init 98 = .ok (.putfield 58, 3) := by decide +kernel
theorem dX11_init_101 : decode cX11_init 101 = .ok (.iconst 0, 1) := by decide +kernel
theorem dX11_init_102 : decode cX11_init 102 = .ok (.istore_n 1, 1) := by decide +kernel
theorem dX11_init_103 : decode cX11_init 103 = .ok (.iload_n 1, 1) := by decide +kernel
theorem dX11_init_104 : decode cX11_init 104 = .ok (.iconst 3, 1) := by decide +kernel
theorem dX11_init_105 : decode cX11_init 105 = .ok (.if_icmp .ge 22, 3) := by decide +kernel
theorem dX11_init_108 : decode cX11_init 108 = .ok (.aload_n 0, 1) := by decide +kernel
theorem dX11_init_109 : decode cX11_init 109 = .ok (.getfield 58, 3) := by decide +kernel
theorem dX11_init_112 : decode cX11_init 112 = .ok (.iload_n 1, 1) := by decide +kernel
theorem dX11_init_113 : decode cX11_init 113 = .ok (.new 51, 3) := by decide +kernel
theorem dX11_init_116 : decode cX11_init 116 = .ok (.dup, 1) := by decide +kernel
theorem dX11_init_117 : decode cX11_init 117 = .ok (.invokespecial 53, 3) := by decide +kernel
theorem dX11_init_120 : decode cX11_init 120 = .ok (.aastore, 1) := by decide +kernel
theorem dX11_init_121 : decode cX11_init 121 = .ok (.iinc 1 1, 3) := by decide +kernel
theorem dX11_init_124 : decode cX11_init 124 = .ok (.goto (-21), 3) := by decide +kernel
theorem dX11_init_127 : decode cX11_init 127 = .ok (.aload_n 0, 1) := by decide +kernel
theorem dX11_init_128 : decode cX11_init 128 = .ok (.new 62, 3) := by decide +kernel
theorem dX11_init_131 : decode cX11_init 131 = .ok (.dup, 1) := by decide +kernel
theorem dX11_init_132 : decode cX11_init 132 = .ok (.aload_n 0, 1) := by decide +kernel
theorem dX11_init_133 : decode cX11_init 133 = .ok (.getfield 26, 3) := by decide +kernel
theorem dX11_init_136 : decode cX11_init 136 = .ok (.aload_n 0, 1) := by decide +kernel
theorem dX11_init_137 : decode cX11_init 137 = .ok (.getfield 54, 3) := by decide +kernel
theorem dX11_init_140 : decode cX11_init 140 = .ok (.aload_n 0, 1) := by decide +kernel
theorem dX11_init_141 : decode cX11_init 141 = .ok (.getfield 47, 3) := by decide +kernel
theorem dX11_init_144 : decode cX11_init 144 = .ok (.invokespecial 64, 3) := by decide +kernel
theorem dX11_init_147 : decode cX11_init 147 = .ok (.putfield 67, 3) := by decide +kernel
theorem dX11_init_150 : decode cX11_init 150 = .ok (.aload_n 0, 1) := by decide +kernel
theorem dX11_init_151 : decode cX11_init 151 = .ok (.new 71, 3) := by decide +kernel
theorem dX11_init_154 : decode cX11_init 154 = .ok (.dup, 1) := by decide +kernel
theorem dX11_init_155 : decode cX11_init 155 = .ok (.aload_n 0, 1) := by decide +kernel
theorem dX11_init_156 : decode cX11_init 156 = .ok (.getfield 26, 3) := by decide +kernel
theorem dX11_init_159 : decode cX11_init 159 = .ok (.aload_n 0, 1) := by decide +kernel
theorem dX11_init_160 : decode cX11_init 160 = .ok (.getfield 47, 3) := by decide +kernel
theorem dX11_init_163 : decode cX11_init 163 = .ok (.invokespecial 73, 3) := by decide +kernel
theorem dX11_init_166 : decode cX11_init 166 = .ok (.putfield 76, 3) := by decide +kernel
theorem dX11_init_169 : decode cX11_init 169 = .ok (.aload_n 0, 1) := by decide +kernel
theorem dX11_init_170 : decode cX11_init 170 = .ok (.new 80, 3) := by decide +kernel
theorem dX11_init_173 : decode cX11_init 173 = .ok (.dup, 1) := by decide +kernel
theorem dX11_init_174 : decode cX11_init 174 = .ok (.aload_n 0, 1) := by decide +kernel
theorem dX11_init_175 : decode cX11_init 175 = .ok (.getfield 26, 3) := by decide +kernel
theorem dX11_init_178 : decode cX11_init 178 = .ok (.invokespecial 82, 3) := by decide +kernel
theorem dX11_init_181 : decode cX11_init 181 = .ok (.putfield 83, 3) := by decide +kernel
theorem dX11_init_184 : decode cX11_init 184 = .ok (.aload_n 0, 1) := by decide +kernel
theorem dX11_init_185 : decode cX11_init 185 = .ok (.iconst 0, 1) := by decide +kernel
theorem dX11_init_186 : decode cX11_init 186 = .ok (.putfield 87, 3) := by decide +kernel
theorem dX11_init_189 : decode cX11_init 189 = .ok (.aload_n 0, 1) := by decide +kernel
theorem dX11_init_190 : decode cX11_init 190 = .ok (.iconst (-1), 1) := by decide +kernel
theorem dX11_init_191 : decode cX11_init 191 = .ok (.putfield 91, 3) := by decide +kernel
theorem dX11_init_194 : decode cX11_init 194 = .ok (.return_, 1) := by decide +kernel
theorem ml_oi_X11 : Cond.methodLink "AfterOffice" 1 Lib.objectInit ∈ TB := tb_mem (tb_tab (tt_1 (List.mem_of_getElem? (i := 29) rfl))) rfl
theorem nw_X11_7 : NWd "AfterOffice" 7 8 2 TX8 tyX8 := ⟨RX8, rfl, inX8, tyX8_ok, tb_mem (tb_tab (tt_1 (List.mem_of_getElem? (i := 32) rfl))) rfl, tb_mem (tb_tab (tt_1 (List.mem_of_getElem? (i := 33) rfl))) rfl, tb_mem (tb_tab (tt_1 (List.mem_of_getElem? (i := 2) rfl))) rfl⟩
theorem nf_X8 : ∀ j, j < 2 → defaultValue (tyX8 j) = vp_V [.null, .int 0] j := fun j hj => match j, hj with
  | 0, _ => rfl
  | 1, _ => rfl
  | n + 2, h => absurd h (by omega)
theorem mlc_X11_9 : Cond.methodLinkNest "AfterOffice" 9 yX8_init "AfterOffice" ∈ lw_tbl := tb_tab (tt_1 (List.mem_of_getElem? (i := 34) rfl))
theorem imc_X8 : Cond.instanceMethod yX8_init ∈ TB := tb_mem (tb_tab (tt_1 (List.mem_of_getElem? (i := 35) rfl))) rfl
theorem ck_X8_init : CK yX8_init cX8_init 1 none 0 := ⟨tb_mem (tb_tab (tt_1 (List.mem_of_getElem? (i := 36) rfl))) rfl, tb_mem (tb_tab (tt_1 (List.mem_of_getElem? (i := 2) rfl))) rfl, by decide, by decide⟩
theorem pF_X11_10 : ∃ (C : String) (TT : u_T) (N : Nat) (ty0 : Nat → FieldType), vwCl[11]? = some (C, TT, N) ∧ (∀ w ∈ u_ws C TT N, w ∈ TB) ∧ 0 < N ∧ Cond.fieldLink "AfterOffice" 10 C (TT 0).2.1 (TT 0).2.2.1 ∈ TB ∧ (TT 0).1 = C ∧ (∀ k, k < N → parseFieldDescriptor (TT k).2.2.1 = some (ty0 k)) ∧ (∀ a, a < N → ∀ b, b < N → a ≠ b → (TT a).2.1 ≠ (TT b).2.1) ∧ (TT 0).2.2.2 = true ∧ parseFieldDescriptor (TT 0).2.2.1 = some (tyX11 0) ∧ C = "AfterOffice" := ⟨_, _, _, tyX11, rfl, inX11, by decide, tb_mem (tb_tab (tt_3 (List.mem_of_getElem? (i := 52) rfl))) rfl, rfl, tyX11_ok, nmX11, rfl, tyX11_ok 0 (by decide), rfl⟩
theorem nw_X11_16 : NWd "AfterOffice" 16 9 5 TX9 tyX9 := ⟨RX9, rfl, inX9, tyX9_ok, tb_mem (tb_tab (tt_1 (List.mem_of_getElem? (i := 48) rfl))) rfl, tb_mem (tb_tab (tt_1 (List.mem_of_getElem? (i := 49) rfl))) rfl, tb_mem (tb_tab (tt_1 (List.mem_of_getElem? (i := 3) rfl))) rfl⟩
theorem nf_X9 : ∀ j, j < 5 → defaultValue (tyX9 j) = vp_V [.null, .null, .null, .null, .int 0] j := fun j hj => match j, hj with
  | 0, _ => rfl
  | 1, _ => rfl
  | 2, _ => rfl
  | 3, _ => rfl
  | 4, _ => rfl
  | n + 5, h => absurd h (by omega)
theorem mlc_X11_18 : Cond.methodLink "AfterOffice" 18 yX9_init ∈ TB := tb_mem (tb_tab (tt_1 (List.mem_of_getElem? (i := 50) rfl))) rfl
theorem imc_X9 : Cond.instanceMethod yX9_init ∈ TB := tb_mem (tb_tab (tt_1 (List.mem_of_getElem? (i := 51) rfl))) rfl
theorem ck_X9_init : CK yX9_init cX9_init 4 none 0 := ⟨tb_mem (tb_tab (tt_1 (List.mem_of_getElem? (i := 52) rfl))) rfl, tb_mem (tb_tab (tt_1 (List.mem_of_getElem? (i := 3) rfl))) rfl, by decide, by decide⟩
theorem pF_X11_19 : ∃ (C : String) (TT : u_T) (N : Nat) (ty0 : Nat → FieldType), vwCl[11]? = some (C, TT, N) ∧ (∀ w ∈ u_ws C TT N, w ∈ TB) ∧ 1 < N ∧ Cond.fieldLink "AfterOffice" 19 C (TT 1).2.1 (TT 1).2.2.1 ∈ TB ∧ (TT 1).1 = C ∧ (∀ k, k < N → parseFieldDescriptor (TT k).2.2.1 = some (ty0 k)) ∧ (∀ a, a < N → ∀ b, b < N → a ≠ b → (TT a).2.1 ≠ (TT b).2.1) ∧ (TT 1).2.2.2 = true ∧ parseFieldDescriptor (TT 1).2.2.1 = some (tyX11 1) ∧ C = "AfterOffice" := ⟨_, _, _, tyX11, rfl, inX11, by decide, tb_mem (tb_tab (tt_3 (List.mem_of_getElem? (i := 53) rfl))) rfl, rfl, tyX11_ok, nmX11, rfl, tyX11_ok 1 (by decide), rfl⟩
theorem nw_X11_23 : NWd "AfterOffice" 23 0 12 TX0 tyX0 := ⟨RX0, rfl, inX0, tyX0_ok, tb_mem (tb_tab (tt_1 (List.mem_of_getElem? (i := 124) rfl))) rfl, tb_mem (tb_tab (tt_1 (List.mem_of_getElem? (i := 125) rfl))) rfl, tb_mem (tb_tab (tt_1 (List.mem_of_getElem? (i := 8) rfl))) rfl⟩
theorem nf_X0 : ∀ j, j < 12 → defaultValue (tyX0 j) = vp_V [.null, .null, .null, .null, .null, .null, .int 0, .int 0, .int 0, .int 0, .int 0, .int 0] j := fun j hj => match j, hj with
  | 0, _ => rfl
  | 1, _ => rfl
  | 2, _ => rfl
  | 3, _ => rfl
  | 4, _ => rfl
  | 5, _ => rfl
  | 6, _ => rfl
  | 7, _ => rfl
  | 8, _ => rfl
  | 9, _ => rfl
  | 10, _ => rfl
  | 11, _ => rfl
  | n + 12, h => absurd h (by omega)
theorem mlc_X11_25 : Cond.methodLink "AfterOffice" 25 yX0_init ∈ TB := tb_mem (tb_tab (tt_1 (List.mem_of_getElem? (i := 126) rfl))) rfl
theorem imc_X0 : Cond.instanceMethod yX0_init ∈ TB := tb_mem (tb_tab (tt_1 (List.mem_of_getElem? (i := 127) rfl))) rfl
theorem ck_X0_init : CK yX0_init cX0_init 2 none 0 := ⟨tb_mem (tb_tab (tt_1 (List.mem_of_getElem? (i := 128) rfl))) rfl, tb_mem (tb_tab (tt_1 (List.mem_of_getElem? (i := 8) rfl))) rfl, by decide, by decide⟩
theorem pF_X11_26 : ∃ (C : String) (TT : u_T) (N : Nat) (ty0 : Nat → FieldType), vwCl[11]? = some (C, TT, N) ∧ (∀ w ∈ u_ws C TT N, w ∈ TB) ∧ 2 < N ∧ Cond.fieldLink "AfterOffice" 26 C (TT 2).2.1 (TT 2).2.2.1 ∈ TB ∧ (TT 2).1 = C ∧ (∀ k, k < N → parseFieldDescriptor (TT k).2.2.1 = some (ty0 k)) ∧ (∀ a, a < N → ∀ b, b < N → a ≠ b → (TT a).2.1 ≠ (TT b).2.1) ∧ (TT 2).2.2.2 = true ∧ parseFieldDescriptor (TT 2).2.2.1 = some (tyX11 2) ∧ C = "AfterOffice" := ⟨_, _, _, tyX11, rfl, inX11, by decide, tb_mem (tb_tab (tt_3 (List.mem_of_getElem? (i := 54) rfl))) rfl, rfl, tyX11_ok, nmX11, rfl, tyX11_ok 2 (by decide), rfl⟩
theorem pF_X11_30 : ∃ (C : String) (TT : u_T) (N : Nat) (ty0 : Nat → FieldType), vwCl[11]? = some (C, TT, N) ∧ (∀ w ∈ u_ws C TT N, w ∈ TB) ∧ 3 < N ∧ Cond.fieldLink "AfterOffice" 30 C (TT 3).2.1 (TT 3).2.2.1 ∈ TB ∧ (TT 3).1 = C ∧ (∀ k, k < N → parseFieldDescriptor (TT k).2.2.1 = some (ty0 k)) ∧ (∀ a, a < N → ∀ b, b < N → a ≠ b → (TT a).2.1 ≠ (TT b).2.1) ∧ (TT 3).2.2.2 = true ∧ parseFieldDescriptor (TT 3).2.2.1 = some (tyX11 3) ∧ C = "AfterOffice" := ⟨_, _, _, tyX11, rfl, inX11, by decide, tb_mem (tb_tab (tt_3 (List.mem_of_getElem? (i := 55) rfl))) rfl, rfl, tyX11_ok, nmX11, rfl, tyX11_ok 3 (by decide), rfl⟩
theorem nw_X11_33 : NWd "AfterOffice" 33 5 10 TX5 tyX5 := ⟨RX5, rfl, inX5, tyX5_ok, tb_mem (tb_tab (tt_2 (List.mem_of_getElem? (i := 26) rfl))) rfl, tb_mem (tb_tab (tt_2 (List.mem_of_getElem? (i := 27) rfl))) rfl, tb_mem (tb_tab (tt_1 (List.mem_of_getElem? (i := 11) rfl))) rfl⟩
theorem nf_X5 : ∀ j, j < 10 → defaultValue (tyX5 j) = vp_V [.null, .null, .null, .null, .null, .null, .int 0, .int 0, .int 0, .int 0] j := fun j hj => match j, hj with
  | 0, _ => rfl
  | 1, _ => rfl
  | 2, _ => rfl
  | 3, _ => rfl
  | 4, _ => rfl
  | 5, _ => rfl
  | 6, _ => rfl
  | 7, _ => rfl
  | 8, _ => rfl
  | 9, _ => rfl
  | n + 10, h => absurd h (by omega)
theorem mlc_X11_35 : Cond.methodLink "AfterOffice" 35 yX5_init ∈ TB := tb_mem (tb_tab (tt_2 (List.mem_of_getElem? (i := 28) rfl))) rfl
theorem imc_X5 : Cond.instanceMethod yX5_init ∈ TB := tb_mem (tb_tab (tt_2 (List.mem_of_getElem? (i := 29) rfl))) rfl
theorem ck_X5_init : CK yX5_init cX5_init 3 none 2 := ⟨tb_mem (tb_tab (tt_2 (List.mem_of_getElem? (i := 30) rfl))) rfl, tb_mem (tb_tab (tt_1 (List.mem_of_getElem? (i := 11) rfl))) rfl, by decide, by decide⟩
theorem pF_X11_38 : ∃ (C : String) (TT : u_T) (N : Nat) (ty0 : Nat → FieldType), vwCl[11]? = some (C, TT, N) ∧ (∀ w ∈ u_ws C TT N, w ∈ TB) ∧ 4 < N ∧ Cond.fieldLink "AfterOffice" 38 C (TT 4).2.1 (TT 4).2.2.1 ∈ TB ∧ (TT 4).1 = C ∧ (∀ k, k < N → parseFieldDescriptor (TT k).2.2.1 = some (ty0 k)) ∧ (∀ a, a < N → ∀ b, b < N → a ≠ b → (TT a).2.1 ≠ (TT b).2.1) ∧ (TT 4).2.2.2 = true ∧ parseFieldDescriptor (TT 4).2.2.1 = some (tyX11 4) ∧ C = "AfterOffice" := ⟨_, _, _, tyX11, rfl, inX11, by decide, tb_mem (tb_tab (tt_3 (List.mem_of_getElem? (i := 56) rfl))) rfl, rfl, tyX11_ok, nmX11, rfl, tyX11_ok 4 (by decide), rfl⟩
theorem nw_X11_42 : NWd "AfterOffice" 42 6 8 TX6 tyX6 := ⟨RX6, rfl, inX6, tyX6_ok, tb_mem (tb_tab (tt_2 (List.mem_of_getElem? (i := 65) rfl))) rfl, tb_mem (tb_tab (tt_2 (List.mem_of_getElem? (i := 66) rfl))) rfl, tb_mem (tb_tab (tt_1 (List.mem_of_getElem? (i := 12) rfl))) rfl⟩
theorem nf_X6 : ∀ j, j < 8 → defaultValue (tyX6 j) = vp_V [.null, .null, .null, .null, .null, .int 0, .int 0, .int 0] j := fun j hj => match j, hj with
  | 0, _ => rfl
  | 1, _ => rfl
  | 2, _ => rfl
  | 3, _ => rfl
  | 4, _ => rfl
  | 5, _ => rfl
  | 6, _ => rfl
  | 7, _ => rfl
  | n + 8, h => absurd h (by omega)
theorem mlc_X11_44 : Cond.methodLink "AfterOffice" 44 yX6_init ∈ TB := tb_mem (tb_tab (tt_2 (List.mem_of_getElem? (i := 67) rfl))) rfl
theorem imc_X6 : Cond.instanceMethod yX6_init ∈ TB := tb_mem (tb_tab (tt_2 (List.mem_of_getElem? (i := 68) rfl))) rfl
theorem ck_X6_init : CK yX6_init cX6_init 2 none 1 := ⟨tb_mem (tb_tab (tt_2 (List.mem_of_getElem? (i := 69) rfl))) rfl, tb_mem (tb_tab (tt_1 (List.mem_of_getElem? (i := 12) rfl))) rfl, by decide, by decide⟩
theorem pF_X11_47 : ∃ (C : String) (TT : u_T) (N : Nat) (ty0 : Nat → FieldType), vwCl[11]? = some (C, TT, N) ∧ (∀ w ∈ u_ws C TT N, w ∈ TB) ∧ 5 < N ∧ Cond.fieldLink "AfterOffice" 47 C (TT 5).2.1 (TT 5).2.2.1 ∈ TB ∧ (TT 5).1 = C ∧ (∀ k, k < N → parseFieldDescriptor (TT k).2.2.1 = some (ty0 k)) ∧ (∀ a, a < N → ∀ b, b < N → a ≠ b → (TT a).2.1 ≠ (TT b).2.1) ∧ (TT 5).2.2.2 = true ∧ parseFieldDescriptor (TT 5).2.2.1 = some (tyX11 5) ∧ C = "AfterOffice" := ⟨_, _, _, tyX11, rfl, inX11, by decide, tb_mem (tb_tab (tt_3 (List.mem_of_getElem? (i := 57) rfl))) rfl, rfl, tyX11_ok, nmX11, rfl, tyX11_ok 5 (by decide), rfl⟩
theorem nw_X11_51 : NWd "AfterOffice" 51 3 7 TX3 tyX3 := ⟨RX3, rfl, inX3, tyX3_ok, tb_mem (tb_tab (tt_2 (List.mem_of_getElem? (i := 96) rfl))) rfl, tb_mem (tb_tab (tt_2 (List.mem_of_getElem? (i := 97) rfl))) rfl, tb_mem (tb_tab (tt_1 (List.mem_of_getElem? (i := 13) rfl))) rfl⟩
theorem nf_X3 : ∀ j, j < 7 → defaultValue (tyX3 j) = vp_V [.null, .null, .null, .null, .null, .null, .int 0] j := fun j hj => match j, hj with
  | 0, _ => rfl
  | 1, _ => rfl
  | 2, _ => rfl
  | 3, _ => rfl
  | 4, _ => rfl
  | 5, _ => rfl
  | 6, _ => rfl
  | n + 7, h => absurd h (by omega)
theorem mlc_X11_53 : Cond.methodLinkNest "AfterOffice" 53 yX3_init "AfterOffice" ∈ lw_tbl := tb_tab (tt_2 (List.mem_of_getElem? (i := 98) rfl))
theorem imc_X3 : Cond.instanceMethod yX3_init ∈ TB := tb_mem (tb_tab (tt_2 (List.mem_of_getElem? (i := 99) rfl))) rfl
theorem ck_X3_init : CK yX3_init cX3_init 1 none 0 := ⟨tb_mem (tb_tab (tt_2 (List.mem_of_getElem? (i := 100) rfl))) rfl, tb_mem (tb_tab (tt_1 (List.mem_of_getElem? (i := 13) rfl))) rfl, by decide, by decide⟩
theorem pF_X11_54 : ∃ (C : String) (TT : u_T) (N : Nat) (ty0 : Nat → FieldType), vwCl[11]? = some (C, TT, N) ∧ (∀ w ∈ u_ws C TT N, w ∈ TB) ∧ 6 < N ∧ Cond.fieldLink "AfterOffice" 54 C (TT 6).2.1 (TT 6).2.2.1 ∈ TB ∧ (TT 6).1 = C ∧ (∀ k, k < N → parseFieldDescriptor (TT k).2.2.1 = some (ty0 k)) ∧ (∀ a, a < N → ∀ b, b < N → a ≠ b → (TT a).2.1 ≠ (TT b).2.1) ∧ (TT 6).2.2.2 = true ∧ parseFieldDescriptor (TT 6).2.2.1 = some (tyX11 6) ∧ C = "AfterOffice" := ⟨_, _, _, tyX11, rfl, inX11, by decide, tb_mem (tb_tab (tt_3 (List.mem_of_getElem? (i := 58) rfl))) rfl, rfl, tyX11_ok, nmX11, rfl, tyX11_ok 6 (by decide), rfl⟩
theorem clk_X11_51 : Cond.classLink "AfterOffice" 51 "AfterOffice$Facts" ∈ TB := tb_mem (tb_tab (tt_2 (List.mem_of_getElem? (i := 96) rfl))) rfl
theorem pF_X11_58 : ∃ (C : String) (TT : u_T) (N : Nat) (ty0 : Nat → FieldType), vwCl[11]? = some (C, TT, N) ∧ (∀ w ∈ u_ws C TT N, w ∈ TB) ∧ 7 < N ∧ Cond.fieldLink "AfterOffice" 58 C (TT 7).2.1 (TT 7).2.2.1 ∈ TB ∧ (TT 7).1 = C ∧ (∀ k, k < N → parseFieldDescriptor (TT k).2.2.1 = some (ty0 k)) ∧ (∀ a, a < N → ∀ b, b < N → a ≠ b → (TT a).2.1 ≠ (TT b).2.1) ∧ (TT 7).2.2.2 = true ∧ parseFieldDescriptor (TT 7).2.2.1 = some (tyX11 7) ∧ C = "AfterOffice" := ⟨_, _, _, tyX11, rfl, inX11, by decide, tb_mem (tb_tab (tt_3 (List.mem_of_getElem? (i := 59) rfl))) rfl, rfl, tyX11_ok, nmX11, rfl, tyX11_ok 7 (by decide), rfl⟩
theorem nw_X11_62 : NWd "AfterOffice" 62 2 9 TX2 tyX2 := ⟨RX2, rfl, inX2, tyX2_ok, tb_mem (tb_tab (tt_2 (List.mem_of_getElem? (i := 135) rfl))) rfl, tb_mem (tb_tab (tt_2 (List.mem_of_getElem? (i := 136) rfl))) rfl, tb_mem (tb_tab (tt_1 (List.mem_of_getElem? (i := 14) rfl))) rfl⟩
theorem nf_X2 : ∀ j, j < 9 → defaultValue (tyX2 j) = vp_V [.null, .null, .null, .null, .null, .null, .int 0, .int 0, .int 0] j := fun j hj => match j, hj with
  | 0, _ => rfl
  | 1, _ => rfl
  | 2, _ => rfl
  | 3, _ => rfl
  | 4, _ => rfl
  | 5, _ => rfl
  | 6, _ => rfl
  | 7, _ => rfl
  | 8, _ => rfl
  | n + 9, h => absurd h (by omega)
theorem mlc_X11_64 : Cond.methodLink "AfterOffice" 64 yX2_init ∈ TB := tb_mem (tb_tab (tt_2 (List.mem_of_getElem? (i := 137) rfl))) rfl
theorem imc_X2 : Cond.instanceMethod yX2_init ∈ TB := tb_mem (tb_tab (tt_2 (List.mem_of_getElem? (i := 138) rfl))) rfl
theorem ck_X2_init : CK yX2_init cX2_init 4 none 3 := ⟨tb_mem (tb_tab (tt_2 (List.mem_of_getElem? (i := 139) rfl))) rfl, tb_mem (tb_tab (tt_1 (List.mem_of_getElem? (i := 14) rfl))) rfl, by decide, by decide⟩
theorem pF_X11_67 : ∃ (C : String) (TT : u_T) (N : Nat) (ty0 : Nat → FieldType), vwCl[11]? = some (C, TT, N) ∧ (∀ w ∈ u_ws C TT N, w ∈ TB) ∧ 8 < N ∧ Cond.fieldLink "AfterOffice" 67 C (TT 8).2.1 (TT 8).2.2.1 ∈ TB ∧ (TT 8).1 = C ∧ (∀ k, k < N → parseFieldDescriptor (TT k).2.2.1 = some (ty0 k)) ∧ (∀ a, a < N → ∀ b, b < N → a ≠ b → (TT a).2.1 ≠ (TT b).2.1) ∧ (TT 8).2.2.2 = true ∧ parseFieldDescriptor (TT 8).2.2.1 = some (tyX11 8) ∧ C = "AfterOffice" := ⟨_, _, _, tyX11, rfl, inX11, by decide, tb_mem (tb_tab (tt_3 (List.mem_of_getElem? (i := 60) rfl))) rfl, rfl, tyX11_ok, nmX11, rfl, tyX11_ok 8 (by decide), rfl⟩
theorem nw_X11_71 : NWd "AfterOffice" 71 10 9 TX10 tyX10 := ⟨RX10, rfl, inX10, tyX10_ok, tb_mem (tb_tab (tt_2 (List.mem_of_getElem? (i := 234) rfl))) rfl, tb_mem (tb_tab (tt_2 (List.mem_of_getElem? (i := 235) rfl))) rfl, tb_mem (tb_tab (tt_1 (List.mem_of_getElem? (i := 16) rfl))) rfl⟩
theorem nf_X10 : ∀ j, j < 9 → defaultValue (tyX10 j) = vp_V [.null, .null, .null, .null, .int 0, .int 0, .int 0, .int 0, .int 0] j := fun j hj => match j, hj with
  | 0, _ => rfl
  | 1, _ => rfl
  | 2, _ => rfl
  | 3, _ => rfl
  | 4, _ => rfl
  | 5, _ => rfl
  | 6, _ => rfl
  | 7, _ => rfl
  | 8, _ => rfl
  | n + 9, h => absurd h (by omega)
theorem mlc_X11_73 : Cond.methodLink "AfterOffice" 73 yX10_init ∈ TB := tb_mem (tb_tab (tt_2 (List.mem_of_getElem? (i := 236) rfl))) rfl
theorem imc_X10 : Cond.instanceMethod yX10_init ∈ TB := tb_mem (tb_tab (tt_2 (List.mem_of_getElem? (i := 237) rfl))) rfl
theorem ck_X10_init : CK yX10_init cX10_init 3 none 2 := ⟨tb_mem (tb_tab (tt_2 (List.mem_of_getElem? (i := 238) rfl))) rfl, tb_mem (tb_tab (tt_1 (List.mem_of_getElem? (i := 16) rfl))) rfl, by decide, by decide⟩
theorem pF_X11_76 : ∃ (C : String) (TT : u_T) (N : Nat) (ty0 : Nat → FieldType), vwCl[11]? = some (C, TT, N) ∧ (∀ w ∈ u_ws C TT N, w ∈ TB) ∧ 9 < N ∧ Cond.fieldLink "AfterOffice" 76 C (TT 9).2.1 (TT 9).2.2.1 ∈ TB ∧ (TT 9).1 = C ∧ (∀ k, k < N → parseFieldDescriptor (TT k).2.2.1 = some (ty0 k)) ∧ (∀ a, a < N → ∀ b, b < N → a ≠ b → (TT a).2.1 ≠ (TT b).2.1) ∧ (TT 9).2.2.2 = true ∧ parseFieldDescriptor (TT 9).2.2.1 = some (tyX11 9) ∧ C = "AfterOffice" := ⟨_, _, _, tyX11, rfl, inX11, by decide, tb_mem (tb_tab (tt_3 (List.mem_of_getElem? (i := 61) rfl))) rfl, rfl, tyX11_ok, nmX11, rfl, tyX11_ok 9 (by decide), rfl⟩
theorem nw_X11_80 : NWd "AfterOffice" 80 7 2 TX7 tyX7 := ⟨RX7, rfl, inX7, tyX7_ok, tb_mem (tb_tab (tt_3 (List.mem_of_getElem? (i := 39) rfl))) rfl, tb_mem (tb_tab (tt_3 (List.mem_of_getElem? (i := 40) rfl))) rfl, tb_mem (tb_tab (tt_1 (List.mem_of_getElem? (i := 17) rfl))) rfl⟩
theorem nf_X7 : ∀ j, j < 2 → defaultValue (tyX7 j) = vp_V [.null, .null] j := fun j hj => match j, hj with
  | 0, _ => rfl
  | 1, _ => rfl
  | n + 2, h => absurd h (by omega)
theorem mlc_X11_82 : Cond.methodLink "AfterOffice" 82 yX7_init ∈ TB := tb_mem (tb_tab (tt_3 (List.mem_of_getElem? (i := 41) rfl))) rfl
theorem imc_X7 : Cond.instanceMethod yX7_init ∈ TB := tb_mem (tb_tab (tt_3 (List.mem_of_getElem? (i := 42) rfl))) rfl
theorem ck_X7_init : CK yX7_init cX7_init 2 none 1 := ⟨tb_mem (tb_tab (tt_3 (List.mem_of_getElem? (i := 43) rfl))) rfl, tb_mem (tb_tab (tt_1 (List.mem_of_getElem? (i := 17) rfl))) rfl, by decide, by decide⟩
theorem pF_X11_83 : ∃ (C : String) (TT : u_T) (N : Nat) (ty0 : Nat → FieldType), vwCl[11]? = some (C, TT, N) ∧ (∀ w ∈ u_ws C TT N, w ∈ TB) ∧ 10 < N ∧ Cond.fieldLink "AfterOffice" 83 C (TT 10).2.1 (TT 10).2.2.1 ∈ TB ∧ (TT 10).1 = C ∧ (∀ k, k < N → parseFieldDescriptor (TT k).2.2.1 = some (ty0 k)) ∧ (∀ a, a < N → ∀ b, b < N → a ≠ b → (TT a).2.1 ≠ (TT b).2.1) ∧ (TT 10).2.2.2 = true ∧ parseFieldDescriptor (TT 10).2.2.1 = some (tyX11 10) ∧ C = "AfterOffice" := ⟨_, _, _, tyX11, rfl, inX11, by decide, tb_mem (tb_tab (tt_3 (List.mem_of_getElem? (i := 62) rfl))) rfl, rfl, tyX11_ok, nmX11, rfl, tyX11_ok 10 (by decide), rfl⟩
def g_stC : List (Nat × Shp) := (((((((((g_tpC ++ g_tkC) ++ bkC_108) ++ bkC_125) ++ g_paC) ++ g_reC) ++ g_faC) ++ g_slC) ++ g_coC) ++ wyC) ++ g_riC
set_option maxRecDepth 20000 in
theorem shsC_st : shsC = (100, .inl (11, [some 101, some 103, some 108, some 125, some 142, some 147, some 152, some 159, some 181, some 206, some 209, none, none])) :: g_stC := rfl
set_option maxRecDepth 20000 in
theorem off_eq {cy : Nat → ClassId} {a tp tk bo dr pa re fa sa co wy ri : Nat} {q : Nat → Nat} {h : Nat → Nat → Int32} {h2 : Nat → Nat → Int64} (etp : q 101 = tp) (etk : q 103 = tk) (ebo : q 108 = bo) (edr : q 125 = dr) (epa : q 142 = pa) (ere : q 147 = re) (efa : q 152 = fa) (esa : q 159 = sa) (eco : q 181 = co) (ewy : q 206 = wy) (eri : q 209 = ri) : ((a, .inr (11, [.ref tp, .ref tk, .ref bo, .ref dr, .ref pa, .ref re, .ref fa, .ref sa, .ref co, .ref wy, .ref ri, .int 0, .int (-1)])) :: WD g_stC (fun k => if k = 100 then a else q k) cy (fun k => if k = 100 then (fun j => if j = 12 then -1 else 0) else h k, h2) : va_W) = WD shsC (fun k => if k = 100 then a else q k) cy (fun k => if k = 100 then (fun j => if j = 12 then -1 else 0) else h k, h2) := by
  subst etp etk ebo edr epa ere efa esa eco ewy eri
  rw [shsC_st]
  rfl
set_option maxRecDepth 40000 in
set_option maxHeartbeats 2000000 in
theorem tX11_init (l : Launch) (K V : Nat) (f : Option Nat) (qs : Nat → Nat) (D : va_G) (cy : Nat → ClassId) (a sz : Nat) : MI2 l K V f qs D cy yX11_init cX11_init 2 5 110 7404 [.ref a] a 11 sz [.null, .null, .null, .null, .null, .null, .null, .null, .null, .null, .null, .int 0, .int 0] (fun w1 => ∃ (q : Nat → Nat) (c : Hp), q 100 = a ∧ RelAO c hM0 ∧ w1 = WD shsC q cy c) := by
  refine mi_start2 (by decide) rfl (Nat.le_of_ble_eq_true rfl) (fun G X S => ?_)
  refine w_aload_n (pc := 0) 0 X.1.1 dX11_init_0 rfl ?_
  refine r_obj (pc := 1) X dX11_init_1 ml_oi_X11 ml_oc (Nat.le_of_ble_eq_true rfl) (Nat.le_of_ble_eq_true rfl) ?_
  refine w_aload_n (pc := 4) 0 X.1.1 dX11_init_4 rfl ?_
  refine r_new (pc := 5) [.null, .int 0] X.1 dX11_init_5 nw_X11_7 nf_X8 (by rw [X.2.2.1]; exact Nat.le_of_ble_eq_true rfl) (by rw [X.2.2.1]; exact Nat.le_of_ble_eq_true rfl) (fun tp => ?_)
  refine w_dup (pc := 8) X.1.1 dX11_init_8 rfl ?_
  refine r_callIN (pc := 9) (n' := 1) (mc' := 1) (ms' := 2000) (As := []) (rest := [.ref tp, .ref a]) ((a, .inr (11, [.null, .null, .null, .null, .null, .null, .null, .null, .null, .null, .null, .int 0, .int 0])) :: []) X dX11_init_9 mlc_X11_9 ck_X8_init imc_X8 rfl (Nat.le_of_ble_eq_true rfl) ⟨Nat.le_of_ble_eq_true rfl, Nat.le_of_ble_eq_true rfl⟩ rfl (Nat.le_of_ble_eq_true rfl) rfl rfl (fun sz => tX8_init l qs D cy tp sz) ?_
  intro w1 hw1
  obtain ⟨q_tp, e_tp, rfl⟩ := cv_tape hw1
  refine w_eq (ws' := (a, .inr (11, [.null, .null, .null, .null, .null, .null, .null, .null, .null, .null, .null, .int 0, .int 0])) :: WD g_tpC q_tp cy h00) rfl ?_
  refine r_putF (pc := 12) (p := 0) ((a, .inr (11, [.ref tp, .null, .null, .null, .null, .null, .null, .null, .null, .null, .null, .int 0, .int 0])) :: WD g_tpC q_tp cy h00) X.1 X.2.1 dX11_init_12 pF_X11_10 rfl rfl rfl (Nat.le_of_ble_eq_true rfl) rfl ?_
  refine w_aload_n (pc := 15) 0 X.1.1 dX11_init_15 rfl ?_
  refine r_new (pc := 16) [.null, .null, .null, .null, .int 0] X.1 dX11_init_16 nw_X11_16 nf_X9 (by rw [X.2.2.1]; exact Nat.le_of_ble_eq_true rfl) (by rw [X.2.2.1]; exact Nat.le_of_ble_eq_true rfl) (fun tk => ?_)
  refine w_dup (pc := 19) X.1.1 dX11_init_19 rfl ?_
  refine r_callG (pc := 20) (n' := 4) (mc' := 4) (ms' := 1221) (As := []) (rest := [.ref tk, .ref a]) (Pc := fun sz => PI2 K V f qs D cy [.ref tk] tk 9 sz [.null, .null, .null, .null, .int 0]) ((a, .inr (11, [.ref tp, .null, .null, .null, .null, .null, .null, .null, .null, .null, .null, .int 0, .int 0])) :: WD g_tpC q_tp cy h00) X.1 (by rw [X.2.2.1]; exact ⟨Nat.le_of_ble_eq_true rfl, Nat.le_of_ble_eq_true rfl, Nat.le_of_ble_eq_true rfl, Nat.le_of_ble_eq_true rfl⟩) dX11_init_20 mlc_X11_18 ck_X9_init imc_X9 rfl rfl (Nat.le_of_ble_eq_true rfl) rfl rfl (fun H locs hP hS => r_pre2 X.1 X.2.2.2.1 S hP hS) (fun sz => tX9_init l K V f qs D cy tk sz) ?_
  rintro _ ⟨tq1, tq2, tq3, tq4, rfl⟩
  obtain ⟨q_tk, h_tk, e_tk, f_tk, g_tk⟩ := cv_tok (cy := cy) (a := tk) (q1 := tq1) (q2 := tq2) (q3 := tq3) (q4 := tq4) wfT_kw
  rw [g_tk]
  refine w_eq (WD_gl (B := 103) (R := []) rfl rfl (fun k hk => absurd hk List.not_mem_nil)) ?_
  refine r_putF (pc := 23) (p := 0) ((a, .inr (11, [.ref tp, .ref tk, .null, .null, .null, .null, .null, .null, .null, .null, .null, .int 0, .int 0])) :: WD (g_tpC ++ g_tkC) (glq 103 q_tp q_tk) cy (glh 103 h00 h_tk)) X.1 X.2.1 dX11_init_23 pF_X11_19 rfl rfl rfl (Nat.le_of_ble_eq_true rfl) rfl ?_
  refine w_aload_n (pc := 26) 0 X.1.1 dX11_init_26 rfl ?_
  refine r_new (pc := 27) [.null, .null, .null, .null, .null, .null, .int 0, .int 0, .int 0, .int 0, .int 0, .int 0] X.1 dX11_init_27 nw_X11_23 nf_X0 (by rw [X.2.2.1]; exact Nat.le_of_ble_eq_true rfl) (by rw [X.2.2.1]; exact Nat.le_of_ble_eq_true rfl) (fun bo => ?_)
  refine w_dup (pc := 30) X.1.1 dX11_init_30 rfl ?_
  refine r_callG (pc := 31) (n' := 2) (mc' := 16) (ms' := 510) (As := []) (rest := [.ref bo, .ref a]) (Pc := fun sz => PI2 K V f qs D cy [.ref bo] bo 0 sz [.null, .null, .null, .null, .null, .null, .int 0, .int 0, .int 0, .int 0, .int 0, .int 0]) ((a, .inr (11, [.ref tp, .ref tk, .null, .null, .null, .null, .null, .null, .null, .null, .null, .int 0, .int 0])) :: WD (g_tpC ++ g_tkC) (glq 103 q_tp q_tk) cy (glh 103 h00 h_tk)) X.1 (by rw [X.2.2.1]; exact ⟨Nat.le_of_ble_eq_true rfl, Nat.le_of_ble_eq_true rfl, Nat.le_of_ble_eq_true rfl, Nat.le_of_ble_eq_true rfl⟩) dX11_init_31 mlc_X11_25 ck_X0_init imc_X0 rfl rfl (Nat.le_of_ble_eq_true rfl) rfl rfl (fun H locs hP hS => r_pre2 X.1 X.2.2.2.1 S hP hS) (fun sz => tX0_init_108 l K V f qs D cy bo sz) ?_
  rintro _ ⟨q_bo, h_bo, e_bo, f_bo, rfl⟩
  refine w_eq (WD_gl (B := 108) (R := []) rfl rfl (fun k hk => absurd hk List.not_mem_nil)) ?_
  refine r_putF (pc := 34) (p := 0) ((a, .inr (11, [.ref tp, .ref tk, .ref bo, .null, .null, .null, .null, .null, .null, .null, .null, .int 0, .int 0])) :: WD ((g_tpC ++ g_tkC) ++ bkC_108) (glq 108 (glq 103 q_tp q_tk) q_bo) cy (glh 108 (glh 103 h00 h_tk) h_bo)) X.1 X.2.1 dX11_init_34 pF_X11_26 rfl rfl rfl (Nat.le_of_ble_eq_true rfl) rfl ?_
  refine w_aload_n (pc := 37) 0 X.1.1 dX11_init_37 rfl ?_
  refine r_new (pc := 38) [.null, .null, .null, .null, .null, .null, .int 0, .int 0, .int 0, .int 0, .int 0, .int 0] X.1 dX11_init_38 nw_X11_23 nf_X0 (by rw [X.2.2.1]; exact Nat.le_of_ble_eq_true rfl) (by rw [X.2.2.1]; exact Nat.le_of_ble_eq_true rfl) (fun dr => ?_)
  refine w_dup (pc := 41) X.1.1 dX11_init_41 rfl ?_
  refine r_callG (pc := 42) (n' := 2) (mc' := 16) (ms' := 510) (As := []) (rest := [.ref dr, .ref a]) (Pc := fun sz => PI2 K V f qs D cy [.ref dr] dr 0 sz [.null, .null, .null, .null, .null, .null, .int 0, .int 0, .int 0, .int 0, .int 0, .int 0]) ((a, .inr (11, [.ref tp, .ref tk, .ref bo, .null, .null, .null, .null, .null, .null, .null, .null, .int 0, .int 0])) :: WD ((g_tpC ++ g_tkC) ++ bkC_108) (glq 108 (glq 103 q_tp q_tk) q_bo) cy (glh 108 (glh 103 h00 h_tk) h_bo)) X.1 (by rw [X.2.2.1]; exact ⟨Nat.le_of_ble_eq_true rfl, Nat.le_of_ble_eq_true rfl, Nat.le_of_ble_eq_true rfl, Nat.le_of_ble_eq_true rfl⟩) dX11_init_42 mlc_X11_25 ck_X0_init imc_X0 rfl rfl (Nat.le_of_ble_eq_true rfl) rfl rfl (fun H locs hP hS => r_pre2 X.1 X.2.2.2.1 S hP hS) (fun sz => tX0_init_125 l K V f qs D cy dr sz) ?_
  rintro _ ⟨q_dr, h_dr, e_dr, rfl⟩
  refine w_eq (WD_gl (B := 125) (R := []) rfl rfl (fun k hk => absurd hk List.not_mem_nil)) ?_
  refine r_putF (pc := 45) (p := 0) ((a, .inr (11, [.ref tp, .ref tk, .ref bo, .ref dr, .null, .null, .null, .null, .null, .null, .null, .int 0, .int 0])) :: WD (((g_tpC ++ g_tkC) ++ bkC_108) ++ bkC_125) (glq 125 (glq 108 (glq 103 q_tp q_tk) q_bo) q_dr) cy (glh 125 (glh 108 (glh 103 h00 h_tk) h_bo) h_dr)) X.1 X.2.1 dX11_init_45 pF_X11_30 rfl rfl rfl (Nat.le_of_ble_eq_true rfl) rfl ?_
  refine w_aload_n (pc := 48) 0 X.1.1 dX11_init_48 rfl ?_
  refine r_new (pc := 49) [.null, .null, .null, .null, .null, .null, .int 0, .int 0, .int 0, .int 0] X.1 dX11_init_49 nw_X11_33 nf_X5 (by rw [X.2.2.1]; exact Nat.le_of_ble_eq_true rfl) (by rw [X.2.2.1]; exact Nat.le_of_ble_eq_true rfl) (fun pa => ?_)
  refine w_dup (pc := 52) X.1.1 dX11_init_52 rfl ?_
  refine w_aload_n (pc := 53) 0 X.1.1 dX11_init_53 rfl ?_
  refine r_get (pc := 54) (p := 0) X.1 dX11_init_54 fl_X11_19 rfl rfl ?_
  refine w_aload_n (pc := 57) 0 X.1.1 dX11_init_57 rfl ?_
  refine r_get (pc := 58) (p := 0) X.1 dX11_init_58 fl_X11_30 rfl rfl ?_
  refine r_callI (pc := 61) (n' := 1) (mc' := 4) (ms' := 88) (As := [.ref tk, .ref dr]) (rest := [.ref pa, .ref a]) ((a, .inr (11, [.ref tp, .ref tk, .ref bo, .ref dr, .null, .null, .null, .null, .null, .null, .null, .int 0, .int 0])) :: WD (((g_tpC ++ g_tkC) ++ bkC_108) ++ bkC_125) (glq 125 (glq 108 (glq 103 q_tp q_tk) q_bo) q_dr) cy (glh 125 (glh 108 (glh 103 h00 h_tk) h_bo) h_dr)) X dX11_init_61 mlc_X11_35 ck_X5_init imc_X5 rfl (Nat.le_of_ble_eq_true rfl) ⟨Nat.le_of_ble_eq_true rfl, Nat.le_of_ble_eq_true rfl⟩ rfl (Nat.le_of_ble_eq_true rfl) rfl rfl (fun sz => tX5_init l qs D cy pa sz tk dr) ?_
  intro w1 hw1
  obtain ⟨q_pa, e_pa, i_pa1, i_pa2, rfl⟩ := cv_pars hw1
  refine w_eq (WD_gl (B := 142) (R := [103, 125]) rfl rfl (List.forall_mem_cons.mpr ⟨(show _ = _ from e_tk).trans i_pa1.symm, List.forall_mem_cons.mpr ⟨(show _ = _ from e_dr).trans i_pa2.symm, fun _ h => absurd h List.not_mem_nil⟩⟩)) ?_
  refine r_putF (pc := 64) (p := 0) ((a, .inr (11, [.ref tp, .ref tk, .ref bo, .ref dr, .ref pa, .null, .null, .null, .null, .null, .null, .int 0, .int 0])) :: WD ((((g_tpC ++ g_tkC) ++ bkC_108) ++ bkC_125) ++ g_paC) (glq 142 (glq 125 (glq 108 (glq 103 q_tp q_tk) q_bo) q_dr) q_pa) cy (glh 142 (glh 125 (glh 108 (glh 103 h00 h_tk) h_bo) h_dr) h00)) X.1 X.2.1 dX11_init_64 pF_X11_38 rfl rfl rfl (Nat.le_of_ble_eq_true rfl) rfl ?_
  refine w_aload_n (pc := 67) 0 X.1.1 dX11_init_67 rfl ?_
  refine r_new (pc := 68) [.null, .null, .null, .null, .null, .int 0, .int 0, .int 0] X.1 dX11_init_68 nw_X11_42 nf_X6 (by rw [X.2.2.1]; exact Nat.le_of_ble_eq_true rfl) (by rw [X.2.2.1]; exact Nat.le_of_ble_eq_true rfl) (fun re => ?_)
  refine w_dup (pc := 71) X.1.1 dX11_init_71 rfl ?_
  refine w_aload_n (pc := 72) 0 X.1.1 dX11_init_72 rfl ?_
  refine r_get (pc := 73) (p := 0) X.1 dX11_init_73 fl_X11_26 rfl rfl ?_
  refine r_callI (pc := 76) (n' := 1) (mc' := 4) (ms' := 908) (As := [.ref bo]) (rest := [.ref re, .ref a]) ((a, .inr (11, [.ref tp, .ref tk, .ref bo, .ref dr, .ref pa, .null, .null, .null, .null, .null, .null, .int 0, .int 0])) :: WD ((((g_tpC ++ g_tkC) ++ bkC_108) ++ bkC_125) ++ g_paC) (glq 142 (glq 125 (glq 108 (glq 103 q_tp q_tk) q_bo) q_dr) q_pa) cy (glh 142 (glh 125 (glh 108 (glh 103 h00 h_tk) h_bo) h_dr) h00)) X dX11_init_76 mlc_X11_44 ck_X6_init imc_X6 rfl (Nat.le_of_ble_eq_true rfl) ⟨Nat.le_of_ble_eq_true rfl, Nat.le_of_ble_eq_true rfl⟩ rfl (Nat.le_of_ble_eq_true rfl) rfl rfl (fun sz => tX6_init l qs D cy re sz bo) ?_
  intro w1 hw1
  obtain ⟨q_re, e_re, i_re1, rfl⟩ := cv_reck hw1
  refine w_eq (WD_gl (B := 147) (R := [108]) rfl rfl (List.forall_mem_cons.mpr ⟨(show _ = _ from e_bo).trans i_re1.symm, fun _ h => absurd h List.not_mem_nil⟩)) ?_
  refine r_putF (pc := 79) (p := 0) ((a, .inr (11, [.ref tp, .ref tk, .ref bo, .ref dr, .ref pa, .ref re, .null, .null, .null, .null, .null, .int 0, .int 0])) :: WD (((((g_tpC ++ g_tkC) ++ bkC_108) ++ bkC_125) ++ g_paC) ++ g_reC) (glq 147 (glq 142 (glq 125 (glq 108 (glq 103 q_tp q_tk) q_bo) q_dr) q_pa) q_re) cy (glh 147 (glh 142 (glh 125 (glh 108 (glh 103 h00 h_tk) h_bo) h_dr) h00) h00)) X.1 X.2.1 dX11_init_79 pF_X11_47 rfl rfl rfl (Nat.le_of_ble_eq_true rfl) rfl ?_
  refine w_aload_n (pc := 82) 0 X.1.1 dX11_init_82 rfl ?_
  refine r_new (pc := 83) [.null, .null, .null, .null, .null, .null, .int 0] X.1 dX11_init_83 nw_X11_51 nf_X3 (by rw [X.2.2.1]; exact Nat.le_of_ble_eq_true rfl) (by rw [X.2.2.1]; exact Nat.le_of_ble_eq_true rfl) (fun fa => ?_)
  refine w_dup (pc := 86) X.1.1 dX11_init_86 rfl ?_
  refine r_callIN (pc := 87) (n' := 1) (mc' := 6) (ms' := 361) (As := []) (rest := [.ref fa, .ref a]) ((a, .inr (11, [.ref tp, .ref tk, .ref bo, .ref dr, .ref pa, .ref re, .null, .null, .null, .null, .null, .int 0, .int 0])) :: WD (((((g_tpC ++ g_tkC) ++ bkC_108) ++ bkC_125) ++ g_paC) ++ g_reC) (glq 147 (glq 142 (glq 125 (glq 108 (glq 103 q_tp q_tk) q_bo) q_dr) q_pa) q_re) cy (glh 147 (glh 142 (glh 125 (glh 108 (glh 103 h00 h_tk) h_bo) h_dr) h00) h00)) X dX11_init_87 mlc_X11_53 ck_X3_init imc_X3 rfl (Nat.le_of_ble_eq_true rfl) ⟨Nat.le_of_ble_eq_true rfl, Nat.le_of_ble_eq_true rfl⟩ rfl (Nat.le_of_ble_eq_true rfl) rfl rfl (fun sz => tX3_init l qs D cy fa sz) ?_
  intro w1 hw1
  obtain ⟨q_fa, e_fa, rfl⟩ := cv_fact hw1
  refine w_eq (WD_gl (B := 152) (R := []) rfl rfl (fun k hk => absurd hk List.not_mem_nil)) ?_
  refine r_putF (pc := 90) (p := 0) ((a, .inr (11, [.ref tp, .ref tk, .ref bo, .ref dr, .ref pa, .ref re, .ref fa, .null, .null, .null, .null, .int 0, .int 0])) :: WD ((((((g_tpC ++ g_tkC) ++ bkC_108) ++ bkC_125) ++ g_paC) ++ g_reC) ++ g_faC) (glq 152 (glq 147 (glq 142 (glq 125 (glq 108 (glq 103 q_tp q_tk) q_bo) q_dr) q_pa) q_re) q_fa) cy (glh 152 (glh 147 (glh 142 (glh 125 (glh 108 (glh 103 h00 h_tk) h_bo) h_dr) h00) h00) h00)) X.1 X.2.1 dX11_init_90 pF_X11_54 rfl rfl rfl (Nat.le_of_ble_eq_true rfl) rfl ?_
  refine w_aload_n (pc := 93) 0 X.1.1 dX11_init_93 rfl ?_
  refine w_iconst (pc := 94) 3 X.1.1 dX11_init_94 rfl ?_
  refine r_anew2 (pc := 95) (N := 3) 4 X.1 dX11_init_95 (fun _ => rfl) clk_X11_51 S.2.2.2.2.2 (by decide) (by decide) (by decide) (by rw [X.2.2.1]; exact Nat.le_of_ble_eq_true rfl) (by rw [X.2.2.1]; exact Nat.le_of_ble_eq_true rfl) (fun sa => ?_)
  refine r_putF (pc := 98) (p := 0) ((a, .inr (11, [.ref tp, .ref tk, .ref bo, .ref dr, .ref pa, .ref re, .ref fa, .ref sa, .null, .null, .null, .int 0, .int 0])) :: ((WD ((((((g_tpC ++ g_tkC) ++ bkC_108) ++ bkC_125) ++ g_paC) ++ g_reC) ++ g_faC) (glq 152 (glq 147 (glq 142 (glq 125 (glq 108 (glq 103 q_tp q_tk) q_bo) q_dr) q_pa) q_re) q_fa) cy (glh 152 (glh 147 (glh 142 (glh 125 (glh 108 (glh 103 h00 h_tk) h_bo) h_dr) h00) h00) h00)) ++ [(sa, .inl (cy 4, 3, .inr (.inr (.inr (.inr (fun _ => none))))))])) X.1 X.2.1 dX11_init_98 pF_X11_58 rfl rfl rfl (Nat.le_of_ble_eq_true rfl) rfl ?_
  refine w_iconst (pc := 101) 0 X.1.1 dX11_init_101 rfl ?_
  refine w_istore_n (pc := 102) [(1, .int 0), (0, .ref a)] X.1.1 dX11_init_102 (by decide) rfl ?_
  refine w_iload_n (pc := 103) 0 X.1.1 dX11_init_103 rfl ?_
  refine w_iconst (pc := 104) 3 X.1.1 dX11_init_104 rfl ?_
  refine w_icmp_ge (pc := 105) 127 X.1.1 dX11_init_105 rfl (fun c => absurd c (by decide)) (fun _ => ?_)
  refine w_aload_n (pc := 108) 1 X.1.1 dX11_init_108 rfl ?_
  refine r_get (pc := 109) (p := 0) X.1 dX11_init_109 fl_X11_58 rfl rfl ?_
  refine w_iload_n (pc := 112) 0 X.1.1 dX11_init_112 rfl ?_
  refine r_new (pc := 113) [.null, .null, .null, .null, .null, .null, .int 0] X.1 dX11_init_113 nw_X11_51 nf_X3 (by rw [X.2.2.1]; exact Nat.le_of_ble_eq_true rfl) (by rw [X.2.2.1]; exact Nat.le_of_ble_eq_true rfl) (fun x0 => ?_)
  refine w_dup (pc := 116) X.1.1 dX11_init_116 rfl ?_
  refine r_callIN (pc := 117) (n' := 1) (mc' := 6) (ms' := 361) (As := []) (rest := [.ref x0, .int 0, .ref sa]) ((a, .inr (11, [.ref tp, .ref tk, .ref bo, .ref dr, .ref pa, .ref re, .ref fa, .ref sa, .null, .null, .null, .int 0, .int 0])) :: ((WD ((((((g_tpC ++ g_tkC) ++ bkC_108) ++ bkC_125) ++ g_paC) ++ g_reC) ++ g_faC) (glq 152 (glq 147 (glq 142 (glq 125 (glq 108 (glq 103 q_tp q_tk) q_bo) q_dr) q_pa) q_re) q_fa) cy (glh 152 (glh 147 (glh 142 (glh 125 (glh 108 (glh 103 h00 h_tk) h_bo) h_dr) h00) h00) h00)) ++ [(sa, .inl (cy 4, 3, .inr (.inr (.inr (.inr (fun _ => none))))))])) X dX11_init_117 mlc_X11_53 ck_X3_init imc_X3 rfl (Nat.le_of_ble_eq_true rfl) ⟨Nat.le_of_ble_eq_true rfl, Nat.le_of_ble_eq_true rfl⟩ rfl (Nat.le_of_ble_eq_true rfl) rfl rfl (fun sz => tX3_init l qs D cy x0 sz) ?_
  rintro _ ⟨x0b, x0c, x0d, x0e, x0f, x0g, rfl⟩
  refine w_eq (cap_eq (R := [(sa, .inl (cy 4, 3, .inr (.inr (.inr (.inr (fun _ => none)))))), (x0, .inr (3, [.ref x0b, .ref x0c, .ref x0d, .ref x0e, .ref x0f, .ref x0g, .int 0])), (x0b, .inl (cy 0, 60, .inl (fun _ => 0))), (x0c, .inl (cy 0, 60, .inl (fun _ => 0))), (x0d, .inl (cy 0, 60, .inl (fun _ => 0))), (x0e, .inl (cy 0, 60, .inl (fun _ => 0))), (x0f, .inl (cy 0, 60, .inl (fun _ => 0))), (x0g, .inl (cy 0, 61, .inl (fun _ => 0)))]) rfl) ?_
  refine r_aast (pc := 120) (p0 := _ + 0 + 1) (p1 := _ + 1 + 1) (t := 4) (ci := 3) (r := (RX3, TX3, 7)) (N := 3) ((a, .inr (11, [.ref tp, .ref tk, .ref bo, .ref dr, .ref pa, .ref re, .ref fa, .ref sa, .null, .null, .null, .int 0, .int 0])) :: ((WD ((((((g_tpC ++ g_tkC) ++ bkC_108) ++ bkC_125) ++ g_paC) ++ g_reC) ++ g_faC) (glq 152 (glq 147 (glq 142 (glq 125 (glq 108 (glq 103 q_tp q_tk) q_bo) q_dr) q_pa) q_re) q_fa) cy (glh 152 (glh 147 (glh 142 (glh 125 (glh 108 (glh 103 h00 h_tk) h_bo) h_dr) h00) h00) h00)) ++ [(sa, .inl (cy 4, 3, .inr (.inr (.inr (.inr (va_up (fun _ => none) 0 (some x0))))))), (x0, .inr (3, [.ref x0b, .ref x0c, .ref x0d, .ref x0e, .ref x0f, .ref x0g, .int 0])), (x0b, .inl (cy 0, 60, .inl (fun _ => 0))), (x0c, .inl (cy 0, 60, .inl (fun _ => 0))), (x0d, .inl (cy 0, 60, .inl (fun _ => 0))), (x0e, .inl (cy 0, 60, .inl (fun _ => 0))), (x0f, .inl (cy 0, 60, .inl (fun _ => 0))), (x0g, .inl (cy 0, 61, .inl (fun _ => 0)))])) X.1 dX11_init_120 (cap_get 0) rfl (cap_get 1) rfl (by decide) (cap_set 0) ?_
  refine w_iinc (pc := 121) 0 1 [(1, .int 1), (0, .ref a)] X.1.1 dX11_init_121 rfl rfl (by decide) rfl ?_
  refine w_goto (pc := 124) 103 X.1.1 dX11_init_124 rfl ?_
  refine w_iload_n (pc := 103) 0 X.1.1 dX11_init_103 rfl ?_
  refine w_iconst (pc := 104) 3 X.1.1 dX11_init_104 rfl ?_
  refine w_icmp_ge (pc := 105) 127 X.1.1 dX11_init_105 rfl (fun c => absurd c (by decide)) (fun _ => ?_)
  refine w_aload_n (pc := 108) 1 X.1.1 dX11_init_108 rfl ?_
  refine r_get (pc := 109) (p := 0) X.1 dX11_init_109 fl_X11_58 rfl rfl ?_
  refine w_iload_n (pc := 112) 0 X.1.1 dX11_init_112 rfl ?_
  refine r_new (pc := 113) [.null, .null, .null, .null, .null, .null, .int 0] X.1 dX11_init_113 nw_X11_51 nf_X3 (by rw [X.2.2.1]; exact Nat.le_of_ble_eq_true rfl) (by rw [X.2.2.1]; exact Nat.le_of_ble_eq_true rfl) (fun x1 => ?_)
  refine w_dup (pc := 116) X.1.1 dX11_init_116 rfl ?_
  refine r_callIN (pc := 117) (n' := 1) (mc' := 6) (ms' := 361) (As := []) (rest := [.ref x1, .int 1, .ref sa]) ((a, .inr (11, [.ref tp, .ref tk, .ref bo, .ref dr, .ref pa, .ref re, .ref fa, .ref sa, .null, .null, .null, .int 0, .int 0])) :: ((WD ((((((g_tpC ++ g_tkC) ++ bkC_108) ++ bkC_125) ++ g_paC) ++ g_reC) ++ g_faC) (glq 152 (glq 147 (glq 142 (glq 125 (glq 108 (glq 103 q_tp q_tk) q_bo) q_dr) q_pa) q_re) q_fa) cy (glh 152 (glh 147 (glh 142 (glh 125 (glh 108 (glh 103 h00 h_tk) h_bo) h_dr) h00) h00) h00)) ++ [(sa, .inl (cy 4, 3, .inr (.inr (.inr (.inr (va_up (fun _ => none) 0 (some x0))))))), (x0, .inr (3, [.ref x0b, .ref x0c, .ref x0d, .ref x0e, .ref x0f, .ref x0g, .int 0])), (x0b, .inl (cy 0, 60, .inl (fun _ => 0))), (x0c, .inl (cy 0, 60, .inl (fun _ => 0))), (x0d, .inl (cy 0, 60, .inl (fun _ => 0))), (x0e, .inl (cy 0, 60, .inl (fun _ => 0))), (x0f, .inl (cy 0, 60, .inl (fun _ => 0))), (x0g, .inl (cy 0, 61, .inl (fun _ => 0)))])) X dX11_init_117 mlc_X11_53 ck_X3_init imc_X3 rfl (Nat.le_of_ble_eq_true rfl) ⟨Nat.le_of_ble_eq_true rfl, Nat.le_of_ble_eq_true rfl⟩ rfl (Nat.le_of_ble_eq_true rfl) rfl rfl (fun sz => tX3_init l qs D cy x1 sz) ?_
  rintro _ ⟨x1b, x1c, x1d, x1e, x1f, x1g, rfl⟩
  refine w_eq (cap_eq (R := [(sa, .inl (cy 4, 3, .inr (.inr (.inr (.inr (va_up (fun _ => none) 0 (some x0))))))), (x0, .inr (3, [.ref x0b, .ref x0c, .ref x0d, .ref x0e, .ref x0f, .ref x0g, .int 0])), (x0b, .inl (cy 0, 60, .inl (fun _ => 0))), (x0c, .inl (cy 0, 60, .inl (fun _ => 0))), (x0d, .inl (cy 0, 60, .inl (fun _ => 0))), (x0e, .inl (cy 0, 60, .inl (fun _ => 0))), (x0f, .inl (cy 0, 60, .inl (fun _ => 0))), (x0g, .inl (cy 0, 61, .inl (fun _ => 0))), (x1, .inr (3, [.ref x1b, .ref x1c, .ref x1d, .ref x1e, .ref x1f, .ref x1g, .int 0])), (x1b, .inl (cy 0, 60, .inl (fun _ => 0))), (x1c, .inl (cy 0, 60, .inl (fun _ => 0))), (x1d, .inl (cy 0, 60, .inl (fun _ => 0))), (x1e, .inl (cy 0, 60, .inl (fun _ => 0))), (x1f, .inl (cy 0, 60, .inl (fun _ => 0))), (x1g, .inl (cy 0, 61, .inl (fun _ => 0)))]) rfl) ?_
  refine r_aast (pc := 120) (p0 := _ + 0 + 1) (p1 := _ + 8 + 1) (t := 4) (ci := 3) (r := (RX3, TX3, 7)) (N := 3) ((a, .inr (11, [.ref tp, .ref tk, .ref bo, .ref dr, .ref pa, .ref re, .ref fa, .ref sa, .null, .null, .null, .int 0, .int 0])) :: ((WD ((((((g_tpC ++ g_tkC) ++ bkC_108) ++ bkC_125) ++ g_paC) ++ g_reC) ++ g_faC) (glq 152 (glq 147 (glq 142 (glq 125 (glq 108 (glq 103 q_tp q_tk) q_bo) q_dr) q_pa) q_re) q_fa) cy (glh 152 (glh 147 (glh 142 (glh 125 (glh 108 (glh 103 h00 h_tk) h_bo) h_dr) h00) h00) h00)) ++ [(sa, .inl (cy 4, 3, .inr (.inr (.inr (.inr (va_up (va_up (fun _ => none) 0 (some x0)) 1 (some x1))))))), (x0, .inr (3, [.ref x0b, .ref x0c, .ref x0d, .ref x0e, .ref x0f, .ref x0g, .int 0])), (x0b, .inl (cy 0, 60, .inl (fun _ => 0))), (x0c, .inl (cy 0, 60, .inl (fun _ => 0))), (x0d, .inl (cy 0, 60, .inl (fun _ => 0))), (x0e, .inl (cy 0, 60, .inl (fun _ => 0))), (x0f, .inl (cy 0, 60, .inl (fun _ => 0))), (x0g, .inl (cy 0, 61, .inl (fun _ => 0))), (x1, .inr (3, [.ref x1b, .ref x1c, .ref x1d, .ref x1e, .ref x1f, .ref x1g, .int 0])), (x1b, .inl (cy 0, 60, .inl (fun _ => 0))), (x1c, .inl (cy 0, 60, .inl (fun _ => 0))), (x1d, .inl (cy 0, 60, .inl (fun _ => 0))), (x1e, .inl (cy 0, 60, .inl (fun _ => 0))), (x1f, .inl (cy 0, 60, .inl (fun _ => 0))), (x1g, .inl (cy 0, 61, .inl (fun _ => 0)))])) X.1 dX11_init_120 (cap_get 0) rfl (cap_get 8) rfl (by decide) (cap_set 0) ?_
  refine w_iinc (pc := 121) 0 2 [(1, .int 2), (0, .ref a)] X.1.1 dX11_init_121 rfl rfl (by decide) rfl ?_
  refine w_goto (pc := 124) 103 X.1.1 dX11_init_124 rfl ?_
  refine w_iload_n (pc := 103) 0 X.1.1 dX11_init_103 rfl ?_
  refine w_iconst (pc := 104) 3 X.1.1 dX11_init_104 rfl ?_
  refine w_icmp_ge (pc := 105) 127 X.1.1 dX11_init_105 rfl (fun c => absurd c (by decide)) (fun _ => ?_)
  refine w_aload_n (pc := 108) 1 X.1.1 dX11_init_108 rfl ?_
  refine r_get (pc := 109) (p := 0) X.1 dX11_init_109 fl_X11_58 rfl rfl ?_
  refine w_iload_n (pc := 112) 0 X.1.1 dX11_init_112 rfl ?_
  refine r_new (pc := 113) [.null, .null, .null, .null, .null, .null, .int 0] X.1 dX11_init_113 nw_X11_51 nf_X3 (by rw [X.2.2.1]; exact Nat.le_of_ble_eq_true rfl) (by rw [X.2.2.1]; exact Nat.le_of_ble_eq_true rfl) (fun x2 => ?_)
  refine w_dup (pc := 116) X.1.1 dX11_init_116 rfl ?_
  refine r_callIN (pc := 117) (n' := 1) (mc' := 6) (ms' := 361) (As := []) (rest := [.ref x2, .int 2, .ref sa]) ((a, .inr (11, [.ref tp, .ref tk, .ref bo, .ref dr, .ref pa, .ref re, .ref fa, .ref sa, .null, .null, .null, .int 0, .int 0])) :: ((WD ((((((g_tpC ++ g_tkC) ++ bkC_108) ++ bkC_125) ++ g_paC) ++ g_reC) ++ g_faC) (glq 152 (glq 147 (glq 142 (glq 125 (glq 108 (glq 103 q_tp q_tk) q_bo) q_dr) q_pa) q_re) q_fa) cy (glh 152 (glh 147 (glh 142 (glh 125 (glh 108 (glh 103 h00 h_tk) h_bo) h_dr) h00) h00) h00)) ++ [(sa, .inl (cy 4, 3, .inr (.inr (.inr (.inr (va_up (va_up (fun _ => none) 0 (some x0)) 1 (some x1))))))), (x0, .inr (3, [.ref x0b, .ref x0c, .ref x0d, .ref x0e, .ref x0f, .ref x0g, .int 0])), (x0b, .inl (cy 0, 60, .inl (fun _ => 0))), (x0c, .inl (cy 0, 60, .inl (fun _ => 0))), (x0d, .inl (cy 0, 60, .inl (fun _ => 0))), (x0e, .inl (cy 0, 60, .inl (fun _ => 0))), (x0f, .inl (cy 0, 60, .inl (fun _ => 0))), (x0g, .inl (cy 0, 61, .inl (fun _ => 0))), (x1, .inr (3, [.ref x1b, .ref x1c, .ref x1d, .ref x1e, .ref x1f, .ref x1g, .int 0])), (x1b, .inl (cy 0, 60, .inl (fun _ => 0))), (x1c, .inl (cy 0, 60, .inl (fun _ => 0))), (x1d, .inl (cy 0, 60, .inl (fun _ => 0))), (x1e, .inl (cy 0, 60, .inl (fun _ => 0))), (x1f, .inl (cy 0, 60, .inl (fun _ => 0))), (x1g, .inl (cy 0, 61, .inl (fun _ => 0)))])) X dX11_init_117 mlc_X11_53 ck_X3_init imc_X3 rfl (Nat.le_of_ble_eq_true rfl) ⟨Nat.le_of_ble_eq_true rfl, Nat.le_of_ble_eq_true rfl⟩ rfl (Nat.le_of_ble_eq_true rfl) rfl rfl (fun sz => tX3_init l qs D cy x2 sz) ?_
  rintro _ ⟨x2b, x2c, x2d, x2e, x2f, x2g, rfl⟩
  refine w_eq (cap_eq (R := [(sa, .inl (cy 4, 3, .inr (.inr (.inr (.inr (va_up (va_up (fun _ => none) 0 (some x0)) 1 (some x1))))))), (x0, .inr (3, [.ref x0b, .ref x0c, .ref x0d, .ref x0e, .ref x0f, .ref x0g, .int 0])), (x0b, .inl (cy 0, 60, .inl (fun _ => 0))), (x0c, .inl (cy 0, 60, .inl (fun _ => 0))), (x0d, .inl (cy 0, 60, .inl (fun _ => 0))), (x0e, .inl (cy 0, 60, .inl (fun _ => 0))), (x0f, .inl (cy 0, 60, .inl (fun _ => 0))), (x0g, .inl (cy 0, 61, .inl (fun _ => 0))), (x1, .inr (3, [.ref x1b, .ref x1c, .ref x1d, .ref x1e, .ref x1f, .ref x1g, .int 0])), (x1b, .inl (cy 0, 60, .inl (fun _ => 0))), (x1c, .inl (cy 0, 60, .inl (fun _ => 0))), (x1d, .inl (cy 0, 60, .inl (fun _ => 0))), (x1e, .inl (cy 0, 60, .inl (fun _ => 0))), (x1f, .inl (cy 0, 60, .inl (fun _ => 0))), (x1g, .inl (cy 0, 61, .inl (fun _ => 0))), (x2, .inr (3, [.ref x2b, .ref x2c, .ref x2d, .ref x2e, .ref x2f, .ref x2g, .int 0])), (x2b, .inl (cy 0, 60, .inl (fun _ => 0))), (x2c, .inl (cy 0, 60, .inl (fun _ => 0))), (x2d, .inl (cy 0, 60, .inl (fun _ => 0))), (x2e, .inl (cy 0, 60, .inl (fun _ => 0))), (x2f, .inl (cy 0, 60, .inl (fun _ => 0))), (x2g, .inl (cy 0, 61, .inl (fun _ => 0)))]) rfl) ?_
  refine r_aast (pc := 120) (p0 := _ + 0 + 1) (p1 := _ + 15 + 1) (t := 4) (ci := 3) (r := (RX3, TX3, 7)) (N := 3) ((a, .inr (11, [.ref tp, .ref tk, .ref bo, .ref dr, .ref pa, .ref re, .ref fa, .ref sa, .null, .null, .null, .int 0, .int 0])) :: ((WD ((((((g_tpC ++ g_tkC) ++ bkC_108) ++ bkC_125) ++ g_paC) ++ g_reC) ++ g_faC) (glq 152 (glq 147 (glq 142 (glq 125 (glq 108 (glq 103 q_tp q_tk) q_bo) q_dr) q_pa) q_re) q_fa) cy (glh 152 (glh 147 (glh 142 (glh 125 (glh 108 (glh 103 h00 h_tk) h_bo) h_dr) h00) h00) h00)) ++ [(sa, .inl (cy 4, 3, .inr (.inr (.inr (.inr (va_up (va_up (va_up (fun _ => none) 0 (some x0)) 1 (some x1)) 2 (some x2))))))), (x0, .inr (3, [.ref x0b, .ref x0c, .ref x0d, .ref x0e, .ref x0f, .ref x0g, .int 0])), (x0b, .inl (cy 0, 60, .inl (fun _ => 0))), (x0c, .inl (cy 0, 60, .inl (fun _ => 0))), (x0d, .inl (cy 0, 60, .inl (fun _ => 0))), (x0e, .inl (cy 0, 60, .inl (fun _ => 0))), (x0f, .inl (cy 0, 60, .inl (fun _ => 0))), (x0g, .inl (cy 0, 61, .inl (fun _ => 0))), (x1, .inr (3, [.ref x1b, .ref x1c, .ref x1d, .ref x1e, .ref x1f, .ref x1g, .int 0])), (x1b, .inl (cy 0, 60, .inl (fun _ => 0))), (x1c, .inl (cy 0, 60, .inl (fun _ => 0))), (x1d, .inl (cy 0, 60, .inl (fun _ => 0))), (x1e, .inl (cy 0, 60, .inl (fun _ => 0))), (x1f, .inl (cy 0, 60, .inl (fun _ => 0))), (x1g, .inl (cy 0, 61, .inl (fun _ => 0))), (x2, .inr (3, [.ref x2b, .ref x2c, .ref x2d, .ref x2e, .ref x2f, .ref x2g, .int 0])), (x2b, .inl (cy 0, 60, .inl (fun _ => 0))), (x2c, .inl (cy 0, 60, .inl (fun _ => 0))), (x2d, .inl (cy 0, 60, .inl (fun _ => 0))), (x2e, .inl (cy 0, 60, .inl (fun _ => 0))), (x2f, .inl (cy 0, 60, .inl (fun _ => 0))), (x2g, .inl (cy 0, 61, .inl (fun _ => 0)))])) X.1 dX11_init_120 (cap_get 0) rfl (cap_get 15) rfl (by decide) (cap_set 0) ?_
  refine w_iinc (pc := 121) 0 3 [(1, .int 3), (0, .ref a)] X.1.1 dX11_init_121 rfl rfl (by decide) rfl ?_
  refine w_goto (pc := 124) 103 X.1.1 dX11_init_124 rfl ?_
  refine w_iload_n (pc := 103) 0 X.1.1 dX11_init_103 rfl ?_
  refine w_iconst (pc := 104) 3 X.1.1 dX11_init_104 rfl ?_
  refine w_icmp_ge (pc := 105) 127 X.1.1 dX11_init_105 rfl (fun _ => ?_) (fun c => absurd (by decide) c)
  refine w_eq (congrArg (fun z => (a, .inr (11, [.ref tp, .ref tk, .ref bo, .ref dr, .ref pa, .ref re, .ref fa, .ref sa, .null, .null, .null, .int 0, .int 0])) :: ((WD ((((((g_tpC ++ g_tkC) ++ bkC_108) ++ bkC_125) ++ g_paC) ++ g_reC) ++ g_faC) (glq 152 (glq 147 (glq 142 (glq 125 (glq 108 (glq 103 q_tp q_tk) q_bo) q_dr) q_pa) q_re) q_fa) cy (glh 152 (glh 147 (glh 142 (glh 125 (glh 108 (glh 103 h00 h_tk) h_bo) h_dr) h00) h00) h00)) ++ z)) cv_slot) ?_
  refine w_eq (WD_gl (B := 159) (R := []) rfl rfl (fun k hk => absurd hk List.not_mem_nil)) ?_
  refine w_lv [(0, .ref a)] [1] rfl ?_
  refine w_aload_n (pc := 127) 0 X.1.1 dX11_init_127 rfl ?_
  refine r_new (pc := 128) [.null, .null, .null, .null, .null, .null, .int 0, .int 0, .int 0] X.1 dX11_init_128 nw_X11_62 nf_X2 (by rw [X.2.2.1]; exact Nat.le_of_ble_eq_true rfl) (by rw [X.2.2.1]; exact Nat.le_of_ble_eq_true rfl) (fun co => ?_)
  refine w_dup (pc := 131) X.1.1 dX11_init_131 rfl ?_
  refine w_aload_n (pc := 132) 0 X.1.1 dX11_init_132 rfl ?_
  refine r_get (pc := 133) (p := 0) X.1 dX11_init_133 fl_X11_26 rfl rfl ?_
  refine w_aload_n (pc := 136) 0 X.1.1 dX11_init_136 rfl ?_
  refine r_get (pc := 137) (p := 0) X.1 dX11_init_137 fl_X11_54 rfl rfl ?_
  refine w_aload_n (pc := 140) 0 X.1.1 dX11_init_140 rfl ?_
  refine r_get (pc := 141) (p := 0) X.1 dX11_init_141 fl_X11_47 rfl rfl ?_
  refine r_callI (pc := 144) (n' := 2) (mc' := 24) (ms' := 405) (As := [.ref bo, .ref fa, .ref re]) (rest := [.ref co, .ref a]) ((a, .inr (11, [.ref tp, .ref tk, .ref bo, .ref dr, .ref pa, .ref re, .ref fa, .ref sa, .null, .null, .null, .int 0, .int 0])) :: WD (((((((g_tpC ++ g_tkC) ++ bkC_108) ++ bkC_125) ++ g_paC) ++ g_reC) ++ g_faC) ++ g_slC) (glq 159 (glq 152 (glq 147 (glq 142 (glq 125 (glq 108 (glq 103 q_tp q_tk) q_bo) q_dr) q_pa) q_re) q_fa) (qSl sa x0 x0b x0c x0d x0e x0f x0g x1 x1b x1c x1d x1e x1f x1g x2 x2b x2c x2d x2e x2f x2g)) cy (glh 159 (glh 152 (glh 147 (glh 142 (glh 125 (glh 108 (glh 103 h00 h_tk) h_bo) h_dr) h00) h00) h00) h00)) X dX11_init_144 mlc_X11_64 ck_X2_init imc_X2 rfl (Nat.le_of_ble_eq_true rfl) ⟨Nat.le_of_ble_eq_true rfl, Nat.le_of_ble_eq_true rfl⟩ rfl (Nat.le_of_ble_eq_true rfl) rfl rfl (fun sz => tX2_init l qs D cy co sz bo fa re) ?_
  intro w1 hw1
  obtain ⟨q_co, e_co, i_co1, i_co2, i_co3, rfl⟩ := cv_cour hw1
  refine w_eq (WD_gl (B := 181) (R := [108, 152, 147]) rfl rfl (List.forall_mem_cons.mpr ⟨(show _ = _ from e_bo).trans i_co1.symm, List.forall_mem_cons.mpr ⟨(show _ = _ from e_fa).trans i_co2.symm, List.forall_mem_cons.mpr ⟨(show _ = _ from e_re).trans i_co3.symm, fun _ h => absurd h List.not_mem_nil⟩⟩⟩)) ?_
  refine r_putF (pc := 147) (p := 0) ((a, .inr (11, [.ref tp, .ref tk, .ref bo, .ref dr, .ref pa, .ref re, .ref fa, .ref sa, .ref co, .null, .null, .int 0, .int 0])) :: WD ((((((((g_tpC ++ g_tkC) ++ bkC_108) ++ bkC_125) ++ g_paC) ++ g_reC) ++ g_faC) ++ g_slC) ++ g_coC) (glq 181 (glq 159 (glq 152 (glq 147 (glq 142 (glq 125 (glq 108 (glq 103 q_tp q_tk) q_bo) q_dr) q_pa) q_re) q_fa) (qSl sa x0 x0b x0c x0d x0e x0f x0g x1 x1b x1c x1d x1e x1f x1g x2 x2b x2c x2d x2e x2f x2g)) q_co) cy (glh 181 (glh 159 (glh 152 (glh 147 (glh 142 (glh 125 (glh 108 (glh 103 h00 h_tk) h_bo) h_dr) h00) h00) h00) h00) h00)) X.1 X.2.1 dX11_init_147 pF_X11_67 rfl rfl rfl (Nat.le_of_ble_eq_true rfl) rfl ?_
  refine w_aload_n (pc := 150) 0 X.1.1 dX11_init_150 rfl ?_
  refine r_new (pc := 151) [.null, .null, .null, .null, .int 0, .int 0, .int 0, .int 0, .int 0] X.1 dX11_init_151 nw_X11_71 nf_X10 (by rw [X.2.2.1]; exact Nat.le_of_ble_eq_true rfl) (by rw [X.2.2.1]; exact Nat.le_of_ble_eq_true rfl) (fun wy => ?_)
  refine w_dup (pc := 154) X.1.1 dX11_init_154 rfl ?_
  refine w_aload_n (pc := 155) 0 X.1.1 dX11_init_155 rfl ?_
  refine r_get (pc := 156) (p := 0) X.1 dX11_init_156 fl_X11_26 rfl rfl ?_
  refine w_aload_n (pc := 159) 0 X.1.1 dX11_init_159 rfl ?_
  refine r_get (pc := 160) (p := 0) X.1 dX11_init_160 fl_X11_47 rfl rfl ?_
  refine r_callI (pc := 163) (n' := 1) (mc' := 2) (ms' := 208) (As := [.ref bo, .ref re]) (rest := [.ref wy, .ref a]) ((a, .inr (11, [.ref tp, .ref tk, .ref bo, .ref dr, .ref pa, .ref re, .ref fa, .ref sa, .ref co, .null, .null, .int 0, .int 0])) :: WD ((((((((g_tpC ++ g_tkC) ++ bkC_108) ++ bkC_125) ++ g_paC) ++ g_reC) ++ g_faC) ++ g_slC) ++ g_coC) (glq 181 (glq 159 (glq 152 (glq 147 (glq 142 (glq 125 (glq 108 (glq 103 q_tp q_tk) q_bo) q_dr) q_pa) q_re) q_fa) (qSl sa x0 x0b x0c x0d x0e x0f x0g x1 x1b x1c x1d x1e x1f x1g x2 x2b x2c x2d x2e x2f x2g)) q_co) cy (glh 181 (glh 159 (glh 152 (glh 147 (glh 142 (glh 125 (glh 108 (glh 103 h00 h_tk) h_bo) h_dr) h00) h00) h00) h00) h00)) X dX11_init_163 mlc_X11_73 ck_X10_init imc_X10 rfl (Nat.le_of_ble_eq_true rfl) ⟨Nat.le_of_ble_eq_true rfl, Nat.le_of_ble_eq_true rfl⟩ rfl (Nat.le_of_ble_eq_true rfl) rfl rfl (fun sz => tX10_init l qs D cy wy sz bo re) ?_
  rintro _ ⟨q_wy, h_wy, e_wy, i_wy1, i_wy2, f_wy, rfl⟩
  refine w_eq (WD_gl (B := 206) (R := [108, 147]) rfl rfl (List.forall_mem_cons.mpr ⟨(show _ = _ from e_bo).trans i_wy1.symm, List.forall_mem_cons.mpr ⟨(show _ = _ from e_re).trans i_wy2.symm, fun _ h => absurd h List.not_mem_nil⟩⟩)) ?_
  refine r_putF (pc := 166) (p := 0) ((a, .inr (11, [.ref tp, .ref tk, .ref bo, .ref dr, .ref pa, .ref re, .ref fa, .ref sa, .ref co, .ref wy, .null, .int 0, .int 0])) :: WD (((((((((g_tpC ++ g_tkC) ++ bkC_108) ++ bkC_125) ++ g_paC) ++ g_reC) ++ g_faC) ++ g_slC) ++ g_coC) ++ wyC) (glq 206 (glq 181 (glq 159 (glq 152 (glq 147 (glq 142 (glq 125 (glq 108 (glq 103 q_tp q_tk) q_bo) q_dr) q_pa) q_re) q_fa) (qSl sa x0 x0b x0c x0d x0e x0f x0g x1 x1b x1c x1d x1e x1f x1g x2 x2b x2c x2d x2e x2f x2g)) q_co) q_wy) cy (glh 206 (glh 181 (glh 159 (glh 152 (glh 147 (glh 142 (glh 125 (glh 108 (glh 103 h00 h_tk) h_bo) h_dr) h00) h00) h00) h00) h00) h_wy)) X.1 X.2.1 dX11_init_166 pF_X11_76 rfl rfl rfl (Nat.le_of_ble_eq_true rfl) rfl ?_
  refine w_aload_n (pc := 169) 0 X.1.1 dX11_init_169 rfl ?_
  refine r_new (pc := 170) [.null, .null] X.1 dX11_init_170 nw_X11_80 nf_X7 (by rw [X.2.2.1]; exact Nat.le_of_ble_eq_true rfl) (by rw [X.2.2.1]; exact Nat.le_of_ble_eq_true rfl) (fun ri => ?_)
  refine w_dup (pc := 173) X.1.1 dX11_init_173 rfl ?_
  refine w_aload_n (pc := 174) 0 X.1.1 dX11_init_174 rfl ?_
  refine r_get (pc := 175) (p := 0) X.1 dX11_init_175 fl_X11_26 rfl rfl ?_
  refine r_callI (pc := 178) (n' := 1) (mc' := 1) (ms' := 10) (As := [.ref bo]) (rest := [.ref ri, .ref a]) ((a, .inr (11, [.ref tp, .ref tk, .ref bo, .ref dr, .ref pa, .ref re, .ref fa, .ref sa, .ref co, .ref wy, .null, .int 0, .int 0])) :: WD (((((((((g_tpC ++ g_tkC) ++ bkC_108) ++ bkC_125) ++ g_paC) ++ g_reC) ++ g_faC) ++ g_slC) ++ g_coC) ++ wyC) (glq 206 (glq 181 (glq 159 (glq 152 (glq 147 (glq 142 (glq 125 (glq 108 (glq 103 q_tp q_tk) q_bo) q_dr) q_pa) q_re) q_fa) (qSl sa x0 x0b x0c x0d x0e x0f x0g x1 x1b x1c x1d x1e x1f x1g x2 x2b x2c x2d x2e x2f x2g)) q_co) q_wy) cy (glh 206 (glh 181 (glh 159 (glh 152 (glh 147 (glh 142 (glh 125 (glh 108 (glh 103 h00 h_tk) h_bo) h_dr) h00) h00) h00) h00) h00) h_wy)) X dX11_init_178 mlc_X11_82 ck_X7_init imc_X7 rfl (Nat.le_of_ble_eq_true rfl) ⟨Nat.le_of_ble_eq_true rfl, Nat.le_of_ble_eq_true rfl⟩ rfl (Nat.le_of_ble_eq_true rfl) rfl rfl (fun sz => tX7_init l qs D cy ri sz bo) ?_
  intro w1 hw1
  obtain ⟨q_ri, e_ri, i_ri1, rfl⟩ := cv_ring hw1
  refine w_eq (WD_gl (B := 209) (R := [108]) rfl rfl (List.forall_mem_cons.mpr ⟨(show _ = _ from e_bo).trans i_ri1.symm, fun _ h => absurd h List.not_mem_nil⟩)) ?_
  refine r_putF (pc := 181) (p := 0) ((a, .inr (11, [.ref tp, .ref tk, .ref bo, .ref dr, .ref pa, .ref re, .ref fa, .ref sa, .ref co, .ref wy, .ref ri, .int 0, .int 0])) :: WD ((((((((((g_tpC ++ g_tkC) ++ bkC_108) ++ bkC_125) ++ g_paC) ++ g_reC) ++ g_faC) ++ g_slC) ++ g_coC) ++ wyC) ++ g_riC) (glq 209 (glq 206 (glq 181 (glq 159 (glq 152 (glq 147 (glq 142 (glq 125 (glq 108 (glq 103 q_tp q_tk) q_bo) q_dr) q_pa) q_re) q_fa) (qSl sa x0 x0b x0c x0d x0e x0f x0g x1 x1b x1c x1d x1e x1f x1g x2 x2b x2c x2d x2e x2f x2g)) q_co) q_wy) q_ri) cy (glh 209 (glh 206 (glh 181 (glh 159 (glh 152 (glh 147 (glh 142 (glh 125 (glh 108 (glh 103 h00 h_tk) h_bo) h_dr) h00) h00) h00) h00) h00) h_wy) h00)) X.1 X.2.1 dX11_init_181 pF_X11_83 rfl rfl rfl (Nat.le_of_ble_eq_true rfl) rfl ?_
  refine w_aload_n (pc := 184) 0 X.1.1 dX11_init_184 rfl ?_
  refine w_iconst (pc := 185) 0 X.1.1 dX11_init_185 rfl ?_
  refine r_put (pc := 186) (p := 0) ((a, .inr (11, [.ref tp, .ref tk, .ref bo, .ref dr, .ref pa, .ref re, .ref fa, .ref sa, .ref co, .ref wy, .ref ri, .int 0, .int 0])) :: WD ((((((((((g_tpC ++ g_tkC) ++ bkC_108) ++ bkC_125) ++ g_paC) ++ g_reC) ++ g_faC) ++ g_slC) ++ g_coC) ++ wyC) ++ g_riC) (glq 209 (glq 206 (glq 181 (glq 159 (glq 152 (glq 147 (glq 142 (glq 125 (glq 108 (glq 103 q_tp q_tk) q_bo) q_dr) q_pa) q_re) q_fa) (qSl sa x0 x0b x0c x0d x0e x0f x0g x1 x1b x1c x1d x1e x1f x1g x2 x2b x2c x2d x2e x2f x2g)) q_co) q_wy) q_ri) cy (glh 209 (glh 206 (glh 181 (glh 159 (glh 152 (glh 147 (glh 142 (glh 125 (glh 108 (glh 103 h00 h_tk) h_bo) h_dr) h00) h00) h00) h00) h00) h_wy) h00)) X.1 dX11_init_186 fp_X11_87 rfl rfl rfl (Nat.le_of_ble_eq_true rfl) rfl ?_
  refine w_aload_n (pc := 189) 0 X.1.1 dX11_init_189 rfl ?_
  refine w_iconst (pc := 190) (-1) X.1.1 dX11_init_190 rfl ?_
  refine r_put (pc := 191) (p := 0) ((a, .inr (11, [.ref tp, .ref tk, .ref bo, .ref dr, .ref pa, .ref re, .ref fa, .ref sa, .ref co, .ref wy, .ref ri, .int 0, .int (-1)])) :: WD ((((((((((g_tpC ++ g_tkC) ++ bkC_108) ++ bkC_125) ++ g_paC) ++ g_reC) ++ g_faC) ++ g_slC) ++ g_coC) ++ wyC) ++ g_riC) (glq 209 (glq 206 (glq 181 (glq 159 (glq 152 (glq 147 (glq 142 (glq 125 (glq 108 (glq 103 q_tp q_tk) q_bo) q_dr) q_pa) q_re) q_fa) (qSl sa x0 x0b x0c x0d x0e x0f x0g x1 x1b x1c x1d x1e x1f x1g x2 x2b x2c x2d x2e x2f x2g)) q_co) q_wy) q_ri) cy (glh 209 (glh 206 (glh 181 (glh 159 (glh 152 (glh 147 (glh 142 (glh 125 (glh 108 (glh 103 h00 h_tk) h_bo) h_dr) h00) h00) h00) h00) h00) h_wy) h00)) X.1 dX11_init_191 fp_X11_91 rfl rfl rfl (Nat.le_of_ble_eq_true rfl) rfl ?_
  refine w_eq (congrArg (List.cons _) (WD_100 (a := a) (r := fun j => if j = 12 then -1 else 0) (show ne100 ((((((((((g_tpC ++ g_tkC) ++ bkC_108) ++ bkC_125) ++ g_paC) ++ g_reC) ++ g_faC) ++ g_slC) ++ g_coC) ++ wyC) ++ g_riC) = true from rfl))) ?_
  refine r_vret (pc := 194) X dX11_init_194 ⟨(fun k => if k = 100 then a else (glq 209 (glq 206 (glq 181 (glq 159 (glq 152 (glq 147 (glq 142 (glq 125 (glq 108 (glq 103 q_tp q_tk) q_bo) q_dr) q_pa) q_re) q_fa) (qSl sa x0 x0b x0c x0d x0e x0f x0g x1 x1b x1c x1d x1e x1f x1g x2 x2b x2c x2d x2e x2f x2g)) q_co) q_wy) q_ri) k), (fun k => if k = 100 then (fun j => if j = 12 then -1 else 0) else (glh 209 (glh 206 (glh 181 (glh 159 (glh 152 (glh 147 (glh 142 (glh 125 (glh 108 (glh 103 h00 h_tk) h_bo) h_dr) h00) h00) h00) h00) h00) h_wy) h00).1 k, (glh 209 (glh 206 (glh 181 (glh 159 (glh 152 (glh 147 (glh 142 (glh 125 (glh 108 (glh 103 h00 h_tk) h_bo) h_dr) h00) h00) h00) h00) h00) h_wy) h00).2), rfl, ?_, ?_⟩
  · exact rel_start rfl rfl f_bo.1 f_bo.2.1 f_bo.2.2.1 f_bo.2.2.2.1 f_bo.2.2.2.2.1 f_bo.2.2.2.2.2.1 f_bo.2.2.2.2.2.2 rfl rfl f_tk f_wy
  · exact off_eq e_tp e_tk e_bo e_dr e_pa e_re e_fa rfl e_co e_wy e_ri
