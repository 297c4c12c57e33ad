theorem dX2_init_0 : decode cX2_init 0 = .ok (.aload_n 0, 1) := by decide +kernel
theorem dX2_init_1 : decode cX2_init 1 = .ok (.invokespecial 3, 3) := by decide +kernel
theorem dX2_init_4 : decode cX2_init 4 = .ok (.aload_n 0, 1) := by decide +kernel
theorem dX2_init_5 : decode cX2_init 5 = .ok (.aload_n 1, 1) := by decide +kernel
theorem dX2_init_6 : decode cX2_init 6 = .ok (.putfield 9, 3) := by decide +kernel
theorem dX2_init_9 : decode cX2_init 9 = .ok (.aload_n 0, 1) := by decide +kernel
theorem dX2_init_10 : decode cX2_init 10 = .ok (.aload_n 2, 1) := by decide +kernel
theorem dX2_init_11 : decode cX2_init 11 = .ok (.putfield 15, 3) := by decide +kernel
theorem dX2_init_14 : decode cX2_init 14 = .ok (.aload_n 0, 1) := by decide +kernel
theorem dX2_init_15 : decode cX2_init 15 = .ok (.aload_n 3, 1) := by decide +kernel
theorem dX2_init_16 : decode cX2_init 16 = .ok (.putfield 19, 3) := by decide +kernel
theorem dX2_init_19 : decode cX2_init 19 = .ok (.aload_n 0, 1) := by decide +kernel
theorem dX2_init_20 : decode cX2_init 20 = .ok (.new 23, 3) := by decide +kernel
theorem dX2_init_23 : decode cX2_init 23 = .ok (.dup, 1) := by decide +kernel
theorem dX2_init_24 : decode cX2_init 24 = .ok (.aload_n 1, 1) := by decide +kernel
theorem dX2_init_25 : decode cX2_init 25 = .ok (.aload_n 2, 1) := by decide +kernel
theorem dX2_init_26 : decode cX2_init 26 = .ok (.aload_n 3, 1) := by decide +kernel
theorem dX2_init_27 : decode cX2_init 27 = .ok (.invokespecial 25, 3) := by decide +kernel
theorem dX2_init_30 : decode cX2_init 30 = .ok (.putfield 28, 3) := by decide +kernel
theorem dX2_init_33 : decode cX2_init 33 = .ok (.aload_n 0, 1) := by decide +kernel
theorem dX2_init_34 : decode cX2_init 34 = .ok (.new 23, 3) := by decide +kernel
theorem dX2_init_37 : decode cX2_init 37 = .ok (.dup, 1) := by decide +kernel
theorem dX2_init_38 : decode cX2_init 38 = .ok (.aload_n 1, 1) := by decide +kernel
theorem dX2_init_39 : decode cX2_init 39 = .ok (.aload_n 2, 1) := by decide +kernel
theorem dX2_init_40 : decode cX2_init 40 = .ok (.aload_n 3, 1) := by decide +kernel
theorem dX2_init_41 : decode cX2_init 41 = .ok (.invokespecial 25, 3) := by decide +kernel
theorem dX2_init_44 : decode cX2_init 44 = .ok (.putfield 32, 3) := by decide +kernel
theorem dX2_init_47 : decode cX2_init 47 = .ok (.aload_n 0, 1) := by decide +kernel
theorem dX2_init_48 : decode cX2_init 48 = .ok (.new 23, 3) := by decide +kernel
theorem dX2_init_51 : decode cX2_init 51 = .ok (.dup, 1) := by decide +kernel
theorem dX2_init_52 : decode cX2_init 52 = .ok (.aload_n 1, 1) := by decide +kernel
theorem dX2_init_53 : decode cX2_init 53 = .ok (.aload_n 2, 1) := by decide +kernel
theorem dX2_init_54 : decode cX2_init 54 = .ok (.aload_n 3, 1) := by decide +kernel
theorem dX2_init_55 : decode cX2_init 55 = .ok (.invokespecial 25, 3) := by decide +kernel
theorem dX2_init_58 : decode cX2_init 58 = .ok (.putfield 35, 3) := by decide +kernel
theorem dX2_init_61 : decode cX2_init 61 = .ok (.return_, 1) := by decide +kernel
theorem ck_X1_init : CK yX1_init cX1_init 4 none 3 := ⟨tb_mem (tb_tab (tt_2 (List.mem_of_getElem? (i := 145) rfl))) rfl, tb_mem (tb_tab (tt_1 (List.mem_of_getElem? (i := 15) rfl))) rfl, by decide, by decide⟩
theorem nw_X2_23 : NWd "AfterOffice$Courses" 23 1 15 TX1 tyX1 := ⟨RX1, rfl, inX1, tyX1_ok, tb_mem (tb_tab (tt_2 (List.mem_of_getElem? (i := 141) rfl))) rfl, tb_mem (tb_tab (tt_2 (List.mem_of_getElem? (i := 142) rfl))) rfl, tb_mem (tb_tab (tt_1 (List.mem_of_getElem? (i := 15) rfl))) rfl⟩
theorem nf_X1 : ∀ j, j < 15 → defaultValue (tyX1 j) = vp_V [.null, .null, .null, .null, .null, .null, .null, .null, .null, .null, .int 0, .int 0, .int 0, .int 0, .int 0] j := fun j hj => match j, hj with
  | 0, _ => rfl
  | 1, _ => rfl
  | 2, _ => rfl
  | 3, _ => rfl
  | 4, _ => rfl
  | 5, _ => rfl
  | 6, _ => rfl
  | 7, _ => rfl
  | 8, _ => rfl
  | 9, _ => rfl
  | 10, _ => rfl
  | 11, _ => rfl
  | 12, _ => rfl
  | 13, _ => rfl
  | 14, _ => rfl
  | n + 15, h => absurd h (by omega)
theorem mlc_X2_25 : Cond.methodLink "AfterOffice$Courses" 25 yX1_init ∈ TB := tb_mem (tb_tab (tt_2 (List.mem_of_getElem? (i := 143) rfl))) rfl
theorem imc_X1 : Cond.instanceMethod yX1_init ∈ TB := tb_mem (tb_tab (tt_2 (List.mem_of_getElem? (i := 144) rfl))) rfl
theorem ml_oi_X2 : Cond.methodLink "AfterOffice$Courses" 3 Lib.objectInit ∈ TB := tb_mem (tb_tab (tt_2 (List.mem_of_getElem? (i := 140) rfl))) rfl
theorem pF_X2_9 : ∃ (C : String) (TT : u_T) (N : Nat) (ty0 : Nat → FieldType), vwCl[2]? = some (C, TT, N) ∧ (∀ w ∈ u_ws C TT N, w ∈ TB) ∧ 0 < N ∧ Cond.fieldLink "AfterOffice$Courses" 9 C (TT 0).2.1 (TT 0).2.2.1 ∈ TB ∧ (TT 0).1 = C ∧ (∀ k, k < N → parseFieldDescriptor (TT k).2.2.1 = some (ty0 k)) ∧ (∀ a, a < N → ∀ b, b < N → a ≠ b → (TT a).2.1 ≠ (TT b).2.1) ∧ (TT 0).2.2.2 = true ∧ parseFieldDescriptor (TT 0).2.2.1 = some (tyX2 0) ∧ C = "AfterOffice$Courses" := ⟨_, _, _, tyX2, rfl, inX2, by decide, tb_mem (tb_tab (tt_2 (List.mem_of_getElem? (i := 203) rfl))) rfl, rfl, tyX2_ok, nmX2, rfl, tyX2_ok 0 (by decide), rfl⟩
theorem pF_X2_15 : ∃ (C : String) (TT : u_T) (N : Nat) (ty0 : Nat → FieldType), vwCl[2]? = some (C, TT, N) ∧ (∀ w ∈ u_ws C TT N, w ∈ TB) ∧ 1 < N ∧ Cond.fieldLink "AfterOffice$Courses" 15 C (TT 1).2.1 (TT 1).2.2.1 ∈ TB ∧ (TT 1).1 = C ∧ (∀ k, k < N → parseFieldDescriptor (TT k).2.2.1 = some (ty0 k)) ∧ (∀ a, a < N → ∀ b, b < N → a ≠ b → (TT a).2.1 ≠ (TT b).2.1) ∧ (TT 1).2.2.2 = true ∧ parseFieldDescriptor (TT 1).2.2.1 = some (tyX2 1) ∧ C = "AfterOffice$Courses" := ⟨_, _, _, tyX2, rfl, inX2, by decide, tb_mem (tb_tab (tt_2 (List.mem_of_getElem? (i := 204) rfl))) rfl, rfl, tyX2_ok, nmX2, rfl, tyX2_ok 1 (by decide), rfl⟩
theorem pF_X2_19 : ∃ (C : String) (TT : u_T) (N : Nat) (ty0 : Nat → FieldType), vwCl[2]? = some (C, TT, N) ∧ (∀ w ∈ u_ws C TT N, w ∈ TB) ∧ 2 < N ∧ Cond.fieldLink "AfterOffice$Courses" 19 C (TT 2).2.1 (TT 2).2.2.1 ∈ TB ∧ (TT 2).1 = C ∧ (∀ k, k < N → parseFieldDescriptor (TT k).2.2.1 = some (ty0 k)) ∧ (∀ a, a < N → ∀ b, b < N → a ≠ b → (TT a).2.1 ≠ (TT b).2.1) ∧ (TT 2).2.2.2 = true ∧ parseFieldDescriptor (TT 2).2.2.1 = some (tyX2 2) ∧ C = "AfterOffice$Courses" := ⟨_, _, _, tyX2, rfl, inX2, by decide, tb_mem (tb_tab (tt_2 (List.mem_of_getElem? (i := 205) rfl))) rfl, rfl, tyX2_ok, nmX2, rfl, tyX2_ok 2 (by decide), rfl⟩
theorem pF_X2_28 : ∃ (C : String) (TT : u_T) (N : Nat) (ty0 : Nat → FieldType), vwCl[2]? = some (C, TT, N) ∧ (∀ w ∈ u_ws C TT N, w ∈ TB) ∧ 3 < N ∧ Cond.fieldLink "AfterOffice$Courses" 28 C (TT 3).2.1 (TT 3).2.2.1 ∈ TB ∧ (TT 3).1 = C ∧ (∀ k, k < N → parseFieldDescriptor (TT k).2.2.1 = some (ty0 k)) ∧ (∀ a, a < N → ∀ b, b < N → a ≠ b → (TT a).2.1 ≠ (TT b).2.1) ∧ (TT 3).2.2.2 = true ∧ parseFieldDescriptor (TT 3).2.2.1 = some (tyX2 3) ∧ C = "AfterOffice$Courses" := ⟨_, _, _, tyX2, rfl, inX2, by decide, tb_mem (tb_tab (tt_2 (List.mem_of_getElem? (i := 206) rfl))) rfl, rfl, tyX2_ok, nmX2, rfl, tyX2_ok 3 (by decide), rfl⟩
theorem pF_X2_32 : ∃ (C : String) (TT : u_T) (N : Nat) (ty0 : Nat → FieldType), vwCl[2]? = some (C, TT, N) ∧ (∀ w ∈ u_ws C TT N, w ∈ TB) ∧ 4 < N ∧ Cond.fieldLink "AfterOffice$Courses" 32 C (TT 4).2.1 (TT 4).2.2.1 ∈ TB ∧ (TT 4).1 = C ∧ (∀ k, k < N → parseFieldDescriptor (TT k).2.2.1 = some (ty0 k)) ∧ (∀ a, a < N → ∀ b, b < N → a ≠ b → (TT a).2.1 ≠ (TT b).2.1) ∧ (TT 4).2.2.2 = true ∧ parseFieldDescriptor (TT 4).2.2.1 = some (tyX2 4) ∧ C = "AfterOffice$Courses" := ⟨_, _, _, tyX2, rfl, inX2, by decide, tb_mem (tb_tab (tt_2 (List.mem_of_getElem? (i := 207) rfl))) rfl, rfl, tyX2_ok, nmX2, rfl, tyX2_ok 4 (by decide), rfl⟩
theorem pF_X2_35 : ∃ (C : String) (TT : u_T) (N : Nat) (ty0 : Nat → FieldType), vwCl[2]? = some (C, TT, N) ∧ (∀ w ∈ u_ws C TT N, w ∈ TB) ∧ 5 < N ∧ Cond.fieldLink "AfterOffice$Courses" 35 C (TT 5).2.1 (TT 5).2.2.1 ∈ TB ∧ (TT 5).1 = C ∧ (∀ k, k < N → parseFieldDescriptor (TT k).2.2.1 = some (ty0 k)) ∧ (∀ a, a < N → ∀ b, b < N → a ≠ b → (TT a).2.1 ≠ (TT b).2.1) ∧ (TT 5).2.2.2 = true ∧ parseFieldDescriptor (TT 5).2.2.1 = some (tyX2 5) ∧ C = "AfterOffice$Courses" := ⟨_, _, _, tyX2, rfl, inX2, by decide, tb_mem (tb_tab (tt_2 (List.mem_of_getElem? (i := 208) rfl))) rfl, rfl, tyX2_ok, nmX2, rfl, tyX2_ok 5 (by decide), rfl⟩
def PX1 (cy : Nat → ClassId) (a r1 r2 r3 : Nat) (w1 : va_W) : Prop := ∃ q1 q2 q3 q4 q5 q6 q7 : Nat, w1 = [(a, .inr (1, [.ref r1, .ref r2, .ref r3, .ref q1, .ref q2, .ref q3, .ref q4, .ref q5, .ref q6, .ref q7, .int 0, .int 0, .int 0, .int 0, .int 0])), (q1, .inl (cy 0, 10, .inl (fun _ => 0))), (q2, .inl (cy 0, 10, .inl (fun _ => 0))), (q3, .inl (cy 0, 10, .inl (fun _ => 0))), (q4, .inl (cy 0, 10, .inl (fun _ => 0))), (q5, .inl (cy 0, 10, .inl (fun _ => 0))), (q6, .inl (cy 0, 10, .inl (fun _ => 0))), (q7, .inl (cy 0, 60, .inl (fun _ => 0)))]
set_option maxRecDepth 40000 in
theorem tX2_init (l : Launch) (qs : Nat → Nat) (D : va_G) (cy : Nat → ClassId) (a sz r1 r2 r3 : Nat) : MI l qs D cy yX2_init cX2_init 4 2 24 405 [.ref a, .ref r1, .ref r2, .ref r3] a 2 sz [.null, .null, .null, .null, .null, .null, .int 0, .int 0, .int 0] (fun w1 => ∃ o1 o1b o1c o1d o1e o1f o1g o1h o2 o2b o2c o2d o2e o2f o2g o2h o3 o3b o3c o3d o3e o3f o3g o3h : Nat, w1 = [(a, .inr (2, [.ref r1, .ref r2, .ref r3, .ref o1, .ref o2, .ref o3, .int 0, .int 0, .int 0])), (o1, .inr (1, [.ref r1, .ref r2, .ref r3, .ref o1b, .ref o1c, .ref o1d, .ref o1e, .ref o1f, .ref o1g, .ref o1h, .int 0, .int 0, .int 0, .int 0, .int 0])), (o1b, .inl (cy 0, 10, .inl (fun _ => 0))), (o1c, .inl (cy 0, 10, .inl (fun _ => 0))), (o1d, .inl (cy 0, 10, .inl (fun _ => 0))), (o1e, .inl (cy 0, 10, .inl (fun _ => 0))), (o1f, .inl (cy 0, 10, .inl (fun _ => 0))), (o1g, .inl (cy 0, 10, .inl (fun _ => 0))), (o1h, .inl (cy 0, 60, .inl (fun _ => 0))), (o2, .inr (1, [.ref r1, .ref r2, .ref r3, .ref o2b, .ref o2c, .ref o2d, .ref o2e, .ref o2f, .ref o2g, .ref o2h, .int 0, .int 0, .int 0, .int 0, .int 0])), (o2b, .inl (cy 0, 10, .inl (fun _ => 0))), (o2c, .inl (cy 0, 10, .inl (fun _ => 0))), (o2d, .inl (cy 0, 10, .inl (fun _ => 0))), (o2e, .inl (cy 0, 10, .inl (fun _ => 0))), (o2f, .inl (cy 0, 10, .inl (fun _ => 0))), (o2g, .inl (cy 0, 10, .inl (fun _ => 0))), (o2h, .inl (cy 0, 60, .inl (fun _ => 0))), (o3, .inr (1, [.ref r1, .ref r2, .ref r3, .ref o3b, .ref o3c, .ref o3d, .ref o3e, .ref o3f, .ref o3g, .ref o3h, .int 0, .int 0, .int 0, .int 0, .int 0])), (o3b, .inl (cy 0, 10, .inl (fun _ => 0))), (o3c, .inl (cy 0, 10, .inl (fun _ => 0))), (o3d, .inl (cy 0, 10, .inl (fun _ => 0))), (o3e, .inl (cy 0, 10, .inl (fun _ => 0))), (o3f, .inl (cy 0, 10, .inl (fun _ => 0))), (o3g, .inl (cy 0, 10, .inl (fun _ => 0))), (o3h, .inl (cy 0, 60, .inl (fun _ => 0)))]) := by
  refine mi_start (by decide) rfl (Nat.le_of_ble_eq_true rfl) (fun G X => ?_)
  refine w_aload_n (pc := 0) 0 X.1.1 dX2_init_0 rfl ?_
  refine r_obj (pc := 1) X dX2_init_1 ml_oi_X2 ml_oc (Nat.le_of_ble_eq_true rfl) (Nat.le_of_ble_eq_true rfl) ?_
  refine w_aload_n (pc := 4) 0 X.1.1 dX2_init_4 rfl ?_
  refine w_aload_n (pc := 5) 1 X.1.1 dX2_init_5 rfl ?_
  refine r_putF (pc := 6) (p := 0) [(a, .inr (2, [.ref r1, .null, .null, .null, .null, .null, .int 0, .int 0, .int 0]))] X.1 X.2.1 dX2_init_6 pF_X2_9 rfl rfl rfl (Nat.le_of_ble_eq_true rfl) rfl ?_
  refine w_aload_n (pc := 9) 0 X.1.1 dX2_init_9 rfl ?_
  refine w_aload_n (pc := 10) 2 X.1.1 dX2_init_10 rfl ?_
  refine r_putF (pc := 11) (p := 0) [(a, .inr (2, [.ref r1, .ref r2, .null, .null, .null, .null, .int 0, .int 0, .int 0]))] X.1 X.2.1 dX2_init_11 pF_X2_15 rfl rfl rfl (Nat.le_of_ble_eq_true rfl) rfl ?_
  refine w_aload_n (pc := 14) 0 X.1.1 dX2_init_14 rfl ?_
  refine w_aload_n (pc := 15) 3 X.1.1 dX2_init_15 rfl ?_
  refine r_putF (pc := 16) (p := 0) [(a, .inr (2, [.ref r1, .ref r2, .ref r3, .null, .null, .null, .int 0, .int 0, .int 0]))] X.1 X.2.1 dX2_init_16 pF_X2_19 rfl rfl rfl (Nat.le_of_ble_eq_true rfl) rfl ?_
  refine w_aload_n (pc := 19) 0 X.1.1 dX2_init_19 rfl ?_
  refine r_new (pc := 20) [.null, .null, .null, .null, .null, .null, .null, .null, .null, .null, .int 0, .int 0, .int 0, .int 0, .int 0] X.1 dX2_init_20 nw_X2_23 nf_X1 (by rw [X.2.2.1]; exact Nat.le_of_ble_eq_true rfl) (by rw [X.2.2.1]; exact Nat.le_of_ble_eq_true rfl) (fun o1 => ?_)
  refine w_dup (pc := 23) X.1.1 dX2_init_23 rfl ?_
  refine w_aload_n (pc := 24) 1 X.1.1 dX2_init_24 rfl ?_
  refine w_aload_n (pc := 25) 2 X.1.1 dX2_init_25 rfl ?_
  refine w_aload_n (pc := 26) 3 X.1.1 dX2_init_26 rfl ?_
  refine r_callI (pc := 27) (As := [.ref r1, .ref r2, .ref r3]) (rest := [.ref o1, .ref a]) (Post' := PX1 cy o1 r1 r2 r3) [(a, .inr (2, [.ref r1, .ref r2, .ref r3, .null, .null, .null, .int 0, .int 0, .int 0]))] X dX2_init_27 mlc_X2_25 ck_X1_init imc_X1 rfl (Nat.le_of_ble_eq_true rfl) ⟨Nat.le_of_ble_eq_true rfl, Nat.le_of_ble_eq_true rfl⟩ rfl (Nat.le_of_ble_eq_true rfl) rfl rfl (fun sz => tX1_init l qs D cy o1 sz r1 r2 r3) ?_
  rintro _ ⟨o1b, o1c, o1d, o1e, o1f, o1g, o1h, rfl⟩
  refine r_putF (pc := 30) (p := 0) [(a, .inr (2, [.ref r1, .ref r2, .ref r3, .ref o1, .null, .null, .int 0, .int 0, .int 0])), (o1, .inr (1, [.ref r1, .ref r2, .ref r3, .ref o1b, .ref o1c, .ref o1d, .ref o1e, .ref o1f, .ref o1g, .ref o1h, .int 0, .int 0, .int 0, .int 0, .int 0])), (o1b, .inl (cy 0, 10, .inl (fun _ => 0))), (o1c, .inl (cy 0, 10, .inl (fun _ => 0))), (o1d, .inl (cy 0, 10, .inl (fun _ => 0))), (o1e, .inl (cy 0, 10, .inl (fun _ => 0))), (o1f, .inl (cy 0, 10, .inl (fun _ => 0))), (o1g, .inl (cy 0, 10, .inl (fun _ => 0))), (o1h, .inl (cy 0, 60, .inl (fun _ => 0)))] X.1 X.2.1 dX2_init_30 pF_X2_28 rfl rfl rfl (Nat.le_of_ble_eq_true rfl) rfl ?_
  refine w_aload_n (pc := 33) 0 X.1.1 dX2_init_33 rfl ?_
  refine r_new (pc := 34) [.null, .null, .null, .null, .null, .null, .null, .null, .null, .null, .int 0, .int 0, .int 0, .int 0, .int 0] X.1 dX2_init_34 nw_X2_23 nf_X1 (by rw [X.2.2.1]; exact Nat.le_of_ble_eq_true rfl) (by rw [X.2.2.1]; exact Nat.le_of_ble_eq_true rfl) (fun o2 => ?_)
  refine w_dup (pc := 37) X.1.1 dX2_init_37 rfl ?_
  refine w_aload_n (pc := 38) 1 X.1.1 dX2_init_38 rfl ?_
  refine w_aload_n (pc := 39) 2 X.1.1 dX2_init_39 rfl ?_
  refine w_aload_n (pc := 40) 3 X.1.1 dX2_init_40 rfl ?_
  refine r_callI (pc := 41) (As := [.ref r1, .ref r2, .ref r3]) (rest := [.ref o2, .ref a]) (Post' := PX1 cy o2 r1 r2 r3) [(a, .inr (2, [.ref r1, .ref r2, .ref r3, .ref o1, .null, .null, .int 0, .int 0, .int 0])), (o1, .inr (1, [.ref r1, .ref r2, .ref r3, .ref o1b, .ref o1c, .ref o1d, .ref o1e, .ref o1f, .ref o1g, .ref o1h, .int 0, .int 0, .int 0, .int 0, .int 0])), (o1b, .inl (cy 0, 10, .inl (fun _ => 0))), (o1c, .inl (cy 0, 10, .inl (fun _ => 0))), (o1d, .inl (cy 0, 10, .inl (fun _ => 0))), (o1e, .inl (cy 0, 10, .inl (fun _ => 0))), (o1f, .inl (cy 0, 10, .inl (fun _ => 0))), (o1g, .inl (cy 0, 10, .inl (fun _ => 0))), (o1h, .inl (cy 0, 60, .inl (fun _ => 0)))] X dX2_init_41 mlc_X2_25 ck_X1_init imc_X1 rfl (Nat.le_of_ble_eq_true rfl) ⟨Nat.le_of_ble_eq_true rfl, Nat.le_of_ble_eq_true rfl⟩ rfl (Nat.le_of_ble_eq_true rfl) rfl rfl (fun sz => tX1_init l qs D cy o2 sz r1 r2 r3) ?_
  rintro _ ⟨o2b, o2c, o2d, o2e, o2f, o2g, o2h, rfl⟩
  refine r_putF (pc := 44) (p := 0) [(a, .inr (2, [.ref r1, .ref r2, .ref r3, .ref o1, .ref o2, .null, .int 0, .int 0, .int 0])), (o1, .inr (1, [.ref r1, .ref r2, .ref r3, .ref o1b, .ref o1c, .ref o1d, .ref o1e, .ref o1f, .ref o1g, .ref o1h, .int 0, .int 0, .int 0, .int 0, .int 0])), (o1b, .inl (cy 0, 10, .inl (fun _ => 0))), (o1c, .inl (cy 0, 10, .inl (fun _ => 0))), (o1d, .inl (cy 0, 10, .inl (fun _ => 0))), (o1e, .inl (cy 0, 10, .inl (fun _ => 0))), (o1f, .inl (cy 0, 10, .inl (fun _ => 0))), (o1g, .inl (cy 0, 10, .inl (fun _ => 0))), (o1h, .inl (cy 0, 60, .inl (fun _ => 0))), (o2, .inr (1, [.ref r1, .ref r2, .ref r3, .ref o2b, .ref o2c, .ref o2d, .ref o2e, .ref o2f, .ref o2g, .ref o2h, .int 0, .int 0, .int 0, .int 0, .int 0])), (o2b, .inl (cy 0, 10, .inl (fun _ => 0))), (o2c, .inl (cy 0, 10, .inl (fun _ => 0))), (o2d, .inl (cy 0, 10, .inl (fun _ => 0))), (o2e, .inl (cy 0, 10, .inl (fun _ => 0))), (o2f, .inl (cy 0, 10, .inl (fun _ => 0))), (o2g, .inl (cy 0, 10, .inl (fun _ => 0))), (o2h, .inl (cy 0, 60, .inl (fun _ => 0)))] X.1 X.2.1 dX2_init_44 pF_X2_32 rfl rfl rfl (Nat.le_of_ble_eq_true rfl) rfl ?_
  refine w_aload_n (pc := 47) 0 X.1.1 dX2_init_47 rfl ?_
  refine r_new (pc := 48) [.null, .null, .null, .null, .null, .null, .null, .null, .null, .null, .int 0, .int 0, .int 0, .int 0, .int 0] X.1 dX2_init_48 nw_X2_23 nf_X1 (by rw [X.2.2.1]; exact Nat.le_of_ble_eq_true rfl) (by rw [X.2.2.1]; exact Nat.le_of_ble_eq_true rfl) (fun o3 => ?_)
  refine w_dup (pc := 51) X.1.1 dX2_init_51 rfl ?_
  refine w_aload_n (pc := 52) 1 X.1.1 dX2_init_52 rfl ?_
  refine w_aload_n (pc := 53) 2 X.1.1 dX2_init_53 rfl ?_
  refine w_aload_n (pc := 54) 3 X.1.1 dX2_init_54 rfl ?_
  refine r_callI (pc := 55) (As := [.ref r1, .ref r2, .ref r3]) (rest := [.ref o3, .ref a]) (Post' := PX1 cy o3 r1 r2 r3) [(a, .inr (2, [.ref r1, .ref r2, .ref r3, .ref o1, .ref o2, .null, .int 0, .int 0, .int 0])), (o1, .inr (1, [.ref r1, .ref r2, .ref r3, .ref o1b, .ref o1c, .ref o1d, .ref o1e, .ref o1f, .ref o1g, .ref o1h, .int 0, .int 0, .int 0, .int 0, .int 0])), (o1b, .inl (cy 0, 10, .inl (fun _ => 0))), (o1c, .inl (cy 0, 10, .inl (fun _ => 0))), (o1d, .inl (cy 0, 10, .inl (fun _ => 0))), (o1e, .inl (cy 0, 10, .inl (fun _ => 0))), (o1f, .inl (cy 0, 10, .inl (fun _ => 0))), (o1g, .inl (cy 0, 10, .inl (fun _ => 0))), (o1h, .inl (cy 0, 60, .inl (fun _ => 0))), (o2, .inr (1, [.ref r1, .ref r2, .ref r3, .ref o2b, .ref o2c, .ref o2d, .ref o2e, .ref o2f, .ref o2g, .ref o2h, .int 0, .int 0, .int 0, .int 0, .int 0])), (o2b, .inl (cy 0, 10, .inl (fun _ => 0))), (o2c, .inl (cy 0, 10, .inl (fun _ => 0))), (o2d, .inl (cy 0, 10, .inl (fun _ => 0))), (o2e, .inl (cy 0, 10, .inl (fun _ => 0))), (o2f, .inl (cy 0, 10, .inl (fun _ => 0))), (o2g, .inl (cy 0, 10, .inl (fun _ => 0))), (o2h, .inl (cy 0, 60, .inl (fun _ => 0)))] X dX2_init_55 mlc_X2_25 ck_X1_init imc_X1 rfl (Nat.le_of_ble_eq_true rfl) ⟨Nat.le_of_ble_eq_true rfl, Nat.le_of_ble_eq_true rfl⟩ rfl (Nat.le_of_ble_eq_true rfl) rfl rfl (fun sz => tX1_init l qs D cy o3 sz r1 r2 r3) ?_
  rintro _ ⟨o3b, o3c, o3d, o3e, o3f, o3g, o3h, rfl⟩
  refine r_putF (pc := 58) (p := 0) [(a, .inr (2, [.ref r1, .ref r2, .ref r3, .ref o1, .ref o2, .ref o3, .int 0, .int 0, .int 0])), (o1, .inr (1, [.ref r1, .ref r2, .ref r3, .ref o1b, .ref o1c, .ref o1d, .ref o1e, .ref o1f, .ref o1g, .ref o1h, .int 0, .int 0, .int 0, .int 0, .int 0])), (o1b, .inl (cy 0, 10, .inl (fun _ => 0))), (o1c, .inl (cy 0, 10, .inl (fun _ => 0))), (o1d, .inl (cy 0, 10, .inl (fun _ => 0))), (o1e, .inl (cy 0, 10, .inl (fun _ => 0))), (o1f, .inl (cy 0, 10, .inl (fun _ => 0))), (o1g, .inl (cy 0, 10, .inl (fun _ => 0))), (o1h, .inl (cy 0, 60, .inl (fun _ => 0))), (o2, .inr (1, [.ref r1, .ref r2, .ref r3, .ref o2b, .ref o2c, .ref o2d, .ref o2e, .ref o2f, .ref o2g, .ref o2h, .int 0, .int 0, .int 0, .int 0, .int 0])), (o2b, .inl (cy 0, 10, .inl (fun _ => 0))), (o2c, .inl (cy 0, 10, .inl (fun _ => 0))), (o2d, .inl (cy 0, 10, .inl (fun _ => 0))), (o2e, .inl (cy 0, 10, .inl (fun _ => 0))), (o2f, .inl (cy 0, 10, .inl (fun _ => 0))), (o2g, .inl (cy 0, 10, .inl (fun _ => 0))), (o2h, .inl (cy 0, 60, .inl (fun _ => 0))), (o3, .inr (1, [.ref r1, .ref r2, .ref r3, .ref o3b, .ref o3c, .ref o3d, .ref o3e, .ref o3f, .ref o3g, .ref o3h, .int 0, .int 0, .int 0, .int 0, .int 0])), (o3b, .inl (cy 0, 10, .inl (fun _ => 0))), (o3c, .inl (cy 0, 10, .inl (fun _ => 0))), (o3d, .inl (cy 0, 10, .inl (fun _ => 0))), (o3e, .inl (cy 0, 10, .inl (fun _ => 0))), (o3f, .inl (cy 0, 10, .inl (fun _ => 0))), (o3g, .inl (cy 0, 10, .inl (fun _ => 0))), (o3h, .inl (cy 0, 60, .inl (fun _ => 0)))] X.1 X.2.1 dX2_init_58 pF_X2_35 rfl rfl rfl (Nat.le_of_ble_eq_true rfl) rfl ?_
  exact r_vret (pc := 61) X dX2_init_61 ⟨o1, o1b, o1c, o1d, o1e, o1f, o1g, o1h, o2, o2b, o2c, o2d, o2e, o2f, o2g, o2h, o3, o3b, o3c, o3d, o3e, o3f, o3g, o3h, rfl⟩
