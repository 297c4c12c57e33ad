theorem dX10_init_0 : decode cX10_init 0 = .ok (.aload_n 0, 1) := by decide +kernel
theorem dX10_init_1 : decode cX10_init 1 = .ok (.invokespecial 3, 3) := by decide +kernel
theorem dX10_init_4 : decode cX10_init 4 = .ok (.aload_n 0, 1) := by decide +kernel
theorem dX10_init_5 : decode cX10_init 5 = .ok (.sipush 176, 3) := by decide +kernel
theorem dX10_init_8 : decode cX10_init 8 = .ok (.newarray .int, 2) := by decide +kernel
theorem dX10_init_10 : decode cX10_init 10 = .ok (.putfield 9, 3) := by decide +kernel
theorem dX10_init_13 : decode cX10_init 13 = .ok (.aload_n 0, 1) := by decide +kernel
theorem dX10_init_14 : decode cX10_init 14 = .ok (.bipush 32, 2) := by decide +kernel
theorem dX10_init_16 : decode cX10_init 16 = .ok (.newarray .long, 2) := by decide +kernel
theorem dX10_init_18 : decode cX10_init 18 = .ok (.putfield 15, 3) := by decide +kernel
theorem dX10_init_21 : decode cX10_init 21 = .ok (.aload_n 0, 1) := by decide +kernel
theorem dX10_init_22 : decode cX10_init 22 = .ok (.aload_n 1, 1) := by decide +kernel
theorem dX10_init_23 : decode cX10_init 23 = .ok (.putfield 19, 3) := by decide +kernel
theorem dX10_init_26 : decode cX10_init 26 = .ok (.aload_n 0, 1) := by decide +kernel
theorem dX10_init_27 : decode cX10_init 27 = .ok (.aload_n 2, 1) := by decide +kernel
theorem dX10_init_28 : decode cX10_init 28 = .ok (.putfield 23, 3) := by decide +kernel
theorem dX10_init_31 : decode cX10_init 31 = .ok (.aload_n 0, 1) := by decide +kernel
theorem dX10_init_32 : decode cX10_init 32 = .ok (.invokevirtual 27, 3) := by decide +kernel
theorem dX10_init_35 : decode cX10_init 35 = .ok (.return_, 1) := by decide +kernel
theorem ml_X10_27 : Cond.methodLink "AfterOffice$Ways" 27 yX10_fillFew ∈ TB := tb_mem (tb_tab (tt_3 (List.mem_of_getElem? (i := 0) rfl))) rfl
theorem ck_X10_fillFew : CK yX10_fillFew cX10_fillFew 7 none 0 := ⟨tb_mem (tb_tab (tt_3 (List.mem_of_getElem? (i := 3) rfl))) rfl, tb_mem (tb_tab (tt_1 (List.mem_of_getElem? (i := 16) rfl))) rfl, by decide, by decide⟩
theorem cv_X10_fillFew : CV yX10_fillFew := ⟨tb_mem (tb_tab (tt_3 (List.mem_of_getElem? (i := 2) rfl))) rfl, tb_mem (tb_sel (List.mem_map_of_mem (f := fun q : MethodName × Nat => Cond.selects q.1.cls q.1 q.1) (tp_1 (List.mem_of_getElem? (i := 0) rfl)))) rfl⟩
theorem ml_oi_X10 : Cond.methodLink "AfterOffice$Ways" 3 Lib.objectInit ∈ TB := tb_mem (tb_tab (tt_2 (List.mem_of_getElem? (i := 239) rfl))) rfl
theorem pF_X10_9 : ∃ (C : String) (TT : u_T) (N : Nat) (ty0 : Nat → FieldType), vwCl[10]? = some (C, TT, N) ∧ (∀ w ∈ u_ws C TT N, w ∈ TB) ∧ 2 < N ∧ Cond.fieldLink "AfterOffice$Ways" 9 C (TT 2).2.1 (TT 2).2.2.1 ∈ TB ∧ (TT 2).1 = C ∧ (∀ k, k < N → parseFieldDescriptor (TT k).2.2.1 = some (ty0 k)) ∧ (∀ a, a < N → ∀ b, b < N → a ≠ b → (TT a).2.1 ≠ (TT b).2.1) ∧ (TT 2).2.2.2 = true ∧ parseFieldDescriptor (TT 2).2.2.1 = some (tyX10 2) ∧ C = "AfterOffice$Ways" := ⟨_, _, _, tyX10, rfl, inX10, by decide, tb_mem (tb_tab (tt_3 (List.mem_of_getElem? (i := 8) rfl))) rfl, rfl, tyX10_ok, nmX10, rfl, tyX10_ok 2 (by decide), rfl⟩
theorem pF_X10_15 : ∃ (C : String) (TT : u_T) (N : Nat) (ty0 : Nat → FieldType), vwCl[10]? = some (C, TT, N) ∧ (∀ w ∈ u_ws C TT N, w ∈ TB) ∧ 3 < N ∧ Cond.fieldLink "AfterOffice$Ways" 15 C (TT 3).2.1 (TT 3).2.2.1 ∈ TB ∧ (TT 3).1 = C ∧ (∀ k, k < N → parseFieldDescriptor (TT k).2.2.1 = some (ty0 k)) ∧ (∀ a, a < N → ∀ b, b < N → a ≠ b → (TT a).2.1 ≠ (TT b).2.1) ∧ (TT 3).2.2.2 = true ∧ parseFieldDescriptor (TT 3).2.2.1 = some (tyX10 3) ∧ C = "AfterOffice$Ways" := ⟨_, _, _, tyX10, rfl, inX10, by decide, tb_mem (tb_tab (tt_3 (List.mem_of_getElem? (i := 9) rfl))) rfl, rfl, tyX10_ok, nmX10, rfl, tyX10_ok 3 (by decide), rfl⟩
theorem pF_X10_19 : ∃ (C : String) (TT : u_T) (N : Nat) (ty0 : Nat → FieldType), vwCl[10]? = some (C, TT, N) ∧ (∀ w ∈ u_ws C TT N, w ∈ TB) ∧ 0 < N ∧ Cond.fieldLink "AfterOffice$Ways" 19 C (TT 0).2.1 (TT 0).2.2.1 ∈ TB ∧ (TT 0).1 = C ∧ (∀ k, k < N → parseFieldDescriptor (TT k).2.2.1 = some (ty0 k)) ∧ (∀ a, a < N → ∀ b, b < N → a ≠ b → (TT a).2.1 ≠ (TT b).2.1) ∧ (TT 0).2.2.2 = true ∧ parseFieldDescriptor (TT 0).2.2.1 = some (tyX10 0) ∧ C = "AfterOffice$Ways" := ⟨_, _, _, tyX10, rfl, inX10, by decide, tb_mem (tb_tab (tt_3 (List.mem_of_getElem? (i := 6) rfl))) rfl, rfl, tyX10_ok, nmX10, rfl, tyX10_ok 0 (by decide), rfl⟩
theorem pF_X10_23 : ∃ (C : String) (TT : u_T) (N : Nat) (ty0 : Nat → FieldType), vwCl[10]? = some (C, TT, N) ∧ (∀ w ∈ u_ws C TT N, w ∈ TB) ∧ 1 < N ∧ Cond.fieldLink "AfterOffice$Ways" 23 C (TT 1).2.1 (TT 1).2.2.1 ∈ TB ∧ (TT 1).1 = C ∧ (∀ k, k < N → parseFieldDescriptor (TT k).2.2.1 = some (ty0 k)) ∧ (∀ a, a < N → ∀ b, b < N → a ≠ b → (TT a).2.1 ≠ (TT b).2.1) ∧ (TT 1).2.2.2 = true ∧ parseFieldDescriptor (TT 1).2.2.1 = some (tyX10 1) ∧ C = "AfterOffice$Ways" := ⟨_, _, _, tyX10, rfl, inX10, by decide, tb_mem (tb_tab (tt_3 (List.mem_of_getElem? (i := 7) rfl))) rfl, rfl, tyX10_ok, nmX10, rfl, tyX10_ok 1 (by decide), rfl⟩
def wyC : List (Nat × Shp) := [(206, .inl (10, [some 108, some 147, some 207, some 208, none, none, none, none, none])), (207, .inr (.inl (0, 176))), (208, .inr (.inl (1, 32)))]
theorem wyn : nd wyC := by unfold nd wyC; decide
set_option maxRecDepth 20000 in
theorem wyf : shsC.filter (fun e => decide (206 ≤ e.1) && decide (e.1 ≤ 208)) = wyC := rfl
theorem wyh : ∀ e, e ∈ shsC → 206 ≤ e.1 → e.1 ≤ 208 → e ∈ wyC := fun e h h1 h2 => by
  rw [← wyf]
  exact List.mem_filter.mpr ⟨h, by rw [decide_eq_true h1, decide_eq_true h2]; rfl⟩
def qW (qs : Nat → Nat) (a q1 q2 r1 r2 : Nat) : Nat → Nat := fun k => if k = 999 then qs 999 else if k = 108 then r1 else if k = 147 then r2 else [a, q1, q2].getD (k - 206) 0
set_option maxRecDepth 40000 in
theorem tX10_init (l : Launch) (qs : Nat → Nat) (D : va_G) (cy : Nat → ClassId) (a sz r1 r2 : Nat) : MI l qs D cy yX10_init cX10_init 3 1 2 208 [.ref a, .ref r1, .ref r2] a 10 sz [.null, .null, .null, .null, .int 0, .int 0, .int 0, .int 0, .int 0] (fun w1 => ∃ (q : Nat → Nat) (h : Hp), q 206 = a ∧ q 108 = r1 ∧ q 147 = r2 ∧ fwC h ∧ w1 = WD wyC q cy h) := by
  obtain ⟨hr, e, fct, -⟩ := C_fillFew h00
  refine mi_start (by decide) rfl (Nat.le_of_ble_eq_true rfl) (fun G X => ?_)
  refine w_aload_n (pc := 0) 0 X.1.1 dX10_init_0 rfl ?_
  refine r_obj (pc := 1) X dX10_init_1 ml_oi_X10 ml_oc (Nat.le_of_ble_eq_true rfl) (Nat.le_of_ble_eq_true rfl) ?_
  refine w_aload_n (pc := 4) 0 X.1.1 dX10_init_4 rfl ?_
  refine w_sipush (pc := 5) 176 X.1.1 dX10_init_5 rfl ?_
  refine r_newa (pc := 8) (N := 176) (a0 := (176, .inl (fun _ => 0))) 0 X.1 dX10_init_8 (fun _ => rfl) rfl ac_int (fun _ => rfl) (by decide) (by decide) (by decide) (by rw [X.2.2.1]; exact Nat.le_of_ble_eq_true rfl) (by rw [X.2.2.1]; exact Nat.le_of_ble_eq_true rfl) (fun q1 => ?_)
  refine r_putF (pc := 10) (p := 0) [(a, .inr (10, [.null, .null, .ref q1, .null, .int 0, .int 0, .int 0, .int 0, .int 0])), (q1, .inl (cy 0, 176, .inl (fun _ => 0)))] X.1 X.2.1 dX10_init_10 pF_X10_9 rfl rfl rfl (Nat.le_of_ble_eq_true rfl) rfl ?_
  refine w_aload_n (pc := 13) 0 X.1.1 dX10_init_13 rfl ?_
  refine w_bipush (pc := 14) 32 X.1.1 dX10_init_14 rfl ?_
  refine r_newa (pc := 16) (N := 32) (a0 := (32, .inr (.inl (fun _ => 0)))) 1 X.1 dX10_init_16 (fun _ => rfl) rfl ac_long (fun _ => rfl) (by decide) (by decide) (by decide) (by rw [X.2.2.1]; exact Nat.le_of_ble_eq_true rfl) (by rw [X.2.2.1]; exact Nat.le_of_ble_eq_true rfl) (fun q2 => ?_)
  refine r_putF (pc := 18) (p := 0) [(a, .inr (10, [.null, .null, .ref q1, .ref q2, .int 0, .int 0, .int 0, .int 0, .int 0])), (q1, .inl (cy 0, 176, .inl (fun _ => 0))), (q2, .inl (cy 1, 32, .inr (.inl (fun _ => 0))))] X.1 X.2.1 dX10_init_18 pF_X10_15 rfl rfl rfl (Nat.le_of_ble_eq_true rfl) rfl ?_
  refine w_aload_n (pc := 21) 0 X.1.1 dX10_init_21 rfl ?_
  refine w_aload_n (pc := 22) 1 X.1.1 dX10_init_22 rfl ?_
  refine r_putF (pc := 23) (p := 0) [(a, .inr (10, [.ref r1, .null, .ref q1, .ref q2, .int 0, .int 0, .int 0, .int 0, .int 0])), (q1, .inl (cy 0, 176, .inl (fun _ => 0))), (q2, .inl (cy 1, 32, .inr (.inl (fun _ => 0))))] X.1 X.2.1 dX10_init_23 pF_X10_19 rfl rfl rfl (Nat.le_of_ble_eq_true rfl) rfl ?_
  refine w_aload_n (pc := 26) 0 X.1.1 dX10_init_26 rfl ?_
  refine w_aload_n (pc := 27) 2 X.1.1 dX10_init_27 rfl ?_
  refine r_putF (pc := 28) (p := 0) [(a, .inr (10, [.ref r1, .ref r2, .ref q1, .ref q2, .int 0, .int 0, .int 0, .int 0, .int 0])), (q1, .inl (cy 0, 176, .inl (fun _ => 0))), (q2, .inl (cy 1, 32, .inr (.inl (fun _ => 0))))] X.1 X.2.1 dX10_init_28 pF_X10_23 rfl rfl rfl (Nat.le_of_ble_eq_true rfl) rfl ?_
  refine w_aload_n (pc := 31) 0 X.1.1 dX10_init_31 rfl ?_
  refine r_callV (pc := 32) (k := 206) (ci := 10) (As := []) (rest := []) (S := wyC) (q := qW qs a q1 q2 r1 r2) (h := h00) (h' := hr) X dX10_init_32 ml_X10_27 ck_X10_fillFew cv_X10_fillFew (List.mem_of_getElem? (i := 0) rfl) rfl (Nat.le_of_ble_eq_true rfl) ⟨Nat.le_of_ble_eq_true rfl, Nat.le_of_ble_eq_true rfl⟩ rfl (Nat.le_of_ble_eq_true rfl) rfl rfl wyn rfl (tX10_fillFew (l, qW qs a q1 q2 r1 r2, D, cy, wyC) wyh h00 hr e) ?_
  exact r_vret (pc := 35) X dX10_init_35 ⟨_, hr, rfl, rfl, rfl, fct, rfl⟩
