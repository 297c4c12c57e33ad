theorem dX0_init_0 : decode cX0_init 0 = .ok (.aload_n 0, 1) := by decide +kernel
theorem dX0_init_1 : decode cX0_init 1 = .ok (.invokespecial 3, 3) := by decide +kernel
theorem dX0_init_4 : decode cX0_init 4 = .ok (.aload_n 0, 1) := by decide +kernel
theorem dX0_init_5 : decode cX0_init 5 = .ok (.bipush 10, 2) := by decide +kernel
theorem dX0_init_7 : decode cX0_init 7 = .ok (.newarray .int, 2) := by decide +kernel
theorem dX0_init_9 : decode cX0_init 9 = .ok (.putfield 9, 3) := by decide +kernel
theorem dX0_init_12 : decode cX0_init 12 = .ok (.aload_n 0, 1) := by decide +kernel
theorem dX0_init_13 : decode cX0_init 13 = .ok (.iconst 4, 1) := by decide +kernel
theorem dX0_init_14 : decode cX0_init 14 = .ok (.newarray .int, 2) := by decide +kernel
theorem dX0_init_16 : decode cX0_init 16 = .ok (.putfield 15, 3) := by decide +kernel
theorem dX0_init_19 : decode cX0_init 19 = .ok (.aload_n 0, 1) := by decide +kernel
theorem dX0_init_20 : decode cX0_init 20 = .ok (.bipush 10, 2) := by decide +kernel
theorem dX0_init_22 : decode cX0_init 22 = .ok (.anewarray 18, 3) := by decide +kernel
theorem dX0_init_25 : decode cX0_init 25 = .ok (.putfield 20, 3) := by decide +kernel
theorem dX0_init_28 : decode cX0_init 28 = .ok (.aload_n 0, 1) := by decide +kernel
theorem dX0_init_29 : decode cX0_init 29 = .ok (.sipush 400, 3) := by decide +kernel
theorem dX0_init_32 : decode cX0_init 32 = .ok (.newarray .int, 2) := by decide +kernel
theorem dX0_init_34 : decode cX0_init 34 = .ok (.putfield 24, 3) := by decide +kernel
theorem dX0_init_37 : decode cX0_init 37 = .ok (.aload_n 0, 1) := by decide +kernel
theorem dX0_init_38 : decode cX0_init 38 = .ok (.iconst 3, 1) := by decide +kernel
theorem dX0_init_39 : decode cX0_init 39 = .ok (.newarray .int, 2) := by decide +kernel
theorem dX0_init_41 : decode cX0_init 41 = .ok (.putfield 27, 3) := by decide +kernel
theorem dX0_init_44 : decode cX0_init 44 = .ok (.aload_n 0, 1) := by decide +kernel
theorem dX0_init_45 : decode cX0_init 45 = .ok (.iconst 3, 1) := by decide +kernel
theorem dX0_init_46 : decode cX0_init 46 = .ok (.newarray .int, 2) := by decide +kernel
theorem dX0_init_48 : decode cX0_init 48 = .ok (.putfield 30, 3) := by decide +kernel
theorem dX0_init_51 : decode cX0_init 51 = .ok (.iconst 0, 1) := by decide +kernel
theorem dX0_init_52 : decode cX0_init 52 = .ok (.istore_n 1, 1) := by decide +kernel
theorem dX0_init_53 : decode cX0_init 53 = .ok (.iload_n 1, 1) := by decide +kernel
theorem dX0_init_54 : decode cX0_init 54 = .ok (.bipush 10, 2) := by decide +kernel
theorem dX0_init_56 : decode cX0_init 56 = .ok (.if_icmp .ge 22, 3) := by decide +kernel
theorem dX0_init_59 : decode cX0_init 59 = .ok (.aload_n 0, 1) := by decide +kernel
theorem dX0_init_60 : decode cX0_init 60 = .ok (.getfield 20, 3) := by decide +kernel
theorem dX0_init_63 : decode cX0_init 63 = .ok (.iload_n 1, 1) := by decide +kernel
theorem dX0_init_64 : decode cX0_init 64 = .ok (.new 18, 3) := by decide +kernel
theorem dX0_init_67 : decode cX0_init 67 = .ok (.dup, 1) := by decide +kernel
theorem dX0_init_68 : decode cX0_init 68 = .ok (.invokespecial 33, 3) := by decide +kernel
theorem dX0_init_71 : decode cX0_init 71 = .ok (.aastore, 1) := by decide +kernel
theorem dX0_init_72 : decode cX0_init 72 = .ok (.iinc 1 1, 3) := by decide +kernel
theorem dX0_init_75 : decode cX0_init 75 = .ok (.goto (-22), 3) := by decide +kernel
theorem dX0_init_78 : decode cX0_init 78 = .ok (.aload_n 0, 1) := by decide +kernel
theorem dX0_init_79 : decode cX0_init 79 = .ok (.invokevirtual 34, 3) := by decide +kernel
theorem dX0_init_82 : decode cX0_init 82 = .ok (.return_, 1) := by decide +kernel
theorem ml_X0_34 : Cond.methodLink "AfterOffice$Book" 34 yX0_clear ∈ TB := tb_mem (tb_tab (tt_1 (List.mem_of_getElem? (i := 186) rfl))) rfl
theorem ml_oi_X0 : Cond.methodLink "AfterOffice$Book" 3 Lib.objectInit ∈ TB := tb_mem (tb_tab (tt_1 (List.mem_of_getElem? (i := 129) rfl))) rfl
theorem pF_X0_9 : ∃ (C : String) (TT : u_T) (N : Nat) (ty0 : Nat → FieldType), vwCl[0]? = some (C, TT, N) ∧ (∀ w ∈ u_ws C TT N, w ∈ TB) ∧ 0 < N ∧ Cond.fieldLink "AfterOffice$Book" 9 C (TT 0).2.1 (TT 0).2.2.1 ∈ TB ∧ (TT 0).1 = C ∧ (∀ k, k < N → parseFieldDescriptor (TT k).2.2.1 = some (ty0 k)) ∧ (∀ a, a < N → ∀ b, b < N → a ≠ b → (TT a).2.1 ≠ (TT b).2.1) ∧ (TT 0).2.2.2 = true ∧ parseFieldDescriptor (TT 0).2.2.1 = some (tyX0 0) ∧ C = "AfterOffice$Book" := ⟨_, _, _, tyX0, rfl, inX0, by decide, tb_mem (tb_tab (tt_1 (List.mem_of_getElem? (i := 193) rfl))) rfl, rfl, tyX0_ok, nmX0, rfl, tyX0_ok 0 (by decide), rfl⟩
theorem pF_X0_15 : ∃ (C : String) (TT : u_T) (N : Nat) (ty0 : Nat → FieldType), vwCl[0]? = some (C, TT, N) ∧ (∀ w ∈ u_ws C TT N, w ∈ TB) ∧ 1 < N ∧ Cond.fieldLink "AfterOffice$Book" 15 C (TT 1).2.1 (TT 1).2.2.1 ∈ TB ∧ (TT 1).1 = C ∧ (∀ k, k < N → parseFieldDescriptor (TT k).2.2.1 = some (ty0 k)) ∧ (∀ a, a < N → ∀ b, b < N → a ≠ b → (TT a).2.1 ≠ (TT b).2.1) ∧ (TT 1).2.2.2 = true ∧ parseFieldDescriptor (TT 1).2.2.1 = some (tyX0 1) ∧ C = "AfterOffice$Book" := ⟨_, _, _, tyX0, rfl, inX0, by decide, tb_mem (tb_tab (tt_1 (List.mem_of_getElem? (i := 196) rfl))) rfl, rfl, tyX0_ok, nmX0, rfl, tyX0_ok 1 (by decide), rfl⟩
theorem clk_X0_18 : Cond.classLink "AfterOffice$Book" 18 "AfterOffice$Letter" ∈ TB := tb_mem (tb_tab (tt_1 (List.mem_of_getElem? (i := 130) rfl))) rfl
theorem pF_X0_20 : ∃ (C : String) (TT : u_T) (N : Nat) (ty0 : Nat → FieldType), vwCl[0]? = some (C, TT, N) ∧ (∀ w ∈ u_ws C TT N, w ∈ TB) ∧ 2 < N ∧ Cond.fieldLink "AfterOffice$Book" 20 C (TT 2).2.1 (TT 2).2.2.1 ∈ TB ∧ (TT 2).1 = C ∧ (∀ k, k < N → parseFieldDescriptor (TT k).2.2.1 = some (ty0 k)) ∧ (∀ a, a < N → ∀ b, b < N → a ≠ b → (TT a).2.1 ≠ (TT b).2.1) ∧ (TT 2).2.2.2 = true ∧ parseFieldDescriptor (TT 2).2.2.1 = some (tyX0 2) ∧ C = "AfterOffice$Book" := ⟨_, _, _, tyX0, rfl, inX0, by decide, tb_mem (tb_tab (tt_1 (List.mem_of_getElem? (i := 199) rfl))) rfl, rfl, tyX0_ok, nmX0, rfl, tyX0_ok 2 (by decide), rfl⟩
theorem pF_X0_24 : ∃ (C : String) (TT : u_T) (N : Nat) (ty0 : Nat → FieldType), vwCl[0]? = some (C, TT, N) ∧ (∀ w ∈ u_ws C TT N, w ∈ TB) ∧ 3 < N ∧ Cond.fieldLink "AfterOffice$Book" 24 C (TT 3).2.1 (TT 3).2.2.1 ∈ TB ∧ (TT 3).1 = C ∧ (∀ k, k < N → parseFieldDescriptor (TT k).2.2.1 = some (ty0 k)) ∧ (∀ a, a < N → ∀ b, b < N → a ≠ b → (TT a).2.1 ≠ (TT b).2.1) ∧ (TT 3).2.2.2 = true ∧ parseFieldDescriptor (TT 3).2.2.1 = some (tyX0 3) ∧ C = "AfterOffice$Book" := ⟨_, _, _, tyX0, rfl, inX0, by decide, tb_mem (tb_tab (tt_1 (List.mem_of_getElem? (i := 206) rfl))) rfl, rfl, tyX0_ok, nmX0, rfl, tyX0_ok 3 (by decide), rfl⟩
theorem pF_X0_27 : ∃ (C : String) (TT : u_T) (N : Nat) (ty0 : Nat → FieldType), vwCl[0]? = some (C, TT, N) ∧ (∀ w ∈ u_ws C TT N, w ∈ TB) ∧ 4 < N ∧ Cond.fieldLink "AfterOffice$Book" 27 C (TT 4).2.1 (TT 4).2.2.1 ∈ TB ∧ (TT 4).1 = C ∧ (∀ k, k < N → parseFieldDescriptor (TT k).2.2.1 = some (ty0 k)) ∧ (∀ a, a < N → ∀ b, b < N → a ≠ b → (TT a).2.1 ≠ (TT b).2.1) ∧ (TT 4).2.2.2 = true ∧ parseFieldDescriptor (TT 4).2.2.1 = some (tyX0 4) ∧ C = "AfterOffice$Book" := ⟨_, _, _, tyX0, rfl, inX0, by decide, tb_mem (tb_tab (tt_1 (List.mem_of_getElem? (i := 209) rfl))) rfl, rfl, tyX0_ok, nmX0, rfl, tyX0_ok 4 (by decide), rfl⟩
theorem pF_X0_30 : ∃ (C : String) (TT : u_T) (N : Nat) (ty0 : Nat → FieldType), vwCl[0]? = some (C, TT, N) ∧ (∀ w ∈ u_ws C TT N, w ∈ TB) ∧ 5 < N ∧ Cond.fieldLink "AfterOffice$Book" 30 C (TT 5).2.1 (TT 5).2.2.1 ∈ TB ∧ (TT 5).1 = C ∧ (∀ k, k < N → parseFieldDescriptor (TT k).2.2.1 = some (ty0 k)) ∧ (∀ a, a < N → ∀ b, b < N → a ≠ b → (TT a).2.1 ≠ (TT b).2.1) ∧ (TT 5).2.2.2 = true ∧ parseFieldDescriptor (TT 5).2.2.1 = some (tyX0 5) ∧ C = "AfterOffice$Book" := ⟨_, _, _, tyX0, rfl, inX0, by decide, tb_mem (tb_tab (tt_1 (List.mem_of_getElem? (i := 212) rfl))) rfl, rfl, tyX0_ok, nmX0, rfl, tyX0_ok 5 (by decide), rfl⟩
theorem nw_X0_18 : NWd "AfterOffice$Book" 18 4 8 TX4 tyX4 := ⟨RX4, rfl, inX4, tyX4_ok, tb_mem (tb_tab (tt_1 (List.mem_of_getElem? (i := 130) rfl))) rfl, tb_mem (tb_tab (tt_1 (List.mem_of_getElem? (i := 132) rfl))) rfl, tb_mem (tb_tab (tt_1 (List.mem_of_getElem? (i := 9) rfl))) rfl⟩
theorem nf_X4 : ∀ j, j < 8 → defaultValue (tyX4 j) = vp_V [.int 0, .int 0, .int 0, .int 0, .int 0, .int 0, .int 0, .int 0] j := fun j hj => match j, hj with
  | 0, _ => rfl
  | 1, _ => rfl
  | 2, _ => rfl
  | 3, _ => rfl
  | 4, _ => rfl
  | 5, _ => rfl
  | 6, _ => rfl
  | 7, _ => rfl
  | n + 8, h => absurd h (by omega)
theorem mlc_X0_33 : Cond.methodLinkNest "AfterOffice$Book" 33 yX4_init "AfterOffice" ∈ lw_tbl := tb_tab (tt_1 (List.mem_of_getElem? (i := 133) rfl))
theorem imc_X4 : Cond.instanceMethod yX4_init ∈ TB := tb_mem (tb_tab (tt_1 (List.mem_of_getElem? (i := 134) rfl))) rfl
theorem ck_X4_init : CK yX4_init cX4_init 1 none 0 := ⟨tb_mem (tb_tab (tt_1 (List.mem_of_getElem? (i := 135) rfl))) rfl, tb_mem (tb_tab (tt_1 (List.mem_of_getElem? (i := 9) rfl))) rfl, by decide, by decide⟩
def BK7 (cy : Nat → ClassId) (a q1 q2 q3 q4 q5 q6 : Nat) (F : Nat → Option Nat) : va_W := [(a, .inr (0, [.ref q1, .ref q2, .ref q3, .ref q4, .ref q5, .ref q6, .int 0, .int 0, .int 0, .int 0, .int 0, .int 0])), (q1, .inl (cy 0, 10, .inl (fun _ => 0))), (q2, .inl (cy 0, 4, .inl (fun _ => 0))), (q3, .inl (cy 5, 10, .inr (.inr (.inr (.inr F))))), (q4, .inl (cy 0, 400, .inl (fun _ => 0))), (q5, .inl (cy 0, 3, .inl (fun _ => 0))), (q6, .inl (cy 0, 3, .inl (fun _ => 0)))]
theorem bk_at {α : Type} {A L : List α} {x : α} {n : Nat} (h : A.length = n) : ((A ++ L) ++ [x])[n + L.length]? = some x := by
  rw [List.getElem?_append_right (by rw [List.length_append]; omega), List.length_append, h, Nat.sub_self]
  rfl
theorem bk_10 : ∀ i, i < 10 → ¬ (10 : Int32) ≤ nI i ∧ inb (nI i) 10 = true := by decide +kernel
set_option maxRecDepth 20000 in
theorem bk_round {l : Launch} {qs : Nat → Nat} {D : va_G} {cy : Nat → ClassId} {G : GT} {Post : va_W → Prop} {a q1 q2 q3 q4 q5 q6 : Nat} {F : Nat → Option Nat} {L : va_W} {ca sl : Nat} (X : CI l qs D cy G cX0_init yX0_init.cls 2 2 16 510 Post) (i : Nat) (hi : i < 10) (hc : ca + 1 ≤ 16) (hs : sl + 8 ≤ 510) (k : ∀ o, JW (RW D G.2.2.1 (BK7 cy a q1 q2 q3 q4 q5 q6 (va_up F i (some o)) ++ (L ++ [(o, .inr (4, [.int 0, .int 0, .int 0, .int 0, .int 0, .int 0, .int 0, .int 0]))]))) l G (ca + 1) (sl + 8) 2 53 [(0, .ref a), (1, .int (nI (i + 1)))] []) : JW (RW D G.2.2.1 (BK7 cy a q1 q2 q3 q4 q5 q6 F ++ L)) l G ca sl 2 53 [(0, .ref a), (1, .int (nI i))] [] := by
  refine w_iload_n (pc := 53) 1 X.1.1 dX0_init_53 rfl ?_
  refine w_bipush (pc := 54) 10 X.1.1 dX0_init_54 rfl ?_
  refine w_icmp_ge (pc := 56) 78 X.1.1 dX0_init_56 rfl (fun c => absurd c (bk_10 i hi).1) (fun _ => ?_)
  refine w_aload_n (pc := 59) 0 X.1.1 dX0_init_59 rfl ?_
  refine r_get (pc := 60) (p := 0) X.1 dX0_init_60 fl_X0_20 rfl rfl ?_
  refine w_iload_n (pc := 63) 1 X.1.1 dX0_init_63 rfl ?_
  refine r_new (pc := 64) [.int 0, .int 0, .int 0, .int 0, .int 0, .int 0, .int 0, .int 0] X.1 dX0_init_64 nw_X0_18 nf_X4 (by rw [X.2.2.1]; exact hc) (by rw [X.2.2.1]; exact hs) (fun o => ?_)
  refine w_dup (pc := 67) X.1.1 dX0_init_67 rfl ?_
  refine r_callIN (pc := 68) (n' := 1) (mc' := 0) (ms' := 0) (As := []) (rest := [.ref o, .int (nI i), .ref q3]) (Post' := fun w1 => w1 = [(o, .inr (4, [.int 0, .int 0, .int 0, .int 0, .int 0, .int 0, .int 0, .int 0]))]) (BK7 cy a q1 q2 q3 q4 q5 q6 F ++ L) X dX0_init_68 mlc_X0_33 ck_X4_init imc_X4 rfl (Nat.le_of_ble_eq_true rfl) ⟨hc, hs⟩ rfl (Nat.le_of_ble_eq_true rfl) rfl rfl (fun sz => tX4_init l qs D cy o sz) ?_
  rintro _ rfl
  refine r_aast (pc := 71) (p0 := 3) (p1 := 7 + L.length) (t := 5) (ci := 4) (r := (RX4, TX4, 8)) (N := 10) ((BK7 cy a q1 q2 q3 q4 q5 q6 (va_up F i (some o)) ++ L) ++ [(o, .inr (4, [.int 0, .int 0, .int 0, .int 0, .int 0, .int 0, .int 0, .int 0]))]) X.1 dX0_init_71 rfl rfl (bk_at rfl) rfl (bk_10 i hi).2 ?_ ?_
  · rw [show ix (nI i) = i from nI_ix (by omega)]
    rfl
  refine w_iinc (pc := 72) 1 (nI (i + 1)) [(1, .int (nI (i + 1))), (0, .ref a)] X.1.1 dX0_init_72 rfl (nI_add i 1) (by decide) rfl ?_
  refine w_goto (pc := 75) 53 X.1.1 dX0_init_75 rfl ?_
  refine w_lv [(0, .ref a), (1, .int (nI (i + 1)))] [1, 0] rfl ?_
  rw [List.append_assoc]
  exact k o
theorem bk_fn {o0 o1 o2 o3 o4 o5 o6 o7 o8 o9 : Nat} : (va_up (va_up (va_up (va_up (va_up (va_up (va_up (va_up (va_up (va_up (fun _ => none) 0 (some o0)) 1 (some o1)) 2 (some o2)) 3 (some o3)) 4 (some o4)) 5 (some o5)) 6 (some o6)) 7 (some o7)) 8 (some o8)) 9 (some o9)) = (fun j : Nat => ([o0, o1, o2, o3, o4, o5, o6, o7, o8, o9] : List Nat)[j]?) := by
  funext j
  match j with
  | 0 => rfl
  | 1 => rfl
  | 2 => rfl
  | 3 => rfl
  | 4 => rfl
  | 5 => rfl
  | 6 => rfl
  | 7 => rfl
  | 8 => rfl
  | 9 => rfl
  | n + 10 =>
    have e : ([o0, o1, o2, o3, o4, o5, o6, o7, o8, o9] : List Nat)[n + 10]? = none := List.getElem?_eq_none (by show 10 ≤ n + 10; omega)
    simp [va_up]
theorem C_clr108 : ∃ c, fX0_clear 108 h00 = some c ∧ c.1 108 6 = 0 ∧ c.1 108 7 = 0 ∧ c.1 108 8 = 0 ∧ c.1 108 9 = 0 ∧ c.1 108 10 = 10 ∧ c.1 108 11 = 0 ∧ (∀ r, r < 3 → c.1 113 r = -1) := by
  let h6 := wI (wI (wI (wI (wI (wI h00 108 6 0) 108 7 0) 108 8 0) 108 9 0) 108 10 10) 108 11 0
  obtain ⟨h7, e7, a7, b7⟩ := C_fillA (k := 110) (n := 4) (by decide) 0 h6
  obtain ⟨h8, e8, a8, b8⟩ := C_fillA (k := 113) (n := 3) (by decide) (-1) h7
  obtain ⟨h9, e9, a9, b9⟩ := C_fillA (k := 114) (n := 3) (by decide) (-1) h8
  have cl : fX0_clear 108 h00 = some h9 := by
    unfold fX0_clear
    rw [lt_q, lt_q, lt_q, lt_q, lt_q, lt_q]
    show bv (fJ7_fill_53178 110 4 0 h6) (fun h7 => bv (fJ7_fill_53178 113 3 (-1) h7) (fun h8 => bv (fJ7_fill_53178 114 3 (-1) h8) (fun h9 => some h9))) = some h9
    rw [e7, bv_q, e8, bv_q, e9, bv_q]
  have g6 : ∀ j, h9.1 108 j = h6.1 108 j := fun j => by rw [b9.i 108 j rfl, b8.i 108 j rfl, b7.i 108 j rfl]
  refine ⟨h9, cl, by rw [g6]; rfl, by rw [g6]; rfl, by rw [g6]; rfl, by rw [g6]; rfl, by rw [g6]; rfl, by rw [g6]; rfl, fun r hr => ?_⟩
  rw [b9.i 113 r rfl]
  exact a8 r hr
theorem C_clr125 : ∃ c, fX0_clear 125 h00 = some c := by
  let h6 := wI (wI (wI (wI (wI (wI h00 125 6 0) 125 7 0) 125 8 0) 125 9 0) 125 10 10) 125 11 0
  obtain ⟨h7, e7, a7, b7⟩ := C_fillA (k := 127) (n := 4) (by decide) 0 h6
  obtain ⟨h8, e8, a8, b8⟩ := C_fillA (k := 130) (n := 3) (by decide) (-1) h7
  obtain ⟨h9, e9, a9, b9⟩ := C_fillA (k := 131) (n := 3) (by decide) (-1) h8
  refine ⟨h9, ?_⟩
  unfold fX0_clear
  rw [lt_q, lt_q, lt_q, lt_q, lt_q, lt_q]
  show bv (fJ7_fill_53178 127 4 0 h6) (fun h7 => bv (fJ7_fill_53178 130 3 (-1) h7) (fun h8 => bv (fJ7_fill_53178 131 3 (-1) h8) (fun h9 => some h9))) = some h9
  rw [e7, bv_q, e8, bv_q, e9, bv_q]
def bkC_108 : List (Nat × Shp) := [(108, .inl (0, [some 109, some 110, some 111, some 112, some 113, some 114, none, none, none, none, none, none])), (109, .inr (.inl (0, 10))), (110, .inr (.inl (0, 4))), (111, .inr (.inr (5, [115, 116, 117, 118, 119, 120, 121, 122, 123, 124]))), (112, .inr (.inl (0, 400))), (113, .inr (.inl (0, 3))), (114, .inr (.inl (0, 3))), (115, .inl (4, [none, none, none, none, none, none, none, none])), (116, .inl (4, [none, none, none, none, none, none, none, none])), (117, .inl (4, [none, none, none, none, none, none, none, none])), (118, .inl (4, [none, none, none, none, none, none, none, none])), (119, .inl (4, [none, none, none, none, none, none, none, none])), (120, .inl (4, [none, none, none, none, none, none, none, none])), (121, .inl (4, [none, none, none, none, none, none, none, none])), (122, .inl (4, [none, none, none, none, none, none, none, none])), (123, .inl (4, [none, none, none, none, none, none, none, none])), (124, .inl (4, [none, none, none, none, none, none, none, none]))]
theorem bkn_108 : nd bkC_108 := by unfold nd bkC_108; decide
theorem bkh_108 : ∀ e, e ∈ bkS 108 → e ∈ bkC_108 := by
  intro e he
  simp only [bkS, List.mem_cons, List.not_mem_nil, or_false] at he
  rcases he with rfl | rfl | rfl | rfl
  · exact List.mem_of_getElem? (i := 0) rfl
  · exact List.mem_of_getElem? (i := 2) rfl
  · exact List.mem_of_getElem? (i := 5) rfl
  · exact List.mem_of_getElem? (i := 6) rfl
def qB108 (qs : Nat → Nat) (a q1 q2 q3 q4 q5 q6 o0 o1 o2 o3 o4 o5 o6 o7 o8 o9 : Nat) : Nat → Nat := (fun k => if k = 999 then qs 999 else [a, q1, q2, q3, q4, q5, q6, o0, o1, o2, o3, o4, o5, o6, o7, o8, o9].getD (k - 108) 0)
set_option maxRecDepth 40000 in
theorem bk_eq108 {qs : Nat → Nat} {cy : Nat → ClassId} {a q1 q2 q3 q4 q5 q6 o0 o1 o2 o3 o4 o5 o6 o7 o8 o9 : Nat} : BK7 cy a q1 q2 q3 q4 q5 q6 (va_up (va_up (va_up (va_up (va_up (va_up (va_up (va_up (va_up (va_up (fun _ => none) 0 (some o0)) 1 (some o1)) 2 (some o2)) 3 (some o3)) 4 (some o4)) 5 (some o5)) 6 (some o6)) 7 (some o7)) 8 (some o8)) 9 (some o9)) ++ (((((((((([] ++ [(o0, .inr (4, [.int 0, .int 0, .int 0, .int 0, .int 0, .int 0, .int 0, .int 0]))]) ++ [(o1, .inr (4, [.int 0, .int 0, .int 0, .int 0, .int 0, .int 0, .int 0, .int 0]))]) ++ [(o2, .inr (4, [.int 0, .int 0, .int 0, .int 0, .int 0, .int 0, .int 0, .int 0]))]) ++ [(o3, .inr (4, [.int 0, .int 0, .int 0, .int 0, .int 0, .int 0, .int 0, .int 0]))]) ++ [(o4, .inr (4, [.int 0, .int 0, .int 0, .int 0, .int 0, .int 0, .int 0, .int 0]))]) ++ [(o5, .inr (4, [.int 0, .int 0, .int 0, .int 0, .int 0, .int 0, .int 0, .int 0]))]) ++ [(o6, .inr (4, [.int 0, .int 0, .int 0, .int 0, .int 0, .int 0, .int 0, .int 0]))]) ++ [(o7, .inr (4, [.int 0, .int 0, .int 0, .int 0, .int 0, .int 0, .int 0, .int 0]))]) ++ [(o8, .inr (4, [.int 0, .int 0, .int 0, .int 0, .int 0, .int 0, .int 0, .int 0]))]) ++ [(o9, .inr (4, [.int 0, .int 0, .int 0, .int 0, .int 0, .int 0, .int 0, .int 0]))]) = WD bkC_108 (qB108 qs a q1 q2 q3 q4 q5 q6 o0 o1 o2 o3 o4 o5 o6 o7 o8 o9) cy h00 := by
  rw [bk_fn]
  have e : (fun j : Nat => ([o0, o1, o2, o3, o4, o5, o6, o7, o8, o9] : List Nat)[j]?) = (fun j : Nat => (([115, 116, 117, 118, 119, 120, 121, 122, 123, 124] : List Nat)[j]?).map (qB108 qs a q1 q2 q3 q4 q5 q6 o0 o1 o2 o3 o4 o5 o6 o7 o8 o9)) := by
    funext j
    match j with
    | 0 => rfl
    | 1 => rfl
    | 2 => rfl
    | 3 => rfl
    | 4 => rfl
    | 5 => rfl
    | 6 => rfl
    | 7 => rfl
    | 8 => rfl
    | 9 => rfl
    | n + 10 =>
      have e1 : ([o0, o1, o2, o3, o4, o5, o6, o7, o8, o9] : List Nat)[n + 10]? = none := List.getElem?_eq_none (by show 10 ≤ n + 10; omega)
      have e2 : ([115, 116, 117, 118, 119, 120, 121, 122, 123, 124] : List Nat)[n + 10]? = none := List.getElem?_eq_none (by show 10 ≤ n + 10; omega)
      rw [e1, e2]
      rfl
  rw [e]
  rfl
def bkF (c : Hp) : Prop := c.1 108 6 = 0 ∧ c.1 108 7 = 0 ∧ c.1 108 8 = 0 ∧ c.1 108 9 = 0 ∧ c.1 108 10 = 10 ∧ c.1 108 11 = 0 ∧ (∀ r, r < 3 → c.1 113 r = -1)
set_option maxRecDepth 40000 in
theorem tX0_init_108 (l : Launch) (K V : Nat) (f : Option Nat) (qs : Nat → Nat) (D : va_G) (cy : Nat → ClassId) (a sz : Nat) : MI2 l K V f qs D cy yX0_init cX0_init 2 2 16 510 [.ref a] a 0 sz [.null, .null, .null, .null, .null, .null, .int 0, .int 0, .int 0, .int 0, .int 0, .int 0] (fun w1 => ∃ (q : Nat → Nat) (h : Hp), q 108 = a ∧ bkF h ∧ w1 = WD bkC_108 q cy h) := by
  obtain ⟨hr, e, fct⟩ := C_clr108
  refine mi_start2 (by decide) rfl (Nat.le_of_ble_eq_true rfl) (fun G X S => ?_)
  refine w_aload_n (pc := 0) 0 X.1.1 dX0_init_0 rfl ?_
  refine r_obj (pc := 1) X dX0_init_1 ml_oi_X0 ml_oc (Nat.le_of_ble_eq_true rfl) (Nat.le_of_ble_eq_true rfl) ?_
  refine w_aload_n (pc := 4) 0 X.1.1 dX0_init_4 rfl ?_
  refine w_bipush (pc := 5) 10 X.1.1 dX0_init_5 rfl ?_
  refine r_newa (pc := 7) (N := 10) (a0 := (10, .inl (fun _ => 0))) 0 X.1 dX0_init_7 (fun _ => rfl) rfl ac_int (fun _ => rfl) (by decide) (by decide) (by decide) (by rw [X.2.2.1]; exact Nat.le_of_ble_eq_true rfl) (by rw [X.2.2.1]; exact Nat.le_of_ble_eq_true rfl) (fun q1 => ?_)
  refine r_putF (pc := 9) (p := 0) [(a, .inr (0, [.ref q1, .null, .null, .null, .null, .null, .int 0, .int 0, .int 0, .int 0, .int 0, .int 0])), (q1, .inl (cy 0, 10, .inl (fun _ => 0)))] X.1 X.2.1 dX0_init_9 pF_X0_9 rfl rfl rfl (Nat.le_of_ble_eq_true rfl) rfl ?_
  refine w_aload_n (pc := 12) 0 X.1.1 dX0_init_12 rfl ?_
  refine w_iconst (pc := 13) 4 X.1.1 dX0_init_13 rfl ?_
  refine r_newa (pc := 14) (N := 4) (a0 := (4, .inl (fun _ => 0))) 0 X.1 dX0_init_14 (fun _ => rfl) rfl ac_int (fun _ => rfl) (by decide) (by decide) (by decide) (by rw [X.2.2.1]; exact Nat.le_of_ble_eq_true rfl) (by rw [X.2.2.1]; exact Nat.le_of_ble_eq_true rfl) (fun q2 => ?_)
  refine r_putF (pc := 16) (p := 0) [(a, .inr (0, [.ref q1, .ref q2, .null, .null, .null, .null, .int 0, .int 0, .int 0, .int 0, .int 0, .int 0])), (q1, .inl (cy 0, 10, .inl (fun _ => 0))), (q2, .inl (cy 0, 4, .inl (fun _ => 0)))] X.1 X.2.1 dX0_init_16 pF_X0_15 rfl rfl rfl (Nat.le_of_ble_eq_true rfl) rfl ?_
  refine w_aload_n (pc := 19) 0 X.1.1 dX0_init_19 rfl ?_
  refine w_bipush (pc := 20) 10 X.1.1 dX0_init_20 rfl ?_
  refine r_anew2 (pc := 22) (N := 10) 5 X.1 dX0_init_22 (fun _ => rfl) clk_X0_18 S.2.2.2.2.1 (by decide) (by decide) (by decide) (by rw [X.2.2.1]; exact Nat.le_of_ble_eq_true rfl) (by rw [X.2.2.1]; exact Nat.le_of_ble_eq_true rfl) (fun q3 => ?_)
  refine r_putF (pc := 25) (p := 0) [(a, .inr (0, [.ref q1, .ref q2, .ref q3, .null, .null, .null, .int 0, .int 0, .int 0, .int 0, .int 0, .int 0])), (q1, .inl (cy 0, 10, .inl (fun _ => 0))), (q2, .inl (cy 0, 4, .inl (fun _ => 0))), (q3, .inl (cy 5, 10, .inr (.inr (.inr (.inr (fun _ => none))))))] X.1 X.2.1 dX0_init_25 pF_X0_20 rfl rfl rfl (Nat.le_of_ble_eq_true rfl) rfl ?_
  refine w_aload_n (pc := 28) 0 X.1.1 dX0_init_28 rfl ?_
  refine w_sipush (pc := 29) 400 X.1.1 dX0_init_29 rfl ?_
  refine r_newa (pc := 32) (N := 400) (a0 := (400, .inl (fun _ => 0))) 0 X.1 dX0_init_32 (fun _ => rfl) rfl ac_int (fun _ => rfl) (by decide) (by decide) (by decide) (by rw [X.2.2.1]; exact Nat.le_of_ble_eq_true rfl) (by rw [X.2.2.1]; exact Nat.le_of_ble_eq_true rfl) (fun q4 => ?_)
  refine r_putF (pc := 34) (p := 0) [(a, .inr (0, [.ref q1, .ref q2, .ref q3, .ref q4, .null, .null, .int 0, .int 0, .int 0, .int 0, .int 0, .int 0])), (q1, .inl (cy 0, 10, .inl (fun _ => 0))), (q2, .inl (cy 0, 4, .inl (fun _ => 0))), (q3, .inl (cy 5, 10, .inr (.inr (.inr (.inr (fun _ => none)))))), (q4, .inl (cy 0, 400, .inl (fun _ => 0)))] X.1 X.2.1 dX0_init_34 pF_X0_24 rfl rfl rfl (Nat.le_of_ble_eq_true rfl) rfl ?_
  refine w_aload_n (pc := 37) 0 X.1.1 dX0_init_37 rfl ?_
  refine w_iconst (pc := 38) 3 X.1.1 dX0_init_38 rfl ?_
  refine r_newa (pc := 39) (N := 3) (a0 := (3, .inl (fun _ => 0))) 0 X.1 dX0_init_39 (fun _ => rfl) rfl ac_int (fun _ => rfl) (by decide) (by decide) (by decide) (by rw [X.2.2.1]; exact Nat.le_of_ble_eq_true rfl) (by rw [X.2.2.1]; exact Nat.le_of_ble_eq_true rfl) (fun q5 => ?_)
  refine r_putF (pc := 41) (p := 0) [(a, .inr (0, [.ref q1, .ref q2, .ref q3, .ref q4, .ref q5, .null, .int 0, .int 0, .int 0, .int 0, .int 0, .int 0])), (q1, .inl (cy 0, 10, .inl (fun _ => 0))), (q2, .inl (cy 0, 4, .inl (fun _ => 0))), (q3, .inl (cy 5, 10, .inr (.inr (.inr (.inr (fun _ => none)))))), (q4, .inl (cy 0, 400, .inl (fun _ => 0))), (q5, .inl (cy 0, 3, .inl (fun _ => 0)))] X.1 X.2.1 dX0_init_41 pF_X0_27 rfl rfl rfl (Nat.le_of_ble_eq_true rfl) rfl ?_
  refine w_aload_n (pc := 44) 0 X.1.1 dX0_init_44 rfl ?_
  refine w_iconst (pc := 45) 3 X.1.1 dX0_init_45 rfl ?_
  refine r_newa (pc := 46) (N := 3) (a0 := (3, .inl (fun _ => 0))) 0 X.1 dX0_init_46 (fun _ => rfl) rfl ac_int (fun _ => rfl) (by decide) (by decide) (by decide) (by rw [X.2.2.1]; exact Nat.le_of_ble_eq_true rfl) (by rw [X.2.2.1]; exact Nat.le_of_ble_eq_true rfl) (fun q6 => ?_)
  refine r_putF (pc := 48) (p := 0) [(a, .inr (0, [.ref q1, .ref q2, .ref q3, .ref q4, .ref q5, .ref q6, .int 0, .int 0, .int 0, .int 0, .int 0, .int 0])), (q1, .inl (cy 0, 10, .inl (fun _ => 0))), (q2, .inl (cy 0, 4, .inl (fun _ => 0))), (q3, .inl (cy 5, 10, .inr (.inr (.inr (.inr (fun _ => none)))))), (q4, .inl (cy 0, 400, .inl (fun _ => 0))), (q5, .inl (cy 0, 3, .inl (fun _ => 0))), (q6, .inl (cy 0, 3, .inl (fun _ => 0)))] X.1 X.2.1 dX0_init_48 pF_X0_30 rfl rfl rfl (Nat.le_of_ble_eq_true rfl) rfl ?_
  refine w_iconst (pc := 51) 0 X.1.1 dX0_init_51 rfl ?_
  refine w_istore_n (pc := 52) [(1, .int 0), (0, .ref a)] X.1.1 dX0_init_52 (by decide) rfl ?_
  refine w_lv [(0, .ref a), (1, .int (nI 0))] [1, 0] rfl ?_
  show JW (RW D G.2.2.1 (BK7 cy a q1 q2 q3 q4 q5 q6 (fun _ => none) ++ [])) l G 6 430 2 53 [(0, .ref a), (1, .int (nI 0))] []
  refine bk_round (i := 0) X (by decide) (Nat.le_of_ble_eq_true rfl) (Nat.le_of_ble_eq_true rfl) (fun o0 => ?_)
  refine bk_round (i := 1) X (by decide) (Nat.le_of_ble_eq_true rfl) (Nat.le_of_ble_eq_true rfl) (fun o1 => ?_)
  refine bk_round (i := 2) X (by decide) (Nat.le_of_ble_eq_true rfl) (Nat.le_of_ble_eq_true rfl) (fun o2 => ?_)
  refine bk_round (i := 3) X (by decide) (Nat.le_of_ble_eq_true rfl) (Nat.le_of_ble_eq_true rfl) (fun o3 => ?_)
  refine bk_round (i := 4) X (by decide) (Nat.le_of_ble_eq_true rfl) (Nat.le_of_ble_eq_true rfl) (fun o4 => ?_)
  refine bk_round (i := 5) X (by decide) (Nat.le_of_ble_eq_true rfl) (Nat.le_of_ble_eq_true rfl) (fun o5 => ?_)
  refine bk_round (i := 6) X (by decide) (Nat.le_of_ble_eq_true rfl) (Nat.le_of_ble_eq_true rfl) (fun o6 => ?_)
  refine bk_round (i := 7) X (by decide) (Nat.le_of_ble_eq_true rfl) (Nat.le_of_ble_eq_true rfl) (fun o7 => ?_)
  refine bk_round (i := 8) X (by decide) (Nat.le_of_ble_eq_true rfl) (Nat.le_of_ble_eq_true rfl) (fun o8 => ?_)
  refine bk_round (i := 9) X (by decide) (Nat.le_of_ble_eq_true rfl) (Nat.le_of_ble_eq_true rfl) (fun o9 => ?_)
  refine w_iload_n (pc := 53) 1 X.1.1 dX0_init_53 rfl ?_
  refine w_bipush (pc := 54) 10 X.1.1 dX0_init_54 rfl ?_
  refine w_icmp_ge (pc := 56) 78 X.1.1 dX0_init_56 rfl (fun _ => ?_) (fun c => absurd (by decide) c)
  refine w_aload_n (pc := 78) 0 X.1.1 dX0_init_78 rfl ?_
  refine r_callV (pc := 79) (k := 108) (ci := 0) (As := []) (rest := []) (S := bkC_108) (q := (qB108 qs a q1 q2 q3 q4 q5 q6 o0 o1 o2 o3 o4 o5 o6 o7 o8 o9)) (h := h00) (h' := hr) X dX0_init_79 ml_X0_34 ck_X0_clear cv_X0_clear (List.mem_of_getElem? (i := 0) rfl) rfl (Nat.le_of_ble_eq_true rfl) ⟨Nat.le_of_ble_eq_true rfl, Nat.le_of_ble_eq_true rfl⟩ rfl (Nat.le_of_ble_eq_true rfl) rfl rfl bkn_108 bk_eq108 (tX0_clear (l, (qB108 qs a q1 q2 q3 q4 q5 q6 o0 o1 o2 o3 o4 o5 o6 o7 o8 o9), D, cy, bkC_108) 108 bkh_108 h00 hr e) ?_
  exact r_vret (pc := 82) X dX0_init_82 ⟨_, hr, rfl, fct, rfl⟩
def bkC_125 : List (Nat × Shp) := [(125, .inl (0, [some 126, some 127, some 128, some 129, some 130, some 131, none, none, none, none, none, none])), (126, .inr (.inl (0, 10))), (127, .inr (.inl (0, 4))), (128, .inr (.inr (5, [132, 133, 134, 135, 136, 137, 138, 139, 140, 141]))), (129, .inr (.inl (0, 400))), (130, .inr (.inl (0, 3))), (131, .inr (.inl (0, 3))), (132, .inl (4, [none, none, none, none, none, none, none, none])), (133, .inl (4, [none, none, none, none, none, none, none, none])), (134, .inl (4, [none, none, none, none, none, none, none, none])), (135, .inl (4, [none, none, none, none, none, none, none, none])), (136, .inl (4, [none, none, none, none, none, none, none, none])), (137, .inl (4, [none, none, none, none, none, none, none, none])), (138, .inl (4, [none, none, none, none, none, none, none, none])), (139, .inl (4, [none, none, none, none, none, none, none, none])), (140, .inl (4, [none, none, none, none, none, none, none, none])), (141, .inl (4, [none, none, none, none, none, none, none, none]))]
theorem bkn_125 : nd bkC_125 := by unfold nd bkC_125; decide
theorem bkh_125 : ∀ e, e ∈ bkS 125 → e ∈ bkC_125 := by
  intro e he
  simp only [bkS, List.mem_cons, List.not_mem_nil, or_false] at he
  rcases he with rfl | rfl | rfl | rfl
  · exact List.mem_of_getElem? (i := 0) rfl
  · exact List.mem_of_getElem? (i := 2) rfl
  · exact List.mem_of_getElem? (i := 5) rfl
  · exact List.mem_of_getElem? (i := 6) rfl
def qB125 (qs : Nat → Nat) (a q1 q2 q3 q4 q5 q6 o0 o1 o2 o3 o4 o5 o6 o7 o8 o9 : Nat) : Nat → Nat := (fun k => if k = 999 then qs 999 else [a, q1, q2, q3, q4, q5, q6, o0, o1, o2, o3, o4, o5, o6, o7, o8, o9].getD (k - 125) 0)
set_option maxRecDepth 40000 in
theorem bk_eq125 {qs : Nat → Nat} {cy : Nat → ClassId} {a q1 q2 q3 q4 q5 q6 o0 o1 o2 o3 o4 o5 o6 o7 o8 o9 : Nat} : BK7 cy a q1 q2 q3 q4 q5 q6 (va_up (va_up (va_up (va_up (va_up (va_up (va_up (va_up (va_up (va_up (fun _ => none) 0 (some o0)) 1 (some o1)) 2 (some o2)) 3 (some o3)) 4 (some o4)) 5 (some o5)) 6 (some o6)) 7 (some o7)) 8 (some o8)) 9 (some o9)) ++ (((((((((([] ++ [(o0, .inr (4, [.int 0, .int 0, .int 0, .int 0, .int 0, .int 0, .int 0, .int 0]))]) ++ [(o1, .inr (4, [.int 0, .int 0, .int 0, .int 0, .int 0, .int 0, .int 0, .int 0]))]) ++ [(o2, .inr (4, [.int 0, .int 0, .int 0, .int 0, .int 0, .int 0, .int 0, .int 0]))]) ++ [(o3, .inr (4, [.int 0, .int 0, .int 0, .int 0, .int 0, .int 0, .int 0, .int 0]))]) ++ [(o4, .inr (4, [.int 0, .int 0, .int 0, .int 0, .int 0, .int 0, .int 0, .int 0]))]) ++ [(o5, .inr (4, [.int 0, .int 0, .int 0, .int 0, .int 0, .int 0, .int 0, .int 0]))]) ++ [(o6, .inr (4, [.int 0, .int 0, .int 0, .int 0, .int 0, .int 0, .int 0, .int 0]))]) ++ [(o7, .inr (4, [.int 0, .int 0, .int 0, .int 0, .int 0, .int 0, .int 0, .int 0]))]) ++ [(o8, .inr (4, [.int 0, .int 0, .int 0, .int 0, .int 0, .int 0, .int 0, .int 0]))]) ++ [(o9, .inr (4, [.int 0, .int 0, .int 0, .int 0, .int 0, .int 0, .int 0, .int 0]))]) = WD bkC_125 (qB125 qs a q1 q2 q3 q4 q5 q6 o0 o1 o2 o3 o4 o5 o6 o7 o8 o9) cy h00 := by
  rw [bk_fn]
  have e : (fun j : Nat => ([o0, o1, o2, o3, o4, o5, o6, o7, o8, o9] : List Nat)[j]?) = (fun j : Nat => (([132, 133, 134, 135, 136, 137, 138, 139, 140, 141] : List Nat)[j]?).map (qB125 qs a q1 q2 q3 q4 q5 q6 o0 o1 o2 o3 o4 o5 o6 o7 o8 o9)) := by
    funext j
    match j with
    | 0 => rfl
    | 1 => rfl
    | 2 => rfl
    | 3 => rfl
    | 4 => rfl
    | 5 => rfl
    | 6 => rfl
    | 7 => rfl
    | 8 => rfl
    | 9 => rfl
    | n + 10 =>
      have e1 : ([o0, o1, o2, o3, o4, o5, o6, o7, o8, o9] : List Nat)[n + 10]? = none := List.getElem?_eq_none (by show 10 ≤ n + 10; omega)
      have e2 : ([132, 133, 134, 135, 136, 137, 138, 139, 140, 141] : List Nat)[n + 10]? = none := List.getElem?_eq_none (by show 10 ≤ n + 10; omega)
      rw [e1, e2]
      rfl
  rw [e]
  rfl
set_option maxRecDepth 40000 in
theorem tX0_init_125 (l : Launch) (K V : Nat) (f : Option Nat) (qs : Nat → Nat) (D : va_G) (cy : Nat → ClassId) (a sz : Nat) : MI2 l K V f qs D cy yX0_init cX0_init 2 2 16 510 [.ref a] a 0 sz [.null, .null, .null, .null, .null, .null, .int 0, .int 0, .int 0, .int 0, .int 0, .int 0] (fun w1 => ∃ (q : Nat → Nat) (h : Hp), q 125 = a ∧ w1 = WD bkC_125 q cy h) := by
  obtain ⟨hr, e⟩ := C_clr125
  refine mi_start2 (by decide) rfl (Nat.le_of_ble_eq_true rfl) (fun G X S => ?_)
  refine w_aload_n (pc := 0) 0 X.1.1 dX0_init_0 rfl ?_
  refine r_obj (pc := 1) X dX0_init_1 ml_oi_X0 ml_oc (Nat.le_of_ble_eq_true rfl) (Nat.le_of_ble_eq_true rfl) ?_
  refine w_aload_n (pc := 4) 0 X.1.1 dX0_init_4 rfl ?_
  refine w_bipush (pc := 5) 10 X.1.1 dX0_init_5 rfl ?_
  refine r_newa (pc := 7) (N := 10) (a0 := (10, .inl (fun _ => 0))) 0 X.1 dX0_init_7 (fun _ => rfl) rfl ac_int (fun _ => rfl) (by decide) (by decide) (by decide) (by rw [X.2.2.1]; exact Nat.le_of_ble_eq_true rfl) (by rw [X.2.2.1]; exact Nat.le_of_ble_eq_true rfl) (fun q1 => ?_)
  refine r_putF (pc := 9) (p := 0) [(a, .inr (0, [.ref q1, .null, .null, .null, .null, .null, .int 0, .int 0, .int 0, .int 0, .int 0, .int 0])), (q1, .inl (cy 0, 10, .inl (fun _ => 0)))] X.1 X.2.1 dX0_init_9 pF_X0_9 rfl rfl rfl (Nat.le_of_ble_eq_true rfl) rfl ?_
  refine w_aload_n (pc := 12) 0 X.1.1 dX0_init_12 rfl ?_
  refine w_iconst (pc := 13) 4 X.1.1 dX0_init_13 rfl ?_
  refine r_newa (pc := 14) (N := 4) (a0 := (4, .inl (fun _ => 0))) 0 X.1 dX0_init_14 (fun _ => rfl) rfl ac_int (fun _ => rfl) (by decide) (by decide) (by decide) (by rw [X.2.2.1]; exact Nat.le_of_ble_eq_true rfl) (by rw [X.2.2.1]; exact Nat.le_of_ble_eq_true rfl) (fun q2 => ?_)
  refine r_putF (pc := 16) (p := 0) [(a, .inr (0, [.ref q1, .ref q2, .null, .null, .null, .null, .int 0, .int 0, .int 0, .int 0, .int 0, .int 0])), (q1, .inl (cy 0, 10, .inl (fun _ => 0))), (q2, .inl (cy 0, 4, .inl (fun _ => 0)))] X.1 X.2.1 dX0_init_16 pF_X0_15 rfl rfl rfl (Nat.le_of_ble_eq_true rfl) rfl ?_
  refine w_aload_n (pc := 19) 0 X.1.1 dX0_init_19 rfl ?_
  refine w_bipush (pc := 20) 10 X.1.1 dX0_init_20 rfl ?_
  refine r_anew2 (pc := 22) (N := 10) 5 X.1 dX0_init_22 (fun _ => rfl) clk_X0_18 S.2.2.2.2.1 (by decide) (by decide) (by decide) (by rw [X.2.2.1]; exact Nat.le_of_ble_eq_true rfl) (by rw [X.2.2.1]; exact Nat.le_of_ble_eq_true rfl) (fun q3 => ?_)
  refine r_putF (pc := 25) (p := 0) [(a, .inr (0, [.ref q1, .ref q2, .ref q3, .null, .null, .null, .int 0, .int 0, .int 0, .int 0, .int 0, .int 0])), (q1, .inl (cy 0, 10, .inl (fun _ => 0))), (q2, .inl (cy 0, 4, .inl (fun _ => 0))), (q3, .inl (cy 5, 10, .inr (.inr (.inr (.inr (fun _ => none))))))] X.1 X.2.1 dX0_init_25 pF_X0_20 rfl rfl rfl (Nat.le_of_ble_eq_true rfl) rfl ?_
  refine w_aload_n (pc := 28) 0 X.1.1 dX0_init_28 rfl ?_
  refine w_sipush (pc := 29) 400 X.1.1 dX0_init_29 rfl ?_
  refine r_newa (pc := 32) (N := 400) (a0 := (400, .inl (fun _ => 0))) 0 X.1 dX0_init_32 (fun _ => rfl) rfl ac_int (fun _ => rfl) (by decide) (by decide) (by decide) (by rw [X.2.2.1]; exact Nat.le_of_ble_eq_true rfl) (by rw [X.2.2.1]; exact Nat.le_of_ble_eq_true rfl) (fun q4 => ?_)
  refine r_putF (pc := 34) (p := 0) [(a, .inr (0, [.ref q1, .ref q2, .ref q3, .ref q4, .null, .null, .int 0, .int 0, .int 0, .int 0, .int 0, .int 0])), (q1, .inl (cy 0, 10, .inl (fun _ => 0))), (q2, .inl (cy 0, 4, .inl (fun _ => 0))), (q3, .inl (cy 5, 10, .inr (.inr (.inr (.inr (fun _ => none)))))), (q4, .inl (cy 0, 400, .inl (fun _ => 0)))] X.1 X.2.1 dX0_init_34 pF_X0_24 rfl rfl rfl (Nat.le_of_ble_eq_true rfl) rfl ?_
  refine w_aload_n (pc := 37) 0 X.1.1 dX0_init_37 rfl ?_
  refine w_iconst (pc := 38) 3 X.1.1 dX0_init_38 rfl ?_
  refine r_newa (pc := 39) (N := 3) (a0 := (3, .inl (fun _ => 0))) 0 X.1 dX0_init_39 (fun _ => rfl) rfl ac_int (fun _ => rfl) (by decide) (by decide) (by decide) (by rw [X.2.2.1]; exact Nat.le_of_ble_eq_true rfl) (by rw [X.2.2.1]; exact Nat.le_of_ble_eq_true rfl) (fun q5 => ?_)
  refine r_putF (pc := 41) (p := 0) [(a, .inr (0, [.ref q1, .ref q2, .ref q3, .ref q4, .ref q5, .null, .int 0, .int 0, .int 0, .int 0, .int 0, .int 0])), (q1, .inl (cy 0, 10, .inl (fun _ => 0))), (q2, .inl (cy 0, 4, .inl (fun _ => 0))), (q3, .inl (cy 5, 10, .inr (.inr (.inr (.inr (fun _ => none)))))), (q4, .inl (cy 0, 400, .inl (fun _ => 0))), (q5, .inl (cy 0, 3, .inl (fun _ => 0)))] X.1 X.2.1 dX0_init_41 pF_X0_27 rfl rfl rfl (Nat.le_of_ble_eq_true rfl) rfl ?_
  refine w_aload_n (pc := 44) 0 X.1.1 dX0_init_44 rfl ?_
  refine w_iconst (pc := 45) 3 X.1.1 dX0_init_45 rfl ?_
  refine r_newa (pc := 46) (N := 3) (a0 := (3, .inl (fun _ => 0))) 0 X.1 dX0_init_46 (fun _ => rfl) rfl ac_int (fun _ => rfl) (by decide) (by decide) (by decide) (by rw [X.2.2.1]; exact Nat.le_of_ble_eq_true rfl) (by rw [X.2.2.1]; exact Nat.le_of_ble_eq_true rfl) (fun q6 => ?_)
  refine r_putF (pc := 48) (p := 0) [(a, .inr (0, [.ref q1, .ref q2, .ref q3, .ref q4, .ref q5, .ref q6, .int 0, .int 0, .int 0, .int 0, .int 0, .int 0])), (q1, .inl (cy 0, 10, .inl (fun _ => 0))), (q2, .inl (cy 0, 4, .inl (fun _ => 0))), (q3, .inl (cy 5, 10, .inr (.inr (.inr (.inr (fun _ => none)))))), (q4, .inl (cy 0, 400, .inl (fun _ => 0))), (q5, .inl (cy 0, 3, .inl (fun _ => 0))), (q6, .inl (cy 0, 3, .inl (fun _ => 0)))] X.1 X.2.1 dX0_init_48 pF_X0_30 rfl rfl rfl (Nat.le_of_ble_eq_true rfl) rfl ?_
  refine w_iconst (pc := 51) 0 X.1.1 dX0_init_51 rfl ?_
  refine w_istore_n (pc := 52) [(1, .int 0), (0, .ref a)] X.1.1 dX0_init_52 (by decide) rfl ?_
  refine w_lv [(0, .ref a), (1, .int (nI 0))] [1, 0] rfl ?_
  show JW (RW D G.2.2.1 (BK7 cy a q1 q2 q3 q4 q5 q6 (fun _ => none) ++ [])) l G 6 430 2 53 [(0, .ref a), (1, .int (nI 0))] []
  refine bk_round (i := 0) X (by decide) (Nat.le_of_ble_eq_true rfl) (Nat.le_of_ble_eq_true rfl) (fun o0 => ?_)
  refine bk_round (i := 1) X (by decide) (Nat.le_of_ble_eq_true rfl) (Nat.le_of_ble_eq_true rfl) (fun o1 => ?_)
  refine bk_round (i := 2) X (by decide) (Nat.le_of_ble_eq_true rfl) (Nat.le_of_ble_eq_true rfl) (fun o2 => ?_)
  refine bk_round (i := 3) X (by decide) (Nat.le_of_ble_eq_true rfl) (Nat.le_of_ble_eq_true rfl) (fun o3 => ?_)
  refine bk_round (i := 4) X (by decide) (Nat.le_of_ble_eq_true rfl) (Nat.le_of_ble_eq_true rfl) (fun o4 => ?_)
  refine bk_round (i := 5) X (by decide) (Nat.le_of_ble_eq_true rfl) (Nat.le_of_ble_eq_true rfl) (fun o5 => ?_)
  refine bk_round (i := 6) X (by decide) (Nat.le_of_ble_eq_true rfl) (Nat.le_of_ble_eq_true rfl) (fun o6 => ?_)
  refine bk_round (i := 7) X (by decide) (Nat.le_of_ble_eq_true rfl) (Nat.le_of_ble_eq_true rfl) (fun o7 => ?_)
  refine bk_round (i := 8) X (by decide) (Nat.le_of_ble_eq_true rfl) (Nat.le_of_ble_eq_true rfl) (fun o8 => ?_)
  refine bk_round (i := 9) X (by decide) (Nat.le_of_ble_eq_true rfl) (Nat.le_of_ble_eq_true rfl) (fun o9 => ?_)
  refine w_iload_n (pc := 53) 1 X.1.1 dX0_init_53 rfl ?_
  refine w_bipush (pc := 54) 10 X.1.1 dX0_init_54 rfl ?_
  refine w_icmp_ge (pc := 56) 78 X.1.1 dX0_init_56 rfl (fun _ => ?_) (fun c => absurd (by decide) c)
  refine w_aload_n (pc := 78) 0 X.1.1 dX0_init_78 rfl ?_
  refine r_callV (pc := 79) (k := 125) (ci := 0) (As := []) (rest := []) (S := bkC_125) (q := (qB125 qs a q1 q2 q3 q4 q5 q6 o0 o1 o2 o3 o4 o5 o6 o7 o8 o9)) (h := h00) (h' := hr) X dX0_init_79 ml_X0_34 ck_X0_clear cv_X0_clear (List.mem_of_getElem? (i := 0) rfl) rfl (Nat.le_of_ble_eq_true rfl) ⟨Nat.le_of_ble_eq_true rfl, Nat.le_of_ble_eq_true rfl⟩ rfl (Nat.le_of_ble_eq_true rfl) rfl rfl bkn_125 bk_eq125 (tX0_clear (l, (qB125 qs a q1 q2 q3 q4 q5 q6 o0 o1 o2 o3 o4 o5 o6 o7 o8 o9), D, cy, bkC_125) 125 bkh_125 h00 hr e) ?_
  exact r_vret (pc := 82) X dX0_init_82 ⟨_, hr, rfl, rfl⟩
