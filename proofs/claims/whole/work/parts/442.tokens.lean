theorem dX9_init_0 : decode cX9_init 0 = .ok (.aload_n 0, 1) := by decide +kernel
theorem dX9_init_1 : decode cX9_init 1 = .ok (.invokespecial 3, 3) := by decide +kernel
theorem dX9_init_4 : decode cX9_init 4 = .ok (.aload_n 0, 1) := by decide +kernel
theorem dX9_init_5 : decode cX9_init 5 = .ok (.sipush 401, 3) := by decide +kernel
theorem dX9_init_8 : decode cX9_init 8 = .ok (.newarray .int, 2) := by decide +kernel
theorem dX9_init_10 : decode cX9_init 10 = .ok (.putfield 9, 3) := by decide +kernel
theorem dX9_init_13 : decode cX9_init 13 = .ok (.aload_n 0, 1) := by decide +kernel
theorem dX9_init_14 : decode cX9_init 14 = .ok (.sipush 401, 3) := by decide +kernel
theorem dX9_init_17 : decode cX9_init 17 = .ok (.newarray .int, 2) := by decide +kernel
theorem dX9_init_19 : decode cX9_init 19 = .ok (.putfield 15, 3) := by decide +kernel
theorem dX9_init_22 : decode cX9_init 22 = .ok (.aload_n 0, 1) := by decide +kernel
theorem dX9_init_23 : decode cX9_init 23 = .ok (.sipush 401, 3) := by decide +kernel
theorem dX9_init_26 : decode cX9_init 26 = .ok (.newarray .long, 2) := by decide +kernel
theorem dX9_init_28 : decode cX9_init 28 = .ok (.putfield 18, 3) := by decide +kernel
theorem dX9_init_31 : decode cX9_init 31 = .ok (.aload_n 0, 1) := by decide +kernel
theorem dX9_init_32 : decode cX9_init 32 = .ok (.bipush 18, 2) := by decide +kernel
theorem dX9_init_34 : decode cX9_init 34 = .ok (.newarray .long, 2) := by decide +kernel
theorem dX9_init_36 : decode cX9_init 36 = .ok (.putfield 22, 3) := by decide +kernel
theorem dX9_init_39 : decode cX9_init 39 = .ok (.iconst 0, 1) := by decide +kernel
theorem dX9_init_40 : decode cX9_init 40 = .ok (.istore_n 1, 1) := by decide +kernel
theorem dX9_init_41 : decode cX9_init 41 = .ok (.iload_n 1, 1) := by decide +kernel
theorem dX9_init_42 : decode cX9_init 42 = .ok (.ldc 25, 2) := by decide +kernel
theorem dX9_init_44 : decode cX9_init 44 = .ok (.invokevirtual 27, 3) := by decide +kernel
theorem dX9_init_47 : decode cX9_init 47 = .ok (.if_icmp .ge 55, 3) := by decide +kernel
theorem dX9_init_50 : decode cX9_init 50 = .ok (.iload_n 1, 1) := by decide +kernel
theorem dX9_init_51 : decode cX9_init 51 = .ok (.bipush 8, 2) := by decide +kernel
theorem dX9_init_53 : decode cX9_init 53 = .ok (.idiv, 1) := by decide +kernel
theorem dX9_init_54 : decode cX9_init 54 = .ok (.istore_n 2, 1) := by decide +kernel
theorem dX9_init_55 : decode cX9_init 55 = .ok (.ldc 25, 2) := by decide +kernel
theorem dX9_init_57 : decode cX9_init 57 = .ok (.iload_n 1, 1) := by decide +kernel
theorem dX9_init_58 : decode cX9_init 58 = .ok (.invokevirtual 33, 3) := by decide +kernel
theorem dX9_init_61 : decode cX9_init 61 = .ok (.istore_n 3, 1) := by decide +kernel
theorem dX9_init_62 : decode cX9_init 62 = .ok (.iload_n 2, 1) := by decide +kernel
theorem dX9_init_63 : decode cX9_init 63 = .ok (.bipush 18, 2) := by decide +kernel
theorem dX9_init_65 : decode cX9_init 65 = .ok (.if_icmp .ge 31, 3) := by decide +kernel
theorem dX9_init_68 : decode cX9_init 68 = .ok (.iload_n 3, 1) := by decide +kernel
theorem dX9_init_69 : decode cX9_init 69 = .ok (.bipush 32, 2) := by decide +kernel
theorem dX9_init_71 : decode cX9_init 71 = .ok (.if_icmp .eq 25, 3) := by decide +kernel
theorem dX9_init_74 : decode cX9_init 74 = .ok (.aload_n 0, 1) := by decide +kernel
theorem dX9_init_75 : decode cX9_init 75 = .ok (.getfield 22, 3) := by decide +kernel
theorem dX9_init_78 : decode cX9_init 78 = .ok (.iload_n 2, 1) := by decide +kernel
theorem dX9_init_79 : decode cX9_init 79 = .ok (.aload_n 0, 1) := by decide +kernel
theorem dX9_init_80 : decode cX9_init 80 = .ok (.getfield 22, 3) := by decide +kernel
theorem dX9_init_83 : decode cX9_init 83 = .ok (.iload_n 2, 1) := by decide +kernel
theorem dX9_init_84 : decode cX9_init 84 = .ok (.laload, 1) := by decide +kernel
theorem dX9_init_85 : decode cX9_init 85 = .ok (.iconst 5, 1) := by decide +kernel
theorem dX9_init_86 : decode cX9_init 86 = .ok (.lshl, 1) := by decide +kernel
theorem dX9_init_87 : decode cX9_init 87 = .ok (.iload_n 3, 1) := by decide +kernel
theorem dX9_init_88 : decode cX9_init 88 = .ok (.bipush 97, 2) := by decide +kernel
theorem dX9_init_90 : decode cX9_init 90 = .ok (.isub, 1) := by decide +kernel
theorem dX9_init_91 : decode cX9_init 91 = .ok (.iconst 1, 1) := by decide +kernel
theorem dX9_init_92 : decode cX9_init 92 = .ok (.iadd, 1) := by decide +kernel
theorem dX9_init_93 : decode cX9_init 93 = .ok (.i2l, 1) := by decide +kernel
theorem dX9_init_94 : decode cX9_init 94 = .ok (.lor, 1) := by decide +kernel
theorem dX9_init_95 : decode cX9_init 95 = .ok (.lastore, 1) := by decide +kernel
theorem dX9_init_96 : decode cX9_init 96 = .ok (.iinc 1 1, 3) := by decide +kernel
theorem dX9_init_99 : decode cX9_init 99 = .ok (.goto (-58), 3) := by decide +kernel
theorem dX9_init_102 : decode cX9_init 102 = .ok (.return_, 1) := by decide +kernel
theorem ml_oi_X9 : Cond.methodLink "AfterOffice$Tokens" 3 Lib.objectInit ∈ TB := tb_mem (tb_tab (tt_1 (List.mem_of_getElem? (i := 53) rfl))) rfl
theorem pF_X9_9 : ∃ (C : String) (TT : u_T) (N : Nat) (ty0 : Nat → FieldType), vwCl[9]? = some (C, TT, N) ∧ (∀ w ∈ u_ws C TT N, w ∈ TB) ∧ 0 < N ∧ Cond.fieldLink "AfterOffice$Tokens" 9 C (TT 0).2.1 (TT 0).2.2.1 ∈ TB ∧ (TT 0).1 = C ∧ (∀ k, k < N → parseFieldDescriptor (TT k).2.2.1 = some (ty0 k)) ∧ (∀ a, a < N → ∀ b, b < N → a ≠ b → (TT a).2.1 ≠ (TT b).2.1) ∧ (TT 0).2.2.2 = true ∧ parseFieldDescriptor (TT 0).2.2.1 = some (tyX9 0) ∧ C = "AfterOffice$Tokens" := ⟨_, _, _, tyX9, rfl, inX9, by decide, tb_mem (tb_tab (tt_1 (List.mem_of_getElem? (i := 103) rfl))) rfl, rfl, tyX9_ok, nmX9, rfl, tyX9_ok 0 (by decide), rfl⟩
theorem pF_X9_15 : ∃ (C : String) (TT : u_T) (N : Nat) (ty0 : Nat → FieldType), vwCl[9]? = some (C, TT, N) ∧ (∀ w ∈ u_ws C TT N, w ∈ TB) ∧ 1 < N ∧ Cond.fieldLink "AfterOffice$Tokens" 15 C (TT 1).2.1 (TT 1).2.2.1 ∈ TB ∧ (TT 1).1 = C ∧ (∀ k, k < N → parseFieldDescriptor (TT k).2.2.1 = some (ty0 k)) ∧ (∀ a, a < N → ∀ b, b < N → a ≠ b → (TT a).2.1 ≠ (TT b).2.1) ∧ (TT 1).2.2.2 = true ∧ parseFieldDescriptor (TT 1).2.2.1 = some (tyX9 1) ∧ C = "AfterOffice$Tokens" := ⟨_, _, _, tyX9, rfl, inX9, by decide, tb_mem (tb_tab (tt_1 (List.mem_of_getElem? (i := 105) rfl))) rfl, rfl, tyX9_ok, nmX9, rfl, tyX9_ok 1 (by decide), rfl⟩
theorem pF_X9_18 : ∃ (C : String) (TT : u_T) (N : Nat) (ty0 : Nat → FieldType), vwCl[9]? = some (C, TT, N) ∧ (∀ w ∈ u_ws C TT N, w ∈ TB) ∧ 2 < N ∧ Cond.fieldLink "AfterOffice$Tokens" 18 C (TT 2).2.1 (TT 2).2.2.1 ∈ TB ∧ (TT 2).1 = C ∧ (∀ k, k < N → parseFieldDescriptor (TT k).2.2.1 = some (ty0 k)) ∧ (∀ a, a < N → ∀ b, b < N → a ≠ b → (TT a).2.1 ≠ (TT b).2.1) ∧ (TT 2).2.2.2 = true ∧ parseFieldDescriptor (TT 2).2.2.1 = some (tyX9 2) ∧ C = "AfterOffice$Tokens" := ⟨_, _, _, tyX9, rfl, inX9, by decide, tb_mem (tb_tab (tt_1 (List.mem_of_getElem? (i := 107) rfl))) rfl, rfl, tyX9_ok, nmX9, rfl, tyX9_ok 2 (by decide), rfl⟩
theorem pF_X9_22 : ∃ (C : String) (TT : u_T) (N : Nat) (ty0 : Nat → FieldType), vwCl[9]? = some (C, TT, N) ∧ (∀ w ∈ u_ws C TT N, w ∈ TB) ∧ 3 < N ∧ Cond.fieldLink "AfterOffice$Tokens" 22 C (TT 3).2.1 (TT 3).2.2.1 ∈ TB ∧ (TT 3).1 = C ∧ (∀ k, k < N → parseFieldDescriptor (TT k).2.2.1 = some (ty0 k)) ∧ (∀ a, a < N → ∀ b, b < N → a ≠ b → (TT a).2.1 ≠ (TT b).2.1) ∧ (TT 3).2.2.2 = true ∧ parseFieldDescriptor (TT 3).2.2.1 = some (tyX9 3) ∧ C = "AfterOffice$Tokens" := ⟨_, _, _, tyX9, rfl, inX9, by decide, tb_mem (tb_tab (tt_1 (List.mem_of_getElem? (i := 109) rfl))) rfl, rfl, tyX9_ok, nmX9, rfl, tyX9_ok 3 (by decide), rfl⟩
def wfT : Nat → (Nat → Int64)
  | 0 => fun _ => 0
  | i + 1 => if wby.getD i 0 = 32 then wfT i else vp_updL (wfT i) (ix (nI (i / 8))) (shlL (wfT i (ix (nI (i / 8)))) 5 ||| (wby.getD i 0 - 97 + 1).toInt64)
def wtT (cy : Nat → ClassId) (a q1 q2 q3 q4 : Nat) (F : Nat → Int64) : va_W := [(a, .inr (9, [.ref q1, .ref q2, .ref q3, .ref q4, .int 0])), (q1, .inl (cy 0, 401, .inl (fun _ => 0))), (q2, .inl (cy 0, 401, .inl (fun _ => 0))), (q3, .inl (cy 1, 401, .inr (.inl (fun _ => 0)))), (q4, .inl (cy 1, 18, .inr (.inl F)))]
theorem r_lald {D : va_G} {cy : Nat → ClassId} {l : Launch} {G : GT} {cc : ByteArray} {own : String} {ca sl nL pc : Nat} {lv : List (Nat × Value)} {st : List Value} {ws : va_W} {p N : Nat} {a : Nat} {f : Nat → Int64} {i : Int32} (X : CR D cy G cc own nL) (d : decode cc pc = .ok (.laload, 1)) (he : ws[p]? = some (a, .inl (cy 1, N, .inr (.inl f)))) (hi : inb i N = true) (k : JW (RW D G.2.2.1 ws) l G ca sl nL (pc + 1) lv (.long (f (ix i)) :: st)) : JW (RW D G.2.2.1 ws) l G ca sl nL pc lv (.int i :: .ref a :: st) := fun H locs ls hP hS hl => va_lald X.1.1 X.1.2.1 X.2.1 hP.1 p 1 he rfl (inb_in hi) d (k H locs ls hP hS hl)
theorem tk_div : ∀ k, k < 144 → nI k / 8 = nI (k / 8) := by decide +kernel
theorem tk_18 : ∀ k, k < 144 → ¬ (18 : Int32) ≤ nI (k / 8) := by decide +kernel
theorem tk_144 : ∀ k, k < 144 → ¬ (144 : Int32) ≤ nI k := by decide +kernel
theorem tk_in : ∀ k, k < 144 → inb (nI (k / 8)) 18 = true := by decide +kernel
theorem tk_1 (k : Nat) : nI k + 1 = nI (k + 1) := nI_add k 1
theorem wfT_s {k : Nat} (c : wby.getD k 0 = 32) : wfT (k + 1) = wfT k := by rw [wfT, if_pos c]
theorem wfT_n {k : Nat} (c : ¬ wby.getD k 0 = 32) : wfT (k + 1) = vp_updL (wfT k) (ix (nI (k / 8))) (shlL (wfT k (ix (nI (k / 8)))) 5 ||| (wby.getD k 0 - 97 + 1).toInt64) := by rw [wfT, if_neg c]
set_option maxRecDepth 20000 in
theorem wfT_kw : ∀ i, i < 18 → wfT 144 i = lN (q32 (kw i)) := by decide +kernel
set_option maxRecDepth 20000 in
theorem tk_next {l : Launch} {qs : Nat → Nat} {D : va_G} {cy : Nat → ClassId} {G : GT} {Post : va_W → Prop} {a q1 q2 q3 q4 k : Nat} (X : CI l qs D cy G cX9_init yX9_init.cls 4 4 4 1221 Post) (ih : JW (RW D G.2.2.1 (wtT cy a q1 q2 q3 q4 (wfT (k + 1)))) l G 4 1221 4 41 [(0, .ref a), (1, .int (nI (k + 1)))] []) : JW (RW D G.2.2.1 (wtT cy a q1 q2 q3 q4 (wfT (k + 1)))) l G 4 1221 4 96 [(3, .int (wby.getD k 0)), (2, .int (nI (k / 8))), (0, .ref a), (1, .int (nI k))] [] := by
  refine w_iinc (pc := 96) 3 (nI (k + 1)) [(1, .int (nI (k + 1))), (3, .int (wby.getD k 0)), (2, .int (nI (k / 8))), (0, .ref a)] X.1.1 dX9_init_96 rfl (tk_1 k) (by decide) rfl ?_
  refine w_goto (pc := 99) 41 X.1.1 dX9_init_99 rfl ?_
  refine w_lv [(0, .ref a), (1, .int (nI (k + 1)))] [3, 0] rfl ?_
  exact ih
set_option maxRecDepth 20000 in
theorem tk_loop {l : Launch} {K V : Nat} {f : Option Nat} {qs : Nat → Nat} {D : va_G} {cy : Nat → ClassId} {G : GT} {Post : va_W → Prop} {a q1 q2 q3 q4 : Nat} (X : CI l qs D cy G cX9_init yX9_init.cls 4 4 4 1221 Post) (S : SY K V f G.2.2.1 G.1.2.2.2.1 G.1.2.2.2.1.heap) (hp : Post (wtT cy a q1 q2 q3 q4 (wfT 144))) : ∀ d k, k + d = 144 → JW (RW D G.2.2.1 (wtT cy a q1 q2 q3 q4 (wfT k))) l G 4 1221 4 41 [(0, .ref a), (1, .int (nI k))] [] := by
  intro d
  induction d with
  | zero =>
    intro k hk
    obtain rfl : k = 144 := by omega
    refine w_iload_n (pc := 41) 1 X.1.1 dX9_init_41 rfl ?_
    refine y_ldc (pc := 42) X.1.1 S dX9_init_42 ?_
    refine y_callV (pc := 44) (n' := 1) (As := []) (rest := [.int (nI 144)]) Sta_RW X.1.1 S (by rw [X.2.2.1]; exact ⟨Nat.le_of_ble_eq_true rfl, Nat.le_of_ble_eq_true rfl, Nat.le_of_ble_eq_true rfl, Nat.le_of_ble_eq_true rfl⟩) dX9_init_44 mlJ_length ck_J0_length_8abf5 cv_J0_length_8abf5 rfl rfl (Nat.le_of_ble_eq_true rfl) rfl (tJ_length l K V f) ?_
    refine w_icmp_ge (pc := 47) 102 X.1.1 dX9_init_47 rfl (fun _ => ?_) (fun c => absurd (by decide) c)
    exact r_vret (pc := 102) X dX9_init_102 hp
  | succ d ih0 =>
    intro k hk
    have hk' : k < 144 := by omega
    have ih := tk_next X (ih0 (k + 1) (by omega))
    refine w_iload_n (pc := 41) 1 X.1.1 dX9_init_41 rfl ?_
    refine y_ldc (pc := 42) X.1.1 S dX9_init_42 ?_
    refine y_callV (pc := 44) (n' := 1) (As := []) (rest := [.int (nI k)]) Sta_RW X.1.1 S (by rw [X.2.2.1]; exact ⟨Nat.le_of_ble_eq_true rfl, Nat.le_of_ble_eq_true rfl, Nat.le_of_ble_eq_true rfl, Nat.le_of_ble_eq_true rfl⟩) dX9_init_44 mlJ_length ck_J0_length_8abf5 cv_J0_length_8abf5 rfl rfl (Nat.le_of_ble_eq_true rfl) rfl (tJ_length l K V f) ?_
    refine w_icmp_ge (pc := 47) 102 X.1.1 dX9_init_47 rfl (fun c => absurd c (tk_144 k hk')) (fun _ => ?_)
    refine w_iload_n (pc := 50) 1 X.1.1 dX9_init_50 rfl ?_
    refine w_bipush (pc := 51) 8 X.1.1 dX9_init_51 rfl ?_
    refine w_idiv (pc := 53) X.1.1 dX9_init_53 (by decide) ?_
    rw [tk_div k hk']
    refine w_istore_n (pc := 54) [(2, .int (nI (k / 8))), (0, .ref a), (1, .int (nI k))] X.1.1 dX9_init_54 (by decide) rfl ?_
    refine y_ldc (pc := 55) X.1.1 S dX9_init_55 ?_
    refine w_iload_n (pc := 57) 2 X.1.1 dX9_init_57 rfl ?_
    refine y_callV (pc := 58) (n' := 3) (As := [.int (nI k)]) (rest := []) Sta_RW X.1.1 S (by rw [X.2.2.1]; exact ⟨Nat.le_of_ble_eq_true rfl, Nat.le_of_ble_eq_true rfl, Nat.le_of_ble_eq_true rfl, Nat.le_of_ble_eq_true rfl⟩) dX9_init_58 mlJ_charAt ck_J0_charAt_5068e cv_J0_charAt_5068e rfl rfl (Nat.le_of_ble_eq_true rfl) rfl (tJ_charAt l K V f k hk') ?_
    refine w_istore_n (pc := 61) [(3, .int (wby.getD k 0)), (2, .int (nI (k / 8))), (0, .ref a), (1, .int (nI k))] X.1.1 dX9_init_61 (by decide) rfl ?_
    refine w_iload_n (pc := 62) 1 X.1.1 dX9_init_62 rfl ?_
    refine w_bipush (pc := 63) 18 X.1.1 dX9_init_63 rfl ?_
    refine w_icmp_ge (pc := 65) 96 X.1.1 dX9_init_65 rfl (fun c => absurd c (tk_18 k hk')) (fun _ => ?_)
    refine w_iload_n (pc := 68) 0 X.1.1 dX9_init_68 rfl ?_
    refine w_bipush (pc := 69) 32 X.1.1 dX9_init_69 rfl ?_
    refine w_icmp_eq (pc := 71) 96 X.1.1 dX9_init_71 rfl (fun c => ?_) (fun c => ?_)
    · rw [← wfT_s c]
      exact ih
    refine w_aload_n (pc := 74) 2 X.1.1 dX9_init_74 rfl ?_
    refine r_get (pc := 75) (p := 0) X.1 dX9_init_75 fl_X9_22 rfl rfl ?_
    refine w_iload_n (pc := 78) 1 X.1.1 dX9_init_78 rfl ?_
    refine w_aload_n (pc := 79) 2 X.1.1 dX9_init_79 rfl ?_
    refine r_get (pc := 80) (p := 0) X.1 dX9_init_80 fl_X9_22 rfl rfl ?_
    refine w_iload_n (pc := 83) 1 X.1.1 dX9_init_83 rfl ?_
    refine r_lald (pc := 84) (p := 4) X.1 dX9_init_84 rfl (tk_in k hk') ?_
    refine w_iconst (pc := 85) 5 X.1.1 dX9_init_85 rfl ?_
    refine w_lshl (pc := 86) X.1.1 dX9_init_86 ?_
    refine w_iload_n (pc := 87) 0 X.1.1 dX9_init_87 rfl ?_
    refine w_bipush (pc := 88) 97 X.1.1 dX9_init_88 rfl ?_
    refine w_isub (pc := 90) X.1.1 dX9_init_90 ?_
    refine w_iconst (pc := 91) 1 X.1.1 dX9_init_91 rfl ?_
    refine w_iadd (pc := 92) X.1.1 dX9_init_92 ?_
    refine w_i2l (pc := 93) X.1.1 dX9_init_93 ?_
    refine w_lor (pc := 94) X.1.1 dX9_init_94 ?_
    refine r_last (pc := 95) (p := 4) (wtT cy a q1 q2 q3 q4 (vp_updL (wfT k) (ix (nI (k / 8))) (shlL (wfT k (ix (nI (k / 8)))) 5 ||| (wby.getD k 0 - 97 + 1).toInt64))) X.1 dX9_init_95 rfl (tk_in k hk') rfl ?_
    rw [← wfT_n c]
    exact ih
set_option maxRecDepth 40000 in
theorem tX9_init (l : Launch) (K V : Nat) (f : Option Nat) (qs : Nat → Nat) (D : va_G) (cy : Nat → ClassId) (a sz : Nat) : MI2 l K V f qs D cy yX9_init cX9_init 4 4 4 1221 [.ref a] a 9 sz [.null, .null, .null, .null, .int 0] (fun w1 => ∃ q1 q2 q3 q4 : Nat, w1 = wtT cy a q1 q2 q3 q4 (wfT 144)) := by
  refine mi_start2 (by decide) rfl (Nat.le_of_ble_eq_true rfl) (fun G X S => ?_)
  refine w_aload_n (pc := 0) 0 X.1.1 dX9_init_0 rfl ?_
  refine r_obj (pc := 1) X dX9_init_1 ml_oi_X9 ml_oc (Nat.le_of_ble_eq_true rfl) (Nat.le_of_ble_eq_true rfl) ?_
  refine w_aload_n (pc := 4) 0 X.1.1 dX9_init_4 rfl ?_
  refine w_sipush (pc := 5) 401 X.1.1 dX9_init_5 rfl ?_
  refine r_newa (pc := 8) (N := 401) (a0 := (401, .inl (fun _ => 0))) 0 X.1 dX9_init_8 (fun _ => rfl) rfl ac_int (fun _ => rfl) (by decide) (by decide) (by decide) (by rw [X.2.2.1]; exact Nat.le_of_ble_eq_true rfl) (by rw [X.2.2.1]; exact Nat.le_of_ble_eq_true rfl) (fun q1 => ?_)
  refine r_putF (pc := 10) (p := 0) [(a, .inr (9, [.ref q1, .null, .null, .null, .int 0])), (q1, .inl (cy 0, 401, .inl (fun _ => 0)))] X.1 X.2.1 dX9_init_10 pF_X9_9 rfl rfl rfl (Nat.le_of_ble_eq_true rfl) rfl ?_
  refine w_aload_n (pc := 13) 0 X.1.1 dX9_init_13 rfl ?_
  refine w_sipush (pc := 14) 401 X.1.1 dX9_init_14 rfl ?_
  refine r_newa (pc := 17) (N := 401) (a0 := (401, .inl (fun _ => 0))) 0 X.1 dX9_init_17 (fun _ => rfl) rfl ac_int (fun _ => rfl) (by decide) (by decide) (by decide) (by rw [X.2.2.1]; exact Nat.le_of_ble_eq_true rfl) (by rw [X.2.2.1]; exact Nat.le_of_ble_eq_true rfl) (fun q2 => ?_)
  refine r_putF (pc := 19) (p := 0) [(a, .inr (9, [.ref q1, .ref q2, .null, .null, .int 0])), (q1, .inl (cy 0, 401, .inl (fun _ => 0))), (q2, .inl (cy 0, 401, .inl (fun _ => 0)))] X.1 X.2.1 dX9_init_19 pF_X9_15 rfl rfl rfl (Nat.le_of_ble_eq_true rfl) rfl ?_
  refine w_aload_n (pc := 22) 0 X.1.1 dX9_init_22 rfl ?_
  refine w_sipush (pc := 23) 401 X.1.1 dX9_init_23 rfl ?_
  refine r_newa (pc := 26) (N := 401) (a0 := (401, .inr (.inl (fun _ => 0)))) 1 X.1 dX9_init_26 (fun _ => rfl) rfl ac_long (fun _ => rfl) (by decide) (by decide) (by decide) (by rw [X.2.2.1]; exact Nat.le_of_ble_eq_true rfl) (by rw [X.2.2.1]; exact Nat.le_of_ble_eq_true rfl) (fun q3 => ?_)
  refine r_putF (pc := 28) (p := 0) [(a, .inr (9, [.ref q1, .ref q2, .ref q3, .null, .int 0])), (q1, .inl (cy 0, 401, .inl (fun _ => 0))), (q2, .inl (cy 0, 401, .inl (fun _ => 0))), (q3, .inl (cy 1, 401, .inr (.inl (fun _ => 0))))] X.1 X.2.1 dX9_init_28 pF_X9_18 rfl rfl rfl (Nat.le_of_ble_eq_true rfl) rfl ?_
  refine w_aload_n (pc := 31) 0 X.1.1 dX9_init_31 rfl ?_
  refine w_bipush (pc := 32) 18 X.1.1 dX9_init_32 rfl ?_
  refine r_newa (pc := 34) (N := 18) (a0 := (18, .inr (.inl (fun _ => 0)))) 1 X.1 dX9_init_34 (fun _ => rfl) rfl ac_long (fun _ => rfl) (by decide) (by decide) (by decide) (by rw [X.2.2.1]; exact Nat.le_of_ble_eq_true rfl) (by rw [X.2.2.1]; exact Nat.le_of_ble_eq_true rfl) (fun q4 => ?_)
  refine r_putF (pc := 36) (p := 0) [(a, .inr (9, [.ref q1, .ref q2, .ref q3, .ref q4, .int 0])), (q1, .inl (cy 0, 401, .inl (fun _ => 0))), (q2, .inl (cy 0, 401, .inl (fun _ => 0))), (q3, .inl (cy 1, 401, .inr (.inl (fun _ => 0)))), (q4, .inl (cy 1, 18, .inr (.inl (fun _ => 0))))] X.1 X.2.1 dX9_init_36 pF_X9_22 rfl rfl rfl (Nat.le_of_ble_eq_true rfl) rfl ?_
  refine w_iconst (pc := 39) 0 X.1.1 dX9_init_39 rfl ?_
  refine w_istore_n (pc := 40) [(1, .int 0), (0, .ref a)] X.1.1 dX9_init_40 (by decide) rfl ?_
  refine w_lv [(0, .ref a), (1, .int (nI 0))] [1, 0] rfl ?_
  exact tk_loop (q1 := q1) (q2 := q2) (q3 := q3) (q4 := q4) X S ⟨q1, q2, q3, q4, rfl⟩ 144 0 rfl
