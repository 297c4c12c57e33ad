theorem dX9_scan_0 : decode cX9_scan 0 = .ok (.aload_n 0, 1) := by decide +kernel
theorem dX9_scan_1 : decode cX9_scan 1 = .ok (.iconst 0, 1) := by decide +kernel
theorem dX9_scan_2 : decode cX9_scan 2 = .ok (.putfield 37, 3) := by decide +kernel
theorem dX9_scan_5 : decode cX9_scan 5 = .ok (.iconst 0, 1) := by decide +kernel
theorem dX9_scan_6 : decode cX9_scan 6 = .ok (.istore_n 2, 1) := by decide +kernel
theorem dX9_scan_7 : decode cX9_scan 7 = .ok (.aload_n 0, 1) := by decide +kernel
theorem dX9_scan_8 : decode cX9_scan 8 = .ok (.getfield 37, 3) := by decide +kernel
theorem dX9_scan_11 : decode cX9_scan 11 = .ok (.sipush 400, 3) := by decide +kernel
theorem dX9_scan_14 : decode cX9_scan 14 = .ok (.if_icmp .gt 61, 3) := by decide +kernel
theorem dX9_scan_17 : decode cX9_scan 17 = .ok (.iload_n 2, 1) := by decide +kernel
theorem dX9_scan_18 : decode cX9_scan 18 = .ok (.aload_n 1, 1) := by decide +kernel
theorem dX9_scan_19 : decode cX9_scan 19 = .ok (.getfield 41, 3) := by decide +kernel
theorem dX9_scan_22 : decode cX9_scan 22 = .ok (.if_icmp .ge 20, 3) := by decide +kernel
theorem dX9_scan_25 : decode cX9_scan 25 = .ok (.aload_n 1, 1) := by decide +kernel
theorem dX9_scan_26 : decode cX9_scan 26 = .ok (.iload_n 2, 1) := by decide +kernel
theorem dX9_scan_27 : decode cX9_scan 27 = .ok (.invokevirtual 44, 3) := by decide +kernel
theorem dX9_scan_30 : decode cX9_scan 30 = .ok (.invokestatic 48, 3) := by decide +kernel
theorem dX9_scan_33 : decode cX9_scan 33 = .ok (.ifCond .eq 9, 3) := by decide +kernel
theorem dX9_scan_36 : decode cX9_scan 36 = .ok (.iinc 2 1, 3) := by decide +kernel
theorem dX9_scan_39 : decode cX9_scan 39 = .ok (.goto (-22), 3) := by decide +kernel
theorem dX9_scan_42 : decode cX9_scan 42 = .ok (.aload_n 0, 1) := by decide +kernel
theorem dX9_scan_43 : decode cX9_scan 43 = .ok (.aload_n 1, 1) := by decide +kernel
theorem dX9_scan_44 : decode cX9_scan 44 = .ok (.iload_n 2, 1) := by decide +kernel
theorem dX9_scan_45 : decode cX9_scan 45 = .ok (.invokevirtual 52, 3) := by decide +kernel
theorem dX9_scan_48 : decode cX9_scan 48 = .ok (.istore_n 2, 1) := by decide +kernel
theorem dX9_scan_49 : decode cX9_scan 49 = .ok (.aload_n 0, 1) := by decide +kernel
theorem dX9_scan_50 : decode cX9_scan 50 = .ok (.dup, 1) := by decide +kernel
theorem dX9_scan_51 : decode cX9_scan 51 = .ok (.getfield 37, 3) := by decide +kernel
theorem dX9_scan_54 : decode cX9_scan 54 = .ok (.iconst 1, 1) := by decide +kernel
theorem dX9_scan_55 : decode cX9_scan 55 = .ok (.iadd, 1) := by decide +kernel
theorem dX9_scan_56 : decode cX9_scan 56 = .ok (.putfield 37, 3) := by decide +kernel
theorem dX9_scan_59 : decode cX9_scan 59 = .ok (.aload_n 0, 1) := by decide +kernel
theorem dX9_scan_60 : decode cX9_scan 60 = .ok (.getfield 9, 3) := by decide +kernel
theorem dX9_scan_63 : decode cX9_scan 63 = .ok (.aload_n 0, 1) := by decide +kernel
theorem dX9_scan_64 : decode cX9_scan 64 = .ok (.getfield 37, 3) := by decide +kernel
theorem dX9_scan_67 : decode cX9_scan 67 = .ok (.iconst 1, 1) := by decide +kernel
theorem dX9_scan_68 : decode cX9_scan 68 = .ok (.isub, 1) := by decide +kernel
theorem dX9_scan_69 : decode cX9_scan 69 = .ok (.iaload, 1) := by decide +kernel
theorem dX9_scan_70 : decode cX9_scan 70 = .ok (.iconst 1, 1) := by decide +kernel
theorem dX9_scan_71 : decode cX9_scan 71 = .ok (.if_icmp .gt (-64), 3) := by decide +kernel
theorem dX9_scan_74 : decode cX9_scan 74 = .ok (.return_, 1) := by decide +kernel
theorem dX9_scan_75 : decode cX9_scan 75 = .ok (.return_, 1) := by decide +kernel
def bX9_scan_42  (r7 : Int32 → Hp → Option (Hp)) (x2 : Int32) (h : Hp) : Option (Hp) := bi (fX9_scanOne x2 h) (fun w2 h1 => lt w2 (fun v3 => lt (wI h1 103 4 ((h1.1 103 4) + 1)) (fun h4 => ck (inb ((h4.1 103 4) - 1) 401) ((if 1 < (h4.1 104 (ix ((h4.1 103 4) - 1))) then r7 v3 h4 else some h4)))))
set_option maxRecDepth 20000 in
theorem BX9_scan_42 {Z : ZT} {G : GT} {hr : Hp} (X : CX Z G cX9_scan RX9 3 4) (E : RX Z G none (none) hr) (hz : HZ Z) (r7 : Int32 → Hp → Option (Hp)) (hr7 : ∀ (x2 : Int32) (h : Hp), r7 x2 h = some hr → J Z G 3 h 7 [(0, .ref (Z.2.1 103)), (1, .ref (Z.2.1 101)), (2, .int x2)] []) (x2 : Int32) (h : Hp) (hF : bX9_scan_42  r7 x2 h = some hr) : J Z G 3 h 42 [(0, .ref (Z.2.1 103)), (1, .ref (Z.2.1 101)), (2, .int x2)] [] := by
  unfold bX9_scan_42 at hF
  refine j_aload_n (pc := 42) 0 X dX9_scan_42 rfl ?_
  refine j_aload_n (pc := 43) 1 X dX9_scan_43 rfl ?_
  refine j_iload_n (pc := 44) 2 X dX9_scan_44 rfl ?_
  refine j_cVi (pc := 45) (As := [.ref (Z.2.1 101), .int x2]) (rest := []) X dX9_scan_45 ml_X9_52 ck_X9_scanOne cv_X9_scanOne (hz _ sh_103) rfl (Nat.le_of_ble_eq_true rfl) rfl (Nat.le_of_ble_eq_true rfl) rfl hF (tX9_scanOne Z x2 hz h) (fun w2 h1 hF => ?_)
  refine j_istore_n (pc := 48) (fun y => [(2, .int y), (0, .ref (Z.2.1 103)), (1, .ref (Z.2.1 101))]) X dX9_scan_48 (by decide) (fun _ => rfl) hF (fun v3 hF => ?_)
  refine j_aload_n (pc := 49) 1 X dX9_scan_49 rfl ?_
  refine j_dup (pc := 50) X dX9_scan_50 rfl ?_
  refine j_geti (pc := 51) X dX9_scan_51 (hz _ sh_103) fl_X9_37 rfl ?_
  refine j_iconst (pc := 54) 1 X dX9_scan_54 rfl ?_
  refine j_iadd (pc := 55) X dX9_scan_55 ?_
  refine j_puti (pc := 56) X dX9_scan_56 (hz _ sh_103) fp_X9_37 rfl hF (fun h4 hF => ?_)
  refine j_aload_n (pc := 59) 1 X dX9_scan_59 rfl ?_
  refine j_getr (pc := 60) X dX9_scan_60 (hz _ sh_103) fl_X9_9 rfl ?_
  refine j_aload_n (pc := 63) 1 X dX9_scan_63 rfl ?_
  refine j_geti (pc := 64) X dX9_scan_64 (hz _ sh_103) fl_X9_37 rfl ?_
  refine j_iconst (pc := 67) 1 X dX9_scan_67 rfl ?_
  refine j_isub (pc := 68) X dX9_scan_68 ?_
  refine j_iald (pc := 69) X dX9_scan_69 (hz _ sh_104) hF (fun hF => ?_)
  refine j_iconst (pc := 70) 1 X dX9_scan_70 rfl ?_
  refine j_icmp_gt (pc := 71) 7 X dX9_scan_71 rfl hF (fun hF => ?_) (fun hF => ?_)
  · refine j_lv [(0, .ref (Z.2.1 103)), (1, .ref (Z.2.1 101)), (2, .int v3)] [1, 2, 0] rfl ?_
    exact hr7 v3 h4 hF
  · exact j_vret (pc := 74) X E dX9_scan_74 hF
def bX9_scan_17  (r7 : Int32 → Hp → Option (Hp)) (r17 : Int32 → Hp → Option (Hp)) (x2 : Int32) (h : Hp) : Option (Hp) := (if (h.1 101 1) ≤ x2 then bX9_scan_42 r7 x2 h else bi (fX8_byteAt x2 h) (fun w2 h1 => bi (fX9_isBlank w2 h1) (fun w4 h3 => (if w4 = 0 then bX9_scan_42 r7 x2 h3 else lt (x2 + 1) (fun v5 => r17 v5 h3)))))
def lX9_scan_17  (r7 : Int32 → Hp → Option (Hp)) : Nat → Int32 → Hp → Option (Hp)
  | 0 => fun _ _ => none
  | n + 1 => bX9_scan_17  r7 (lX9_scan_17  r7 n)
set_option maxRecDepth 20000 in
theorem BX9_scan_17 {Z : ZT} {G : GT} {hr : Hp} (X : CX Z G cX9_scan RX9 3 4) (E : RX Z G none (none) hr) (hz : HZ Z) (r7 : Int32 → Hp → Option (Hp)) (hr7 : ∀ (x2 : Int32) (h : Hp), r7 x2 h = some hr → J Z G 3 h 7 [(0, .ref (Z.2.1 103)), (1, .ref (Z.2.1 101)), (2, .int x2)] []) (r17 : Int32 → Hp → Option (Hp)) (hr17 : ∀ (x2 : Int32) (h : Hp), r17 x2 h = some hr → J Z G 3 h 17 [(0, .ref (Z.2.1 103)), (1, .ref (Z.2.1 101)), (2, .int x2)] []) (x2 : Int32) (h : Hp) (hF : bX9_scan_17  r7 r17 x2 h = some hr) : J Z G 3 h 17 [(0, .ref (Z.2.1 103)), (1, .ref (Z.2.1 101)), (2, .int x2)] [] := by
  unfold bX9_scan_17 at hF
  refine j_iload_n (pc := 17) 2 X dX9_scan_17 rfl ?_
  refine j_aload_n (pc := 18) 1 X dX9_scan_18 rfl ?_
  refine j_geti (pc := 19) X dX9_scan_19 (hz _ sh_101) fl_X9_41 rfl ?_
  refine j_icmp_ge (pc := 22) 42 X dX9_scan_22 rfl hF (fun hF => ?_) (fun hF => ?_)
  · exact BX9_scan_42 X E hz r7 hr7 x2 h hF
  · refine j_aload_n (pc := 25) 1 X dX9_scan_25 rfl ?_
    refine j_iload_n (pc := 26) 2 X dX9_scan_26 rfl ?_
    refine j_cVi (pc := 27) (As := [.int x2]) (rest := []) X dX9_scan_27 ml_X9_44 ck_X8_byteAt cv_X8_byteAt (hz _ sh_101) rfl (Nat.le_of_ble_eq_true rfl) rfl (Nat.le_of_ble_eq_true rfl) rfl hF (tX8_byteAt Z x2 hz h) (fun w2 h1 hF => ?_)
    refine j_cSi (pc := 30) (As := [.int w2]) (rest := []) X dX9_scan_30 ml_X9_48 ck_X9_isBlank sk_X9_isBlank (Nat.le_of_ble_eq_true rfl) rfl (Nat.le_of_ble_eq_true rfl) rfl hF (tX9_isBlank Z w2 trivial h1) (fun w4 h3 hF => ?_)
    refine j_if_eq (pc := 33) 42 X dX9_scan_33 rfl hF (fun hF => ?_) (fun hF => ?_)
    · exact BX9_scan_42 X E hz r7 hr7 x2 h3 hF
    · refine j_iinc (pc := 36) 2 (x2 + 1) (fun y => [(2, .int y), (0, .ref (Z.2.1 103)), (1, .ref (Z.2.1 101))]) X dX9_scan_36 rfl rfl (by decide) (fun _ => rfl) hF (fun v5 hF => ?_)
      refine j_goto (pc := 39) 17 X dX9_scan_39 rfl ?_
      refine j_lv [(0, .ref (Z.2.1 103)), (1, .ref (Z.2.1 101)), (2, .int v5)] [1, 2, 0] rfl ?_
      exact hr17 v5 h3 hF
theorem LX9_scan_17 {Z : ZT} {G : GT} {hr : Hp} (X : CX Z G cX9_scan RX9 3 4) (E : RX Z G none (none) hr) (hz : HZ Z) (r7 : Int32 → Hp → Option (Hp)) (hr7 : ∀ (x2 : Int32) (h : Hp), r7 x2 h = some hr → J Z G 3 h 7 [(0, .ref (Z.2.1 103)), (1, .ref (Z.2.1 101)), (2, .int x2)] []) : ∀ (n : Nat) (x2 : Int32) (h : Hp), lX9_scan_17  r7 n x2 h = some hr → J Z G 3 h 17 [(0, .ref (Z.2.1 103)), (1, .ref (Z.2.1 101)), (2, .int x2)] [] := by
  intro n
  induction n with
  | zero => intro x2 h hF; cases hF
  | succ n ih => intro x2 h hF; exact BX9_scan_17 X E hz r7 hr7 (lX9_scan_17  r7 n) ih x2 h hF
def bX9_scan_7   (r7 : Int32 → Hp → Option (Hp)) (x2 : Int32) (h : Hp) : Option (Hp) := (if 400 < (h.1 103 4) then some h else lX9_scan_17 r7 FU x2 h)
def lX9_scan_7   : Nat → Int32 → Hp → Option (Hp)
  | 0 => fun _ _ => none
  | n + 1 => bX9_scan_7   (lX9_scan_7   n)
set_option maxRecDepth 20000 in
theorem BX9_scan_7 {Z : ZT} {G : GT} {hr : Hp} (X : CX Z G cX9_scan RX9 3 4) (E : RX Z G none (none) hr) (hz : HZ Z)  (r7 : Int32 → Hp → Option (Hp)) (hr7 : ∀ (x2 : Int32) (h : Hp), r7 x2 h = some hr → J Z G 3 h 7 [(0, .ref (Z.2.1 103)), (1, .ref (Z.2.1 101)), (2, .int x2)] []) (x2 : Int32) (h : Hp) (hF : bX9_scan_7   r7 x2 h = some hr) : J Z G 3 h 7 [(0, .ref (Z.2.1 103)), (1, .ref (Z.2.1 101)), (2, .int x2)] [] := by
  unfold bX9_scan_7 at hF
  refine j_aload_n (pc := 7) 0 X dX9_scan_7 rfl ?_
  refine j_geti (pc := 8) X dX9_scan_8 (hz _ sh_103) fl_X9_37 rfl ?_
  refine j_sipush (pc := 11) 400 X dX9_scan_11 rfl ?_
  refine j_icmp_gt (pc := 14) 75 X dX9_scan_14 rfl hF (fun hF => ?_) (fun hF => ?_)
  · exact j_vret (pc := 75) X E dX9_scan_75 hF
  · exact LX9_scan_17 X E hz r7 hr7 FU x2 h hF
theorem LX9_scan_7 {Z : ZT} {G : GT} {hr : Hp} (X : CX Z G cX9_scan RX9 3 4) (E : RX Z G none (none) hr) (hz : HZ Z)  : ∀ (n : Nat) (x2 : Int32) (h : Hp), lX9_scan_7   n x2 h = some hr → J Z G 3 h 7 [(0, .ref (Z.2.1 103)), (1, .ref (Z.2.1 101)), (2, .int x2)] [] := by
  intro n
  induction n with
  | zero => intro x2 h hF; cases hF
  | succ n ih => intro x2 h hF; exact BX9_scan_7 X E hz  (lX9_scan_7   n) ih x2 h hF
def fX9_scan  (h : Hp) : Option (Hp) := lt (wI h 103 4 0) (fun h1 => lt 0 (fun v2 => lX9_scan_7 FU v2 h1))
set_option maxRecDepth 20000 in
theorem tX9_scan (Z : ZT)  (hz : HZ Z) (h : Hp) (hr : Hp) (hF : fX9_scan  h = some hr) : MC Z yX9_scan cX9_scan 3 none 4 [.ref (Z.2.1 103), .ref (Z.2.1 101)] h (none) hr := by
  unfold fX9_scan at hF
  refine mc_start (by decide) (Nat.le_of_ble_eq_true rfl) (fun G X E => ?_)
  refine j_aload_n (pc := 0) 0 X dX9_scan_0 rfl ?_
  refine j_iconst (pc := 1) 0 X dX9_scan_1 rfl ?_
  refine j_puti (pc := 2) X dX9_scan_2 (hz _ sh_103) fp_X9_37 rfl hF (fun h1 hF => ?_)
  refine j_iconst (pc := 5) 0 X dX9_scan_5 rfl ?_
  refine j_istore_n (pc := 6) (fun y => [(2, .int y), (0, .ref (Z.2.1 103)), (1, .ref (Z.2.1 101))]) X dX9_scan_6 (by decide) (fun _ => rfl) hF (fun v2 hF => ?_)
  refine j_lv [(0, .ref (Z.2.1 103)), (1, .ref (Z.2.1 101)), (2, .int v2)] [1, 2, 0] rfl ?_
  exact LX9_scan_7 X E hz FU v2 h1 hF
theorem dX10_fillFew_0 : decode cX10_fillFew 0 = .ok (.getstatic 30, 3) := by decide +kernel
theorem dX10_fillFew_3 : decode cX10_fillFew 3 = .ok (.iconst 1, 1) := by decide +kernel
theorem dX10_fillFew_4 : decode cX10_fillFew 4 = .ok (.iaload, 1) := by decide +kernel
theorem dX10_fillFew_5 : decode cX10_fillFew 5 = .ok (.istore_n 1, 1) := by decide +kernel
theorem dX10_fillFew_6 : decode cX10_fillFew 6 = .ok (.getstatic 30, 3) := by decide +kernel
theorem dX10_fillFew_9 : decode cX10_fillFew 9 = .ok (.iconst 2, 1) := by decide +kernel
theorem dX10_fillFew_10 : decode cX10_fillFew 10 = .ok (.iaload, 1) := by decide +kernel
theorem dX10_fillFew_11 : decode cX10_fillFew 11 = .ok (.istore_n 2, 1) := by decide +kernel
theorem dX10_fillFew_12 : decode cX10_fillFew 12 = .ok (.getstatic 30, 3) := by decide +kernel
theorem dX10_fillFew_15 : decode cX10_fillFew 15 = .ok (.iconst 3, 1) := by decide +kernel
theorem dX10_fillFew_16 : decode cX10_fillFew 16 = .ok (.iaload, 1) := by decide +kernel
theorem dX10_fillFew_17 : decode cX10_fillFew 17 = .ok (.istore_n 3, 1) := by decide +kernel
theorem dX10_fillFew_18 : decode cX10_fillFew 18 = .ok (.aload_n 0, 1) := by decide +kernel
theorem dX10_fillFew_19 : decode cX10_fillFew 19 = .ok (.getfield 9, 3) := by decide +kernel
theorem dX10_fillFew_22 : decode cX10_fillFew 22 = .ok (.iconst 0, 1) := by decide +kernel
theorem dX10_fillFew_23 : decode cX10_fillFew 23 = .ok (.iconst 0, 1) := by decide +kernel
theorem dX10_fillFew_24 : decode cX10_fillFew 24 = .ok (.iastore, 1) := by decide +kernel
theorem dX10_fillFew_25 : decode cX10_fillFew 25 = .ok (.iconst 0, 1) := by decide +kernel
theorem dX10_fillFew_26 : decode cX10_fillFew 26 = .ok (.istore 4, 2) := by decide +kernel
theorem dX10_fillFew_28 : decode cX10_fillFew 28 = .ok (.iload 4, 2) := by decide +kernel
theorem dX10_fillFew_30 : decode cX10_fillFew 30 = .ok (.bipush 10, 2) := by decide +kernel
theorem dX10_fillFew_32 : decode cX10_fillFew 32 = .ok (.if_icmp .ge 95, 3) := by decide +kernel
theorem dX10_fillFew_35 : decode cX10_fillFew 35 = .ok (.aload_n 0, 1) := by decide +kernel
theorem dX10_fillFew_36 : decode cX10_fillFew 36 = .ok (.getfield 9, 3) := by decide +kernel
theorem dX10_fillFew_39 : decode cX10_fillFew 39 = .ok (.iload_n 1, 1) := by decide +kernel
theorem dX10_fillFew_40 : decode cX10_fillFew 40 = .ok (.iconst 1, 1) := by decide +kernel
theorem dX10_fillFew_41 : decode cX10_fillFew 41 = .ok (.iload 4, 2) := by decide +kernel
theorem dX10_fillFew_43 : decode cX10_fillFew 43 = .ok (.ishl, 1) := by decide +kernel
theorem dX10_fillFew_44 : decode cX10_fillFew 44 = .ok (.iastore, 1) := by decide +kernel
theorem dX10_fillFew_45 : decode cX10_fillFew 45 = .ok (.iinc 1 1, 3) := by decide +kernel
theorem dX10_fillFew_48 : decode cX10_fillFew 48 = .ok (.iconst 0, 1) := by decide +kernel
theorem dX10_fillFew_49 : decode cX10_fillFew 49 = .ok (.istore 5, 2) := by decide +kernel
theorem dX10_fillFew_51 : decode cX10_fillFew 51 = .ok (.iload 5, 2) := by decide +kernel
theorem dX10_fillFew_53 : decode cX10_fillFew 53 = .ok (.iload 4, 2) := by decide +kernel
theorem dX10_fillFew_55 : decode cX10_fillFew 55 = .ok (.if_icmp .ge 66, 3) := by decide +kernel
theorem dX10_fillFew_58 : decode cX10_fillFew 58 = .ok (.aload_n 0, 1) := by decide +kernel
theorem dX10_fillFew_59 : decode cX10_fillFew 59 = .ok (.getfield 9, 3) := by decide +kernel
theorem dX10_fillFew_62 : decode cX10_fillFew 62 = .ok (.iload_n 2, 1) := by decide +kernel
theorem dX10_fillFew_63 : decode cX10_fillFew 63 = .ok (.iconst 1, 1) := by decide +kernel
theorem dX10_fillFew_64 : decode cX10_fillFew 64 = .ok (.iload 4, 2) := by decide +kernel
theorem dX10_fillFew_66 : decode cX10_fillFew 66 = .ok (.ishl, 1) := by decide +kernel
theorem dX10_fillFew_67 : decode cX10_fillFew 67 = .ok (.iconst 1, 1) := by decide +kernel
theorem dX10_fillFew_68 : decode cX10_fillFew 68 = .ok (.iload 5, 2) := by decide +kernel
theorem dX10_fillFew_70 : decode cX10_fillFew 70 = .ok (.ishl, 1) := by decide +kernel
theorem dX10_fillFew_71 : decode cX10_fillFew 71 = .ok (.ior, 1) := by decide +kernel
theorem dX10_fillFew_72 : decode cX10_fillFew 72 = .ok (.iastore, 1) := by decide +kernel
theorem dX10_fillFew_73 : decode cX10_fillFew 73 = .ok (.iinc 2 1, 3) := by decide +kernel
theorem dX10_fillFew_76 : decode cX10_fillFew 76 = .ok (.iconst 0, 1) := by decide +kernel
theorem dX10_fillFew_77 : decode cX10_fillFew 77 = .ok (.istore 6, 2) := by decide +kernel
theorem dX10_fillFew_79 : decode cX10_fillFew 79 = .ok (.iload 6, 2) := by decide +kernel
theorem dX10_fillFew_81 : decode cX10_fillFew 81 = .ok (.iload 5, 2) := by decide +kernel
theorem dX10_fillFew_83 : decode cX10_fillFew 83 = .ok (.if_icmp .ge 32, 3) := by decide +kernel
theorem dX10_fillFew_86 : decode cX10_fillFew 86 = .ok (.aload_n 0, 1) := by decide +kernel
theorem dX10_fillFew_87 : decode cX10_fillFew 87 = .ok (.getfield 9, 3) := by decide +kernel
theorem dX10_fillFew_90 : decode cX10_fillFew 90 = .ok (.iload_n 3, 1) := by decide +kernel
theorem dX10_fillFew_91 : decode cX10_fillFew 91 = .ok (.iconst 1, 1) := by decide +kernel
theorem dX10_fillFew_92 : decode cX10_fillFew 92 = .ok (.iload 4, 2) := by decide +kernel
theorem dX10_fillFew_94 : decode cX10_fillFew 94 = .ok (.ishl, 1) := by decide +kernel
theorem dX10_fillFew_95 : decode cX10_fillFew 95 = .ok (.iconst 1, 1) := by decide +kernel
theorem dX10_fillFew_96 : decode cX10_fillFew 96 = .ok (.iload 5, 2) := by decide +kernel
theorem dX10_fillFew_98 : decode cX10_fillFew 98 = .ok (.ishl, 1) := by decide +kernel
theorem dX10_fillFew_99 : decode cX10_fillFew 99 = .ok (.ior, 1) := by decide +kernel
theorem dX10_fillFew_100 : decode cX10_fillFew 100 = .ok (.iconst 1, 1) := by decide +kernel
theorem dX10_fillFew_101 : decode cX10_fillFew 101 = .ok (.iload 6, 2) := by decide +kernel
theorem dX10_fillFew_103 : decode cX10_fillFew 103 = .ok (.ishl, 1) := by decide +kernel
theorem dX10_fillFew_104 : decode cX10_fillFew 104 = .ok (.ior, 1) := by decide +kernel
theorem dX10_fillFew_105 : decode cX10_fillFew 105 = .ok (.iastore, 1) := by decide +kernel
theorem dX10_fillFew_106 : decode cX10_fillFew 106 = .ok (.iinc 3 1, 3) := by decide +kernel
theorem dX10_fillFew_109 : decode cX10_fillFew 109 = .ok (.iinc 6 1, 3) := by decide +kernel
theorem dX10_fillFew_112 : decode cX10_fillFew 112 = .ok (.goto (-33), 3) := by decide +kernel
theorem dX10_fillFew_115 : decode cX10_fillFew 115 = .ok (.iinc 5 1, 3) := by decide +kernel
theorem dX10_fillFew_118 : decode cX10_fillFew 118 = .ok (.goto (-67), 3) := by decide +kernel
theorem dX10_fillFew_121 : decode cX10_fillFew 121 = .ok (.iinc 4 1, 3) := by decide +kernel
theorem dX10_fillFew_124 : decode cX10_fillFew 124 = .ok (.goto (-96), 3) := by decide +kernel
theorem dX10_fillFew_127 : decode cX10_fillFew 127 = .ok (.return_, 1) := by decide +kernel
def bX10_fillFew_79  (r28 : Int32 → Int32 → Int32 → Int32 → Hp → Option (Hp)) (r51 : Int32 → Int32 → Int32 → Int32 → Int32 → Hp → Option (Hp)) (r79 : Int32 → Int32 → Int32 → Int32 → Int32 → Int32 → Hp → Option (Hp)) (x1 : Int32) (x2 : Int32) (x3 : Int32) (x4 : Int32) (x5 : Int32) (x6 : Int32) (h : Hp) : Option (Hp) := (if x5 ≤ x6 then lt (x5 + 1) (fun v1 => r51 x1 x2 x3 x4 v1 h) else ck (inb x3 176) (lt (wI h 207 (ix x3) ((((1 : Int32) <<< (x4 &&& 31)) ||| ((1 : Int32) <<< (x5 &&& 31))) ||| ((1 : Int32) <<< (x6 &&& 31)))) (fun h2 => lt (x3 + 1) (fun v3 => lt (x6 + 1) (fun v4 => r79 x1 x2 v3 x4 x5 v4 h2)))))
def lX10_fillFew_79  (r28 : Int32 → Int32 → Int32 → Int32 → Hp → Option (Hp)) (r51 : Int32 → Int32 → Int32 → Int32 → Int32 → Hp → Option (Hp)) : Nat → Int32 → Int32 → Int32 → Int32 → Int32 → Int32 → Hp → Option (Hp)
  | 0 => fun _ _ _ _ _ _ _ => none
  | n + 1 => bX10_fillFew_79  r28 r51 (lX10_fillFew_79  r28 r51 n)
set_option maxRecDepth 20000 in
theorem BX10_fillFew_79 {Z : ZT} {G : GT} {hr : Hp} (X : CX Z G cX10_fillFew RX10 7 0) (E : RX Z G none (none) hr) (hz : HW Z) (r28 : Int32 → Int32 → Int32 → Int32 → Hp → Option (Hp)) (hr28 : ∀ (x1 : Int32) (x2 : Int32) (x3 : Int32) (x4 : Int32) (h : Hp), r28 x1 x2 x3 x4 h = some hr → J Z G 7 h 28 [(0, .ref (Z.2.1 206)), (1, .int x1), (2, .int x2), (3, .int x3), (4, .int x4)] []) (r51 : Int32 → Int32 → Int32 → Int32 → Int32 → Hp → Option (Hp)) (hr51 : ∀ (x1 : Int32) (x2 : Int32) (x3 : Int32) (x4 : Int32) (x5 : Int32) (h : Hp), r51 x1 x2 x3 x4 x5 h = some hr → J Z G 7 h 51 [(0, .ref (Z.2.1 206)), (1, .int x1), (2, .int x2), (3, .int x3), (4, .int x4), (5, .int x5)] []) (r79 : Int32 → Int32 → Int32 → Int32 → Int32 → Int32 → Hp → Option (Hp)) (hr79 : ∀ (x1 : Int32) (x2 : Int32) (x3 : Int32) (x4 : Int32) (x5 : Int32) (x6 : Int32) (h : Hp), r79 x1 x2 x3 x4 x5 x6 h = some hr → J Z G 7 h 79 [(0, .ref (Z.2.1 206)), (1, .int x1), (2, .int x2), (3, .int x3), (4, .int x4), (5, .int x5), (6, .int x6)] []) (x1 : Int32) (x2 : Int32) (x3 : Int32) (x4 : Int32) (x5 : Int32) (x6 : Int32) (h : Hp) (hF : bX10_fillFew_79  r28 r51 r79 x1 x2 x3 x4 x5 x6 h = some hr) : J Z G 7 h 79 [(0, .ref (Z.2.1 206)), (1, .int x1), (2, .int x2), (3, .int x3), (4, .int x4), (5, .int x5), (6, .int x6)] [] := by
  unfold bX10_fillFew_79 at hF
  refine j_iload (pc := 79) 6 X dX10_fillFew_79 rfl ?_
  refine j_iload (pc := 81) 5 X dX10_fillFew_81 rfl ?_
  refine j_icmp_ge (pc := 83) 115 X dX10_fillFew_83 rfl hF (fun hF => ?_) (fun hF => ?_)
  · refine j_iinc (pc := 115) 5 (x5 + 1) (fun y => [(5, .int y), (0, .ref (Z.2.1 206)), (1, .int x1), (2, .int x2), (3, .int x3), (4, .int x4), (6, .int x6)]) X dX10_fillFew_115 rfl rfl (by decide) (fun _ => rfl) hF (fun v1 hF => ?_)
    refine j_goto (pc := 118) 51 X dX10_fillFew_118 rfl ?_
    refine j_lv [(0, .ref (Z.2.1 206)), (1, .int x1), (2, .int x2), (3, .int x3), (4, .int x4), (5, .int v1)] [1, 2, 3, 4, 5, 0] rfl ?_
    exact hr51 x1 x2 x3 x4 v1 h hF
  · refine j_aload_n (pc := 86) 0 X dX10_fillFew_86 rfl ?_
    refine j_getr (pc := 87) X dX10_fillFew_87 (hz _ sh_206 (by decide) (by decide)) fl_X10_9 rfl ?_
    refine j_iload_n (pc := 90) 3 X dX10_fillFew_90 rfl ?_
    refine j_iconst (pc := 91) 1 X dX10_fillFew_91 rfl ?_
    refine j_iload (pc := 92) 4 X dX10_fillFew_92 rfl ?_
    refine j_ishl (pc := 94) X dX10_fillFew_94 ?_
    refine j_iconst (pc := 95) 1 X dX10_fillFew_95 rfl ?_
    refine j_iload (pc := 96) 5 X dX10_fillFew_96 rfl ?_
    refine j_ishl (pc := 98) X dX10_fillFew_98 ?_
    refine j_ior (pc := 99) X dX10_fillFew_99 ?_
    refine j_iconst (pc := 100) 1 X dX10_fillFew_100 rfl ?_
    refine j_iload (pc := 101) 6 X dX10_fillFew_101 rfl ?_
    refine j_ishl (pc := 103) X dX10_fillFew_103 ?_
    refine j_ior (pc := 104) X dX10_fillFew_104 ?_
    refine j_iast (pc := 105) X dX10_fillFew_105 (hz _ sh_207 (by decide) (by decide)) hF (fun h2 hF => ?_)
    refine j_iinc (pc := 106) 3 (x3 + 1) (fun y => [(3, .int y), (0, .ref (Z.2.1 206)), (1, .int x1), (2, .int x2), (4, .int x4), (5, .int x5), (6, .int x6)]) X dX10_fillFew_106 rfl rfl (by decide) (fun _ => rfl) hF (fun v3 hF => ?_)
    refine j_iinc (pc := 109) 6 (x6 + 1) (fun y => [(6, .int y), (3, .int v3), (0, .ref (Z.2.1 206)), (1, .int x1), (2, .int x2), (4, .int x4), (5, .int x5)]) X dX10_fillFew_109 rfl rfl (by decide) (fun _ => rfl) hF (fun v4 hF => ?_)
    refine j_goto (pc := 112) 79 X dX10_fillFew_112 rfl ?_
    refine j_lv [(0, .ref (Z.2.1 206)), (1, .int x1), (2, .int x2), (3, .int v3), (4, .int x4), (5, .int x5), (6, .int v4)] [2, 3, 4, 1, 5, 6, 0] rfl ?_
    exact hr79 x1 x2 v3 x4 x5 v4 h2 hF
theorem LX10_fillFew_79 {Z : ZT} {G : GT} {hr : Hp} (X : CX Z G cX10_fillFew RX10 7 0) (E : RX Z G none (none) hr) (hz : HW Z) (r28 : Int32 → Int32 → Int32 → Int32 → Hp → Option (Hp)) (hr28 : ∀ (x1 : Int32) (x2 : Int32) (x3 : Int32) (x4 : Int32) (h : Hp), r28 x1 x2 x3 x4 h = some hr → J Z G 7 h 28 [(0, .ref (Z.2.1 206)), (1, .int x1), (2, .int x2), (3, .int x3), (4, .int x4)] []) (r51 : Int32 → Int32 → Int32 → Int32 → Int32 → Hp → Option (Hp)) (hr51 : ∀ (x1 : Int32) (x2 : Int32) (x3 : Int32) (x4 : Int32) (x5 : Int32) (h : Hp), r51 x1 x2 x3 x4 x5 h = some hr → J Z G 7 h 51 [(0, .ref (Z.2.1 206)), (1, .int x1), (2, .int x2), (3, .int x3), (4, .int x4), (5, .int x5)] []) : ∀ (n : Nat) (x1 : Int32) (x2 : Int32) (x3 : Int32) (x4 : Int32) (x5 : Int32) (x6 : Int32) (h : Hp), lX10_fillFew_79  r28 r51 n x1 x2 x3 x4 x5 x6 h = some hr → J Z G 7 h 79 [(0, .ref (Z.2.1 206)), (1, .int x1), (2, .int x2), (3, .int x3), (4, .int x4), (5, .int x5), (6, .int x6)] [] := by
  intro n
  induction n with
  | zero => intro x1 x2 x3 x4 x5 x6 h hF; cases hF
  | succ n ih => intro x1 x2 x3 x4 x5 x6 h hF; exact BX10_fillFew_79 X E hz r28 hr28 r51 hr51 (lX10_fillFew_79  r28 r51 n) ih x1 x2 x3 x4 x5 x6 h hF
def bX10_fillFew_51  (r28 : Int32 → Int32 → Int32 → Int32 → Hp → Option (Hp)) (r51 : Int32 → Int32 → Int32 → Int32 → Int32 → Hp → Option (Hp)) (x1 : Int32) (x2 : Int32) (x3 : Int32) (x4 : Int32) (x5 : Int32) (h : Hp) : Option (Hp) := (if x4 ≤ x5 then lt (x4 + 1) (fun v1 => r28 x1 x2 x3 v1 h) else ck (inb x2 176) (lt (wI h 207 (ix x2) (((1 : Int32) <<< (x4 &&& 31)) ||| ((1 : Int32) <<< (x5 &&& 31)))) (fun h2 => lt (x2 + 1) (fun v3 => lt 0 (fun v4 => lX10_fillFew_79 r28 r51 FU x1 v3 x3 x4 x5 v4 h2)))))
def lX10_fillFew_51  (r28 : Int32 → Int32 → Int32 → Int32 → Hp → Option (Hp)) : Nat → Int32 → Int32 → Int32 → Int32 → Int32 → Hp → Option (Hp)
  | 0 => fun _ _ _ _ _ _ => none
  | n + 1 => bX10_fillFew_51  r28 (lX10_fillFew_51  r28 n)
set_option maxRecDepth 20000 in
theorem BX10_fillFew_51 {Z : ZT} {G : GT} {hr : Hp} (X : CX Z G cX10_fillFew RX10 7 0) (E : RX Z G none (none) hr) (hz : HW Z) (r28 : Int32 → Int32 → Int32 → Int32 → Hp → Option (Hp)) (hr28 : ∀ (x1 : Int32) (x2 : Int32) (x3 : Int32) (x4 : Int32) (h : Hp), r28 x1 x2 x3 x4 h = some hr → J Z G 7 h 28 [(0, .ref (Z.2.1 206)), (1, .int x1), (2, .int x2), (3, .int x3), (4, .int x4)] []) (r51 : Int32 → Int32 → Int32 → Int32 → Int32 → Hp → Option (Hp)) (hr51 : ∀ (x1 : Int32) (x2 : Int32) (x3 : Int32) (x4 : Int32) (x5 : Int32) (h : Hp), r51 x1 x2 x3 x4 x5 h = some hr → J Z G 7 h 51 [(0, .ref (Z.2.1 206)), (1, .int x1), (2, .int x2), (3, .int x3), (4, .int x4), (5, .int x5)] []) (x1 : Int32) (x2 : Int32) (x3 : Int32) (x4 : Int32) (x5 : Int32) (h : Hp) (hF : bX10_fillFew_51  r28 r51 x1 x2 x3 x4 x5 h = some hr) : J Z G 7 h 51 [(0, .ref (Z.2.1 206)), (1, .int x1), (2, .int x2), (3, .int x3), (4, .int x4), (5, .int x5)] [] := by
  unfold bX10_fillFew_51 at hF
  refine j_iload (pc := 51) 5 X dX10_fillFew_51 rfl ?_
  refine j_iload (pc := 53) 4 X dX10_fillFew_53 rfl ?_
  refine j_icmp_ge (pc := 55) 121 X dX10_fillFew_55 rfl hF (fun hF => ?_) (fun hF => ?_)
  · refine j_iinc (pc := 121) 4 (x4 + 1) (fun y => [(4, .int y), (0, .ref (Z.2.1 206)), (1, .int x1), (2, .int x2), (3, .int x3), (5, .int x5)]) X dX10_fillFew_121 rfl rfl (by decide) (fun _ => rfl) hF (fun v1 hF => ?_)
    refine j_goto (pc := 124) 28 X dX10_fillFew_124 rfl ?_
    refine j_lv [(0, .ref (Z.2.1 206)), (1, .int x1), (2, .int x2), (3, .int x3), (4, .int v1)] [1, 2, 3, 4, 0] rfl ?_
    exact hr28 x1 x2 x3 v1 h hF
  · refine j_aload_n (pc := 58) 0 X dX10_fillFew_58 rfl ?_
    refine j_getr (pc := 59) X dX10_fillFew_59 (hz _ sh_206 (by decide) (by decide)) fl_X10_9 rfl ?_
    refine j_iload_n (pc := 62) 2 X dX10_fillFew_62 rfl ?_
    refine j_iconst (pc := 63) 1 X dX10_fillFew_63 rfl ?_
    refine j_iload (pc := 64) 4 X dX10_fillFew_64 rfl ?_
    refine j_ishl (pc := 66) X dX10_fillFew_66 ?_
    refine j_iconst (pc := 67) 1 X dX10_fillFew_67 rfl ?_
    refine j_iload (pc := 68) 5 X dX10_fillFew_68 rfl ?_
    refine j_ishl (pc := 70) X dX10_fillFew_70 ?_
    refine j_ior (pc := 71) X dX10_fillFew_71 ?_
    refine j_iast (pc := 72) X dX10_fillFew_72 (hz _ sh_207 (by decide) (by decide)) hF (fun h2 hF => ?_)
    refine j_iinc (pc := 73) 2 (x2 + 1) (fun y => [(2, .int y), (0, .ref (Z.2.1 206)), (1, .int x1), (3, .int x3), (4, .int x4), (5, .int x5)]) X dX10_fillFew_73 rfl rfl (by decide) (fun _ => rfl) hF (fun v3 hF => ?_)
    refine j_iconst (pc := 76) 0 X dX10_fillFew_76 rfl ?_
    refine j_istore (pc := 77) (fun y => [(6, .int y), (2, .int v3), (0, .ref (Z.2.1 206)), (1, .int x1), (3, .int x3), (4, .int x4), (5, .int x5)]) X dX10_fillFew_77 (by decide) (fun _ => rfl) hF (fun v4 hF => ?_)
    refine j_lv [(0, .ref (Z.2.1 206)), (1, .int x1), (2, .int v3), (3, .int x3), (4, .int x4), (5, .int x5), (6, .int v4)] [2, 3, 1, 4, 5, 6, 0] rfl ?_
    exact LX10_fillFew_79 X E hz r28 hr28 r51 hr51 FU x1 v3 x3 x4 x5 v4 h2 hF
theorem LX10_fillFew_51 {Z : ZT} {G : GT} {hr : Hp} (X : CX Z G cX10_fillFew RX10 7 0) (E : RX Z G none (none) hr) (hz : HW Z) (r28 : Int32 → Int32 → Int32 → Int32 → Hp → Option (Hp)) (hr28 : ∀ (x1 : Int32) (x2 : Int32) (x3 : Int32) (x4 : Int32) (h : Hp), r28 x1 x2 x3 x4 h = some hr → J Z G 7 h 28 [(0, .ref (Z.2.1 206)), (1, .int x1), (2, .int x2), (3, .int x3), (4, .int x4)] []) : ∀ (n : Nat) (x1 : Int32) (x2 : Int32) (x3 : Int32) (x4 : Int32) (x5 : Int32) (h : Hp), lX10_fillFew_51  r28 n x1 x2 x3 x4 x5 h = some hr → J Z G 7 h 51 [(0, .ref (Z.2.1 206)), (1, .int x1), (2, .int x2), (3, .int x3), (4, .int x4), (5, .int x5)] [] := by
  intro n
  induction n with
  | zero => intro x1 x2 x3 x4 x5 h hF; cases hF
  | succ n ih => intro x1 x2 x3 x4 x5 h hF; exact BX10_fillFew_51 X E hz r28 hr28 (lX10_fillFew_51  r28 n) ih x1 x2 x3 x4 x5 h hF
def bX10_fillFew_28   (r28 : Int32 → Int32 → Int32 → Int32 → Hp → Option (Hp)) (x1 : Int32) (x2 : Int32) (x3 : Int32) (x4 : Int32) (h : Hp) : Option (Hp) := (if 10 ≤ x4 then some h else ck (inb x1 176) (lt (wI h 207 (ix x1) ((1 : Int32) <<< (x4 &&& 31))) (fun h1 => lt (x1 + 1) (fun v2 => lt 0 (fun v3 => lX10_fillFew_51 r28 FU v2 x2 x3 x4 v3 h1)))))
def lX10_fillFew_28   : Nat → Int32 → Int32 → Int32 → Int32 → Hp → Option (Hp)
  | 0 => fun _ _ _ _ _ => none
  | n + 1 => bX10_fillFew_28   (lX10_fillFew_28   n)
set_option maxRecDepth 20000 in
theorem BX10_fillFew_28 {Z : ZT} {G : GT} {hr : Hp} (X : CX Z G cX10_fillFew RX10 7 0) (E : RX Z G none (none) hr) (hz : HW Z)  (r28 : Int32 → Int32 → Int32 → Int32 → Hp → Option (Hp)) (hr28 : ∀ (x1 : Int32) (x2 : Int32) (x3 : Int32) (x4 : Int32) (h : Hp), r28 x1 x2 x3 x4 h = some hr → J Z G 7 h 28 [(0, .ref (Z.2.1 206)), (1, .int x1), (2, .int x2), (3, .int x3), (4, .int x4)] []) (x1 : Int32) (x2 : Int32) (x3 : Int32) (x4 : Int32) (h : Hp) (hF : bX10_fillFew_28   r28 x1 x2 x3 x4 h = some hr) : J Z G 7 h 28 [(0, .ref (Z.2.1 206)), (1, .int x1), (2, .int x2), (3, .int x3), (4, .int x4)] [] := by
  unfold bX10_fillFew_28 at hF
  refine j_iload (pc := 28) 4 X dX10_fillFew_28 rfl ?_
  refine j_bipush (pc := 30) 10 X dX10_fillFew_30 rfl ?_
  refine j_icmp_ge (pc := 32) 127 X dX10_fillFew_32 rfl hF (fun hF => ?_) (fun hF => ?_)
  · exact j_vret (pc := 127) X E dX10_fillFew_127 hF
  · refine j_aload_n (pc := 35) 0 X dX10_fillFew_35 rfl ?_
    refine j_getr (pc := 36) X dX10_fillFew_36 (hz _ sh_206 (by decide) (by decide)) fl_X10_9 rfl ?_
    refine j_iload_n (pc := 39) 1 X dX10_fillFew_39 rfl ?_
    refine j_iconst (pc := 40) 1 X dX10_fillFew_40 rfl ?_
    refine j_iload (pc := 41) 4 X dX10_fillFew_41 rfl ?_
    refine j_ishl (pc := 43) X dX10_fillFew_43 ?_
    refine j_iast (pc := 44) X dX10_fillFew_44 (hz _ sh_207 (by decide) (by decide)) hF (fun h1 hF => ?_)
    refine j_iinc (pc := 45) 1 (x1 + 1) (fun y => [(1, .int y), (0, .ref (Z.2.1 206)), (2, .int x2), (3, .int x3), (4, .int x4)]) X dX10_fillFew_45 rfl rfl (by decide) (fun _ => rfl) hF (fun v2 hF => ?_)
    refine j_iconst (pc := 48) 0 X dX10_fillFew_48 rfl ?_
    refine j_istore (pc := 49) (fun y => [(5, .int y), (1, .int v2), (0, .ref (Z.2.1 206)), (2, .int x2), (3, .int x3), (4, .int x4)]) X dX10_fillFew_49 (by decide) (fun _ => rfl) hF (fun v3 hF => ?_)
    refine j_lv [(0, .ref (Z.2.1 206)), (1, .int v2), (2, .int x2), (3, .int x3), (4, .int x4), (5, .int v3)] [2, 1, 3, 4, 5, 0] rfl ?_
    exact LX10_fillFew_51 X E hz r28 hr28 FU v2 x2 x3 x4 v3 h1 hF
theorem LX10_fillFew_28 {Z : ZT} {G : GT} {hr : Hp} (X : CX Z G cX10_fillFew RX10 7 0) (E : RX Z G none (none) hr) (hz : HW Z)  : ∀ (n : Nat) (x1 : Int32) (x2 : Int32) (x3 : Int32) (x4 : Int32) (h : Hp), lX10_fillFew_28   n x1 x2 x3 x4 h = some hr → J Z G 7 h 28 [(0, .ref (Z.2.1 206)), (1, .int x1), (2, .int x2), (3, .int x3), (4, .int x4)] [] := by
  intro n
  induction n with
  | zero => intro x1 x2 x3 x4 h hF; cases hF
  | succ n ih => intro x1 x2 x3 x4 h hF; exact BX10_fillFew_28 X E hz  (lX10_fillFew_28   n) ih x1 x2 x3 x4 h hF
def fX10_fillFew  (h : Hp) : Option (Hp) := ck (inb 1 5) (lt (fsi (ix 1)) (fun v1 => ck (inb 2 5) (lt (fsi (ix 2)) (fun v2 => ck (inb 3 5) (lt (fsi (ix 3)) (fun v3 => ck (inb 0 176) (lt (wI h 207 (ix 0) 0) (fun h4 => lt 0 (fun v5 => lX10_fillFew_28 FU v1 v2 v3 v5 h4)))))))))
set_option maxRecDepth 20000 in
theorem tX10_fillFew (Z : ZT)  (hz : HW Z) (h : Hp) (hr : Hp) (hF : fX10_fillFew  h = some hr) : MC Z yX10_fillFew cX10_fillFew 7 none 0 [.ref (Z.2.1 206)] h (none) hr := by
  unfold fX10_fillFew at hF
  refine mc_start (by decide) (Nat.le_of_ble_eq_true rfl) (fun G X E => ?_)
  refine j_gfew (pc := 0) X dX10_fillFew_0 gs_X10_30 ?_
  refine j_iconst (pc := 3) 1 X dX10_fillFew_3 rfl ?_
  refine j_fald (pc := 4) X dX10_fillFew_4 hF (fun hF => ?_)
  refine j_istore_n (pc := 5) (fun y => [(1, .int y), (0, .ref (Z.2.1 206))]) X dX10_fillFew_5 (by decide) (fun _ => rfl) hF (fun v1 hF => ?_)
  refine j_gfew (pc := 6) X dX10_fillFew_6 gs_X10_30 ?_
  refine j_iconst (pc := 9) 2 X dX10_fillFew_9 rfl ?_
  refine j_fald (pc := 10) X dX10_fillFew_10 hF (fun hF => ?_)
  refine j_istore_n (pc := 11) (fun y => [(2, .int y), (1, .int v1), (0, .ref (Z.2.1 206))]) X dX10_fillFew_11 (by decide) (fun _ => rfl) hF (fun v2 hF => ?_)
  refine j_gfew (pc := 12) X dX10_fillFew_12 gs_X10_30 ?_
  refine j_iconst (pc := 15) 3 X dX10_fillFew_15 rfl ?_
  refine j_fald (pc := 16) X dX10_fillFew_16 hF (fun hF => ?_)
  refine j_istore_n (pc := 17) (fun y => [(3, .int y), (2, .int v2), (1, .int v1), (0, .ref (Z.2.1 206))]) X dX10_fillFew_17 (by decide) (fun _ => rfl) hF (fun v3 hF => ?_)
  refine j_aload_n (pc := 18) 3 X dX10_fillFew_18 rfl ?_
  refine j_getr (pc := 19) X dX10_fillFew_19 (hz _ sh_206 (by decide) (by decide)) fl_X10_9 rfl ?_
  refine j_iconst (pc := 22) 0 X dX10_fillFew_22 rfl ?_
  refine j_iconst (pc := 23) 0 X dX10_fillFew_23 rfl ?_
  refine j_iast (pc := 24) X dX10_fillFew_24 (hz _ sh_207 (by decide) (by decide)) hF (fun h4 hF => ?_)
  refine j_iconst (pc := 25) 0 X dX10_fillFew_25 rfl ?_
  refine j_istore (pc := 26) (fun y => [(4, .int y), (3, .int v3), (2, .int v2), (1, .int v1), (0, .ref (Z.2.1 206))]) X dX10_fillFew_26 (by decide) (fun _ => rfl) hF (fun v5 hF => ?_)
  refine j_lv [(0, .ref (Z.2.1 206)), (1, .int v1), (2, .int v2), (3, .int v3), (4, .int v5)] [4, 3, 2, 1, 0] rfl ?_
  exact LX10_fillFew_28 X E hz FU v1 v2 v3 v5 h4 hF
theorem dX10_seekNeedOf_0 : decode cX10_seekNeedOf 0 = .ok (.getstatic 30, 3) := by decide +kernel
theorem dX10_seekNeedOf_3 : decode cX10_seekNeedOf 3 = .ok (.iload 5, 2) := by decide +kernel
theorem dX10_seekNeedOf_5 : decode cX10_seekNeedOf 5 = .ok (.iconst 1, 1) := by decide +kernel
theorem dX10_seekNeedOf_6 : decode cX10_seekNeedOf 6 = .ok (.iadd, 1) := by decide +kernel
theorem dX10_seekNeedOf_7 : decode cX10_seekNeedOf 7 = .ok (.iaload, 1) := by decide +kernel
theorem dX10_seekNeedOf_8 : decode cX10_seekNeedOf 8 = .ok (.istore 7, 2) := by decide +kernel
theorem dX10_seekNeedOf_10 : decode cX10_seekNeedOf 10 = .ok (.getstatic 30, 3) := by decide +kernel
theorem dX10_seekNeedOf_13 : decode cX10_seekNeedOf 13 = .ok (.iload 5, 2) := by decide +kernel
theorem dX10_seekNeedOf_15 : decode cX10_seekNeedOf 15 = .ok (.iaload, 1) := by decide +kernel
theorem dX10_seekNeedOf_16 : decode cX10_seekNeedOf 16 = .ok (.istore 8, 2) := by decide +kernel
theorem dX10_seekNeedOf_18 : decode cX10_seekNeedOf 18 = .ok (.iload 8, 2) := by decide +kernel
theorem dX10_seekNeedOf_20 : decode cX10_seekNeedOf 20 = .ok (.iload 7, 2) := by decide +kernel
theorem dX10_seekNeedOf_22 : decode cX10_seekNeedOf 22 = .ok (.if_icmp .ge 171, 3) := by decide +kernel
theorem dX10_seekNeedOf_25 : decode cX10_seekNeedOf 25 = .ok (.aload_n 0, 1) := by decide +kernel
theorem dX10_seekNeedOf_26 : decode cX10_seekNeedOf 26 = .ok (.getfield 9, 3) := by decide +kernel
theorem dX10_seekNeedOf_29 : decode cX10_seekNeedOf 29 = .ok (.iload 8, 2) := by decide +kernel
theorem dX10_seekNeedOf_31 : decode cX10_seekNeedOf 31 = .ok (.iaload, 1) := by decide +kernel
theorem dX10_seekNeedOf_32 : decode cX10_seekNeedOf 32 = .ok (.aload_n 0, 1) := by decide +kernel
theorem dX10_seekNeedOf_33 : decode cX10_seekNeedOf 33 = .ok (.getfield 19, 3) := by decide +kernel
theorem dX10_seekNeedOf_36 : decode cX10_seekNeedOf 36 = .ok (.getfield 37, 3) := by decide +kernel
theorem dX10_seekNeedOf_39 : decode cX10_seekNeedOf 39 = .ok (.ishr, 1) := by decide +kernel
theorem dX10_seekNeedOf_40 : decode cX10_seekNeedOf 40 = .ok (.ifCond .ne 153, 3) := by decide +kernel
theorem dX10_seekNeedOf_43 : decode cX10_seekNeedOf 43 = .ok (.aload_n 0, 1) := by decide +kernel
theorem dX10_seekNeedOf_44 : decode cX10_seekNeedOf 44 = .ok (.getfield 9, 3) := by decide +kernel
theorem dX10_seekNeedOf_47 : decode cX10_seekNeedOf 47 = .ok (.iload 8, 2) := by decide +kernel
theorem dX10_seekNeedOf_49 : decode cX10_seekNeedOf 49 = .ok (.iaload, 1) := by decide +kernel
theorem dX10_seekNeedOf_50 : decode cX10_seekNeedOf 50 = .ok (.iload_n 3, 1) := by decide +kernel
theorem dX10_seekNeedOf_51 : decode cX10_seekNeedOf 51 = .ok (.iand, 1) := by decide +kernel
theorem dX10_seekNeedOf_52 : decode cX10_seekNeedOf 52 = .ok (.ifCond .eq 6, 3) := by decide +kernel
theorem dX10_seekNeedOf_55 : decode cX10_seekNeedOf 55 = .ok (.goto 132, 3) := by decide +kernel
theorem dX10_seekNeedOf_58 : decode cX10_seekNeedOf 58 = .ok (.getstatic 30, 3) := by decide +kernel
theorem dX10_seekNeedOf_61 : decode cX10_seekNeedOf 61 = .ok (.iload 6, 2) := by decide +kernel
theorem dX10_seekNeedOf_63 : decode cX10_seekNeedOf 63 = .ok (.iconst 1, 1) := by decide +kernel
theorem dX10_seekNeedOf_64 : decode cX10_seekNeedOf 64 = .ok (.iadd, 1) := by decide +kernel
theorem dX10_seekNeedOf_65 : decode cX10_seekNeedOf 65 = .ok (.iaload, 1) := by decide +kernel
theorem dX10_seekNeedOf_66 : decode cX10_seekNeedOf 66 = .ok (.istore 9, 2) := by decide +kernel
theorem dX10_seekNeedOf_68 : decode cX10_seekNeedOf 68 = .ok (.getstatic 30, 3) := by decide +kernel
theorem dX10_seekNeedOf_71 : decode cX10_seekNeedOf 71 = .ok (.iload 6, 2) := by decide +kernel
theorem dX10_seekNeedOf_73 : decode cX10_seekNeedOf 73 = .ok (.iaload, 1) := by decide +kernel
theorem dX10_seekNeedOf_74 : decode cX10_seekNeedOf 74 = .ok (.istore 10, 2) := by decide +kernel
theorem dX10_seekNeedOf_76 : decode cX10_seekNeedOf 76 = .ok (.iload 10, 2) := by decide +kernel
theorem dX10_seekNeedOf_78 : decode cX10_seekNeedOf 78 = .ok (.iload 9, 2) := by decide +kernel
theorem dX10_seekNeedOf_80 : decode cX10_seekNeedOf 80 = .ok (.if_icmp .ge 107, 3) := by decide +kernel
theorem dX10_seekNeedOf_83 : decode cX10_seekNeedOf 83 = .ok (.aload_n 0, 1) := by decide +kernel
theorem dX10_seekNeedOf_84 : decode cX10_seekNeedOf 84 = .ok (.getfield 9, 3) := by decide +kernel
theorem dX10_seekNeedOf_87 : decode cX10_seekNeedOf 87 = .ok (.iload 10, 2) := by decide +kernel
theorem dX10_seekNeedOf_89 : decode cX10_seekNeedOf 89 = .ok (.iaload, 1) := by decide +kernel
theorem dX10_seekNeedOf_90 : decode cX10_seekNeedOf 90 = .ok (.aload_n 0, 1) := by decide +kernel
theorem dX10_seekNeedOf_91 : decode cX10_seekNeedOf 91 = .ok (.getfield 19, 3) := by decide +kernel
theorem dX10_seekNeedOf_94 : decode cX10_seekNeedOf 94 = .ok (.getfield 43, 3) := by decide +kernel
theorem dX10_seekNeedOf_97 : decode cX10_seekNeedOf 97 = .ok (.ishr, 1) := by decide +kernel
theorem dX10_seekNeedOf_98 : decode cX10_seekNeedOf 98 = .ok (.ifCond .ne 89, 3) := by decide +kernel
theorem dX10_seekNeedOf_101 : decode cX10_seekNeedOf 101 = .ok (.aload_n 0, 1) := by decide +kernel
theorem dX10_seekNeedOf_102 : decode cX10_seekNeedOf 102 = .ok (.getfield 9, 3) := by decide +kernel
theorem dX10_seekNeedOf_105 : decode cX10_seekNeedOf 105 = .ok (.iload 10, 2) := by decide +kernel
theorem dX10_seekNeedOf_107 : decode cX10_seekNeedOf 107 = .ok (.iaload, 1) := by decide +kernel
theorem dX10_seekNeedOf_108 : decode cX10_seekNeedOf 108 = .ok (.iload 4, 2) := by decide +kernel
theorem dX10_seekNeedOf_110 : decode cX10_seekNeedOf 110 = .ok (.iand, 1) := by decide +kernel
theorem dX10_seekNeedOf_111 : decode cX10_seekNeedOf 111 = .ok (.ifCond .ne 7, 3) := by decide +kernel
theorem dX10_seekNeedOf_114 : decode cX10_seekNeedOf 114 = .ok (.iconst 1, 1) := by decide +kernel
theorem dX10_seekNeedOf_115 : decode cX10_seekNeedOf 115 = .ok (.goto 4, 3) := by decide +kernel
theorem dX10_seekNeedOf_118 : decode cX10_seekNeedOf 118 = .ok (.iconst 0, 1) := by decide +kernel
theorem dX10_seekNeedOf_119 : decode cX10_seekNeedOf 119 = .ok (.istore 11, 2) := by decide +kernel
theorem dX10_seekNeedOf_121 : decode cX10_seekNeedOf 121 = .ok (.iload 11, 2) := by decide +kernel
theorem dX10_seekNeedOf_123 : decode cX10_seekNeedOf 123 = .ok (.ifCond .eq 58, 3) := by decide +kernel
theorem dX10_seekNeedOf_126 : decode cX10_seekNeedOf 126 = .ok (.aload_n 0, 1) := by decide +kernel
theorem dX10_seekNeedOf_127 : decode cX10_seekNeedOf 127 = .ok (.getfield 23, 3) := by decide +kernel
theorem dX10_seekNeedOf_130 : decode cX10_seekNeedOf 130 = .ok (.aload_n 1, 1) := by decide +kernel
theorem dX10_seekNeedOf_131 : decode cX10_seekNeedOf 131 = .ok (.iload_n 2, 1) := by decide +kernel
theorem dX10_seekNeedOf_132 : decode cX10_seekNeedOf 132 = .ok (.iload_n 3, 1) := by decide +kernel
theorem dX10_seekNeedOf_133 : decode cX10_seekNeedOf 133 = .ok (.aload_n 0, 1) := by decide +kernel
theorem dX10_seekNeedOf_134 : decode cX10_seekNeedOf 134 = .ok (.getfield 9, 3) := by decide +kernel
theorem dX10_seekNeedOf_137 : decode cX10_seekNeedOf 137 = .ok (.iload 8, 2) := by decide +kernel
theorem dX10_seekNeedOf_139 : decode cX10_seekNeedOf 139 = .ok (.iaload, 1) := by decide +kernel
theorem dX10_seekNeedOf_140 : decode cX10_seekNeedOf 140 = .ok (.ior, 1) := by decide +kernel
theorem dX10_seekNeedOf_141 : decode cX10_seekNeedOf 141 = .ok (.iload 4, 2) := by decide +kernel
theorem dX10_seekNeedOf_143 : decode cX10_seekNeedOf 143 = .ok (.aload_n 0, 1) := by decide +kernel
theorem dX10_seekNeedOf_144 : decode cX10_seekNeedOf 144 = .ok (.getfield 9, 3) := by decide +kernel
theorem dX10_seekNeedOf_147 : decode cX10_seekNeedOf 147 = .ok (.iload 10, 2) := by decide +kernel
theorem dX10_seekNeedOf_149 : decode cX10_seekNeedOf 149 = .ok (.iaload, 1) := by decide +kernel
theorem dX10_seekNeedOf_150 : decode cX10_seekNeedOf 150 = .ok (.ior, 1) := by decide +kernel
theorem dX10_seekNeedOf_151 : decode cX10_seekNeedOf 151 = .ok (.invokevirtual 46, 3) := by decide +kernel
theorem dX10_seekNeedOf_154 : decode cX10_seekNeedOf 154 = .ok (.ifCond .eq 27, 3) := by decide +kernel
theorem dX10_seekNeedOf_157 : decode cX10_seekNeedOf 157 = .ok (.aload_n 0, 1) := by decide +kernel
theorem dX10_seekNeedOf_158 : decode cX10_seekNeedOf 158 = .ok (.aload_n 0, 1) := by decide +kernel
theorem dX10_seekNeedOf_159 : decode cX10_seekNeedOf 159 = .ok (.getfield 9, 3) := by decide +kernel
theorem dX10_seekNeedOf_162 : decode cX10_seekNeedOf 162 = .ok (.iload 8, 2) := by decide +kernel
theorem dX10_seekNeedOf_164 : decode cX10_seekNeedOf 164 = .ok (.iaload, 1) := by decide +kernel
theorem dX10_seekNeedOf_165 : decode cX10_seekNeedOf 165 = .ok (.putfield 52, 3) := by decide +kernel
theorem dX10_seekNeedOf_168 : decode cX10_seekNeedOf 168 = .ok (.aload_n 0, 1) := by decide +kernel
theorem dX10_seekNeedOf_169 : decode cX10_seekNeedOf 169 = .ok (.aload_n 0, 1) := by decide +kernel
theorem dX10_seekNeedOf_170 : decode cX10_seekNeedOf 170 = .ok (.getfield 9, 3) := by decide +kernel
theorem dX10_seekNeedOf_173 : decode cX10_seekNeedOf 173 = .ok (.iload 10, 2) := by decide +kernel
theorem dX10_seekNeedOf_175 : decode cX10_seekNeedOf 175 = .ok (.iaload, 1) := by decide +kernel
theorem dX10_seekNeedOf_176 : decode cX10_seekNeedOf 176 = .ok (.putfield 55, 3) := by decide +kernel
theorem dX10_seekNeedOf_179 : decode cX10_seekNeedOf 179 = .ok (.iconst 1, 1) := by decide +kernel
theorem dX10_seekNeedOf_180 : decode cX10_seekNeedOf 180 = .ok (.ireturn, 1) := by decide +kernel
theorem dX10_seekNeedOf_181 : decode cX10_seekNeedOf 181 = .ok (.iinc 10 1, 3) := by decide +kernel
theorem dX10_seekNeedOf_184 : decode cX10_seekNeedOf 184 = .ok (.goto (-108), 3) := by decide +kernel
theorem dX10_seekNeedOf_187 : decode cX10_seekNeedOf 187 = .ok (.iinc 8 1, 3) := by decide +kernel
theorem dX10_seekNeedOf_190 : decode cX10_seekNeedOf 190 = .ok (.goto (-172), 3) := by decide +kernel
theorem dX10_seekNeedOf_193 : decode cX10_seekNeedOf 193 = .ok (.iconst 0, 1) := by decide +kernel
theorem dX10_seekNeedOf_194 : decode cX10_seekNeedOf 194 = .ok (.ireturn, 1) := by decide +kernel
def bX10_seekNeedOf_187 (u1 : Nat) (r18 : Int32 → Int32 → Int32 → Int32 → Int32 → Int32 → Hp → Option (Int32 × Hp)) (x2 : Int32) (x3 : Int32) (x4 : Int32) (x6 : Int32) (x7 : Int32) (x8 : Int32) (h : Hp) : Option (Int32 × Hp) := lt (x8 + 1) (fun v1 => r18 x2 x3 x4 x6 x7 v1 h)
set_option maxRecDepth 20000 in
theorem BX10_seekNeedOf_187 {Z : ZT} {G : GT} {r : Int32} {hr : Hp} (X : CX Z G cX10_seekNeedOf RX10 12 3) (E : RX Z G (some .boolean) (some (.int r)) hr) (u1 : Nat) (hu1 : isL u1) (hz : HZ Z) (r18 : Int32 → Int32 → Int32 → Int32 → Int32 → Int32 → Hp → Option (Int32 × Hp)) (hr18 : ∀ (x2 : Int32) (x3 : Int32) (x4 : Int32) (x6 : Int32) (x7 : Int32) (x8 : Int32) (h : Hp), r18 x2 x3 x4 x6 x7 x8 h = some (r, hr) → J Z G 12 h 18 [(0, .ref (Z.2.1 206)), (1, .ref (Z.2.1 u1)), (2, .int x2), (3, .int x3), (4, .int x4), (6, .int x6), (7, .int x7), (8, .int x8)] []) (x2 : Int32) (x3 : Int32) (x4 : Int32) (x6 : Int32) (x7 : Int32) (x8 : Int32) (h : Hp) (hF : bX10_seekNeedOf_187 u1 r18 x2 x3 x4 x6 x7 x8 h = some (r, hr)) : J Z G 12 h 187 [(0, .ref (Z.2.1 206)), (1, .ref (Z.2.1 u1)), (2, .int x2), (3, .int x3), (4, .int x4), (6, .int x6), (7, .int x7), (8, .int x8)] [] := by
  unfold bX10_seekNeedOf_187 at hF
  refine j_iinc (pc := 187) 7 (x8 + 1) (fun y => [(8, .int y), (0, .ref (Z.2.1 206)), (1, .ref (Z.2.1 u1)), (2, .int x2), (3, .int x3), (4, .int x4), (6, .int x6), (7, .int x7)]) X dX10_seekNeedOf_187 rfl rfl (by decide) (fun _ => rfl) hF (fun v1 hF => ?_)
  refine j_goto (pc := 190) 18 X dX10_seekNeedOf_190 rfl ?_
  refine j_lv [(0, .ref (Z.2.1 206)), (1, .ref (Z.2.1 u1)), (2, .int x2), (3, .int x3), (4, .int x4), (6, .int x6), (7, .int x7), (8, .int v1)] [1, 2, 3, 4, 5, 6, 7, 0] rfl ?_
  exact hr18 x2 x3 x4 x6 x7 v1 h hF
def bX10_seekNeedOf_181 (u1 : Nat) (r18 : Int32 → Int32 → Int32 → Int32 → Int32 → Int32 → Hp → Option (Int32 × Hp)) (r76 : Int32 → Int32 → Int32 → Int32 → Int32 → Int32 → Int32 → Int32 → Hp → Option (Int32 × Hp)) (x2 : Int32) (x3 : Int32) (x4 : Int32) (x6 : Int32) (x7 : Int32) (x8 : Int32) (x9 : Int32) (x10 : Int32) (h : Hp) : Option (Int32 × Hp) := lt (x10 + 1) (fun v1 => r76 x2 x3 x4 x6 x7 x8 x9 v1 h)
set_option maxRecDepth 20000 in
theorem BX10_seekNeedOf_181 {Z : ZT} {G : GT} {r : Int32} {hr : Hp} (X : CX Z G cX10_seekNeedOf RX10 12 3) (E : RX Z G (some .boolean) (some (.int r)) hr) (u1 : Nat) (hu1 : isL u1) (hz : HZ Z) (r18 : Int32 → Int32 → Int32 → Int32 → Int32 → Int32 → Hp → Option (Int32 × Hp)) (hr18 : ∀ (x2 : Int32) (x3 : Int32) (x4 : Int32) (x6 : Int32) (x7 : Int32) (x8 : Int32) (h : Hp), r18 x2 x3 x4 x6 x7 x8 h = some (r, hr) → J Z G 12 h 18 [(0, .ref (Z.2.1 206)), (1, .ref (Z.2.1 u1)), (2, .int x2), (3, .int x3), (4, .int x4), (6, .int x6), (7, .int x7), (8, .int x8)] []) (r76 : Int32 → Int32 → Int32 → Int32 → Int32 → Int32 → Int32 → Int32 → Hp → Option (Int32 × Hp)) (hr76 : ∀ (x2 : Int32) (x3 : Int32) (x4 : Int32) (x6 : Int32) (x7 : Int32) (x8 : Int32) (x9 : Int32) (x10 : Int32) (h : Hp), r76 x2 x3 x4 x6 x7 x8 x9 x10 h = some (r, hr) → J Z G 12 h 76 [(0, .ref (Z.2.1 206)), (1, .ref (Z.2.1 u1)), (2, .int x2), (3, .int x3), (4, .int x4), (6, .int x6), (7, .int x7), (8, .int x8), (9, .int x9), (10, .int x10)] []) (x2 : Int32) (x3 : Int32) (x4 : Int32) (x6 : Int32) (x7 : Int32) (x8 : Int32) (x9 : Int32) (x10 : Int32) (h : Hp) (hF : bX10_seekNeedOf_181 u1 r18 r76 x2 x3 x4 x6 x7 x8 x9 x10 h = some (r, hr)) : J Z G 12 h 181 [(0, .ref (Z.2.1 206)), (1, .ref (Z.2.1 u1)), (2, .int x2), (3, .int x3), (4, .int x4), (6, .int x6), (7, .int x7), (8, .int x8), (9, .int x9), (10, .int x10)] [] := by
  unfold bX10_seekNeedOf_181 at hF
  refine j_iinc (pc := 181) 9 (x10 + 1) (fun y => [(10, .int y), (0, .ref (Z.2.1 206)), (1, .ref (Z.2.1 u1)), (2, .int x2), (3, .int x3), (4, .int x4), (6, .int x6), (7, .int x7), (8, .int x8), (9, .int x9)]) X dX10_seekNeedOf_181 rfl rfl (by decide) (fun _ => rfl) hF (fun v1 hF => ?_)
  refine j_goto (pc := 184) 76 X dX10_seekNeedOf_184 rfl ?_
  refine j_lv [(0, .ref (Z.2.1 206)), (1, .ref (Z.2.1 u1)), (2, .int x2), (3, .int x3), (4, .int x4), (6, .int x6), (7, .int x7), (8, .int x8), (9, .int x9), (10, .int v1)] [1, 2, 3, 4, 5, 6, 7, 8, 9, 0] rfl ?_
  exact hr76 x2 x3 x4 x6 x7 x8 x9 v1 h hF
def bX10_seekNeedOf_119 (u1 : Nat) (r18 : Int32 → Int32 → Int32 → Int32 → Int32 → Int32 → Hp → Option (Int32 × Hp)) (r76 : Int32 → Int32 → Int32 → Int32 → Int32 → Int32 → Int32 → Int32 → Hp → Option (Int32 × Hp)) (x2 : Int32) (x3 : Int32) (x4 : Int32) (x6 : Int32) (x7 : Int32) (x8 : Int32) (x9 : Int32) (x10 : Int32) (s0 : Int32) (h : Hp) : Option (Int32 × Hp) := lt s0 (fun v1 => (if v1 = 0 then bX10_seekNeedOf_181 u1 r18 r76 x2 x3 x4 x6 x7 x8 x9 x10 h else ck (inb x8 176) (ck (inb x10 176) (bi (fX6_holds u1 x2 (x3 ||| (h.1 207 (ix x8))) (x4 ||| (h.1 207 (ix x10))) h) (fun w3 h2 => (if w3 = 0 then bX10_seekNeedOf_181 u1 r18 r76 x2 x3 x4 x6 x7 x8 x9 x10 h2 else ck (inb x8 176) (lt (wI h2 206 4 (h2.1 207 (ix x8))) (fun h4 => ck (inb x10 176) (lt (wI h4 206 5 (h4.1 207 (ix x10))) (fun h5 => ck (zb 1) (some (1, h5))))))))))))
set_option maxRecDepth 20000 in
theorem BX10_seekNeedOf_119 {Z : ZT} {G : GT} {r : Int32} {hr : Hp} (X : CX Z G cX10_seekNeedOf RX10 12 3) (E : RX Z G (some .boolean) (some (.int r)) hr) (u1 : Nat) (hu1 : isL u1) (hz : HZ Z) (r18 : Int32 → Int32 → Int32 → Int32 → Int32 → Int32 → Hp → Option (Int32 × Hp)) (hr18 : ∀ (x2 : Int32) (x3 : Int32) (x4 : Int32) (x6 : Int32) (x7 : Int32) (x8 : Int32) (h : Hp), r18 x2 x3 x4 x6 x7 x8 h = some (r, hr) → J Z G 12 h 18 [(0, .ref (Z.2.1 206)), (1, .ref (Z.2.1 u1)), (2, .int x2), (3, .int x3), (4, .int x4), (6, .int x6), (7, .int x7), (8, .int x8)] []) (r76 : Int32 → Int32 → Int32 → Int32 → Int32 → Int32 → Int32 → Int32 → Hp → Option (Int32 × Hp)) (hr76 : ∀ (x2 : Int32) (x3 : Int32) (x4 : Int32) (x6 : Int32) (x7 : Int32) (x8 : Int32) (x9 : Int32) (x10 : Int32) (h : Hp), r76 x2 x3 x4 x6 x7 x8 x9 x10 h = some (r, hr) → J Z G 12 h 76 [(0, .ref (Z.2.1 206)), (1, .ref (Z.2.1 u1)), (2, .int x2), (3, .int x3), (4, .int x4), (6, .int x6), (7, .int x7), (8, .int x8), (9, .int x9), (10, .int x10)] []) (x2 : Int32) (x3 : Int32) (x4 : Int32) (x6 : Int32) (x7 : Int32) (x8 : Int32) (x9 : Int32) (x10 : Int32) (s0 : Int32) (h : Hp) (hF : bX10_seekNeedOf_119 u1 r18 r76 x2 x3 x4 x6 x7 x8 x9 x10 s0 h = some (r, hr)) : J Z G 12 h 119 [(0, .ref (Z.2.1 206)), (1, .ref (Z.2.1 u1)), (2, .int x2), (3, .int x3), (4, .int x4), (6, .int x6), (7, .int x7), (8, .int x8), (9, .int x9), (10, .int x10)] [.int s0] := by
  unfold bX10_seekNeedOf_119 at hF
  refine j_istore (pc := 119) (fun y => [(11, .int y), (0, .ref (Z.2.1 206)), (1, .ref (Z.2.1 u1)), (2, .int x2), (3, .int x3), (4, .int x4), (6, .int x6), (7, .int x7), (8, .int x8), (9, .int x9), (10, .int x10)]) X dX10_seekNeedOf_119 (by decide) (fun _ => rfl) hF (fun v1 hF => ?_)
  refine j_iload (pc := 121) 0 X dX10_seekNeedOf_121 rfl ?_
  refine j_if_eq (pc := 123) 181 X dX10_seekNeedOf_123 rfl hF (fun hF => ?_) (fun hF => ?_)
  · refine j_lv [(0, .ref (Z.2.1 206)), (1, .ref (Z.2.1 u1)), (2, .int x2), (3, .int x3), (4, .int x4), (6, .int x6), (7, .int x7), (8, .int x8), (9, .int x9), (10, .int x10)] [1, 2, 3, 4, 5, 6, 7, 8, 9, 10] rfl ?_
    exact BX10_seekNeedOf_181 X E u1 hu1 hz r18 hr18 r76 hr76 x2 x3 x4 x6 x7 x8 x9 x10 h hF
  · refine j_aload_n (pc := 126) 1 X dX10_seekNeedOf_126 rfl ?_
    refine j_getr (pc := 127) X dX10_seekNeedOf_127 (hz _ sh_206) fl_X10_23 rfl ?_
    refine j_aload_n (pc := 130) 2 X dX10_seekNeedOf_130 rfl ?_
    refine j_iload_n (pc := 131) 3 X dX10_seekNeedOf_131 rfl ?_
    refine j_iload_n (pc := 132) 4 X dX10_seekNeedOf_132 rfl ?_
    refine j_aload_n (pc := 133) 1 X dX10_seekNeedOf_133 rfl ?_
    refine j_getr (pc := 134) X dX10_seekNeedOf_134 (hz _ sh_206) fl_X10_9 rfl ?_
    refine j_iload (pc := 137) 8 X dX10_seekNeedOf_137 rfl ?_
    refine j_iald (pc := 139) X dX10_seekNeedOf_139 (hz _ sh_207) hF (fun hF => ?_)
    refine j_ior (pc := 140) X dX10_seekNeedOf_140 ?_
    refine j_iload (pc := 141) 5 X dX10_seekNeedOf_141 rfl ?_
    refine j_aload_n (pc := 143) 1 X dX10_seekNeedOf_143 rfl ?_
    refine j_getr (pc := 144) X dX10_seekNeedOf_144 (hz _ sh_206) fl_X10_9 rfl ?_
    refine j_iload (pc := 147) 10 X dX10_seekNeedOf_147 rfl ?_
    refine j_iald (pc := 149) X dX10_seekNeedOf_149 (hz _ sh_207) hF (fun hF => ?_)
    refine j_ior (pc := 150) X dX10_seekNeedOf_150 ?_
    refine j_cVi (pc := 151) (As := [.ref (Z.2.1 u1), .int x2, .int (x3 ||| (h.1 207 (ix x8))), .int (x4 ||| (h.1 207 (ix x10)))]) (rest := []) X dX10_seekNeedOf_151 ml_X10_46 ck_X6_holds cv_X6_holds (hz _ sh_147) rfl (Nat.le_of_ble_eq_true rfl) rfl (Nat.le_of_ble_eq_true rfl) rfl hF (tX6_holds Z u1 hu1 x2 (x3 ||| (h.1 207 (ix x8))) (x4 ||| (h.1 207 (ix x10))) hz h) (fun w3 h2 hF => ?_)
    refine j_if_eq (pc := 154) 181 X dX10_seekNeedOf_154 rfl hF (fun hF => ?_) (fun hF => ?_)
    · refine j_lv [(0, .ref (Z.2.1 206)), (1, .ref (Z.2.1 u1)), (2, .int x2), (3, .int x3), (4, .int x4), (6, .int x6), (7, .int x7), (8, .int x8), (9, .int x9), (10, .int x10)] [1, 2, 3, 4, 5, 6, 7, 8, 9, 10] rfl ?_
      exact BX10_seekNeedOf_181 X E u1 hu1 hz r18 hr18 r76 hr76 x2 x3 x4 x6 x7 x8 x9 x10 h2 hF
    · refine j_aload_n (pc := 157) 1 X dX10_seekNeedOf_157 rfl ?_
      refine j_aload_n (pc := 158) 1 X dX10_seekNeedOf_158 rfl ?_
      refine j_getr (pc := 159) X dX10_seekNeedOf_159 (hz _ sh_206) fl_X10_9 rfl ?_
      refine j_iload (pc := 162) 8 X dX10_seekNeedOf_162 rfl ?_
      refine j_iald (pc := 164) X dX10_seekNeedOf_164 (hz _ sh_207) hF (fun hF => ?_)
      refine j_puti (pc := 165) X dX10_seekNeedOf_165 (hz _ sh_206) fp_X10_52 rfl hF (fun h4 hF => ?_)
      refine j_aload_n (pc := 168) 1 X dX10_seekNeedOf_168 rfl ?_
      refine j_aload_n (pc := 169) 1 X dX10_seekNeedOf_169 rfl ?_
      refine j_getr (pc := 170) X dX10_seekNeedOf_170 (hz _ sh_206) fl_X10_9 rfl ?_
      refine j_iload (pc := 173) 10 X dX10_seekNeedOf_173 rfl ?_
      refine j_iald (pc := 175) X dX10_seekNeedOf_175 (hz _ sh_207) hF (fun hF => ?_)
      refine j_puti (pc := 176) X dX10_seekNeedOf_176 (hz _ sh_206) fp_X10_55 rfl hF (fun h5 hF => ?_)
      refine j_iconst (pc := 179) 1 X dX10_seekNeedOf_179 rfl ?_
      exact j_zret (pc := 180) X E dX10_seekNeedOf_180 hF
def bX10_seekNeedOf_76 (u1 : Nat) (r18 : Int32 → Int32 → Int32 → Int32 → Int32 → Int32 → Hp → Option (Int32 × Hp)) (r76 : Int32 → Int32 → Int32 → Int32 → Int32 → Int32 → Int32 → Int32 → Hp → Option (Int32 × Hp)) (x2 : Int32) (x3 : Int32) (x4 : Int32) (x6 : Int32) (x7 : Int32) (x8 : Int32) (x9 : Int32) (x10 : Int32) (h : Hp) : Option (Int32 × Hp) := (if x9 ≤ x10 then bX10_seekNeedOf_187 u1 r18 x2 x3 x4 x6 x7 x8 h else ck (inb x10 176) ((if ((h.1 207 (ix x10)) >>> ((h.1 108 9) &&& 31)) = 0 then ck (inb x10 176) ((if ((h.1 207 (ix x10)) &&& x4) = 0 then bX10_seekNeedOf_119 u1 r18 r76 x2 x3 x4 x6 x7 x8 x9 x10 1 h else bX10_seekNeedOf_119 u1 r18 r76 x2 x3 x4 x6 x7 x8 x9 x10 0 h)) else bX10_seekNeedOf_187 u1 r18 x2 x3 x4 x6 x7 x8 h)))
def lX10_seekNeedOf_76 (u1 : Nat) (r18 : Int32 → Int32 → Int32 → Int32 → Int32 → Int32 → Hp → Option (Int32 × Hp)) : Nat → Int32 → Int32 → Int32 → Int32 → Int32 → Int32 → Int32 → Int32 → Hp → Option (Int32 × Hp)
  | 0 => fun _ _ _ _ _ _ _ _ _ => none
  | n + 1 => bX10_seekNeedOf_76 u1 r18 (lX10_seekNeedOf_76 u1 r18 n)
set_option maxRecDepth 20000 in
theorem BX10_seekNeedOf_76 {Z : ZT} {G : GT} {r : Int32} {hr : Hp} (X : CX Z G cX10_seekNeedOf RX10 12 3) (E : RX Z G (some .boolean) (some (.int r)) hr) (u1 : Nat) (hu1 : isL u1) (hz : HZ Z) (r18 : Int32 → Int32 → Int32 → Int32 → Int32 → Int32 → Hp → Option (Int32 × Hp)) (hr18 : ∀ (x2 : Int32) (x3 : Int32) (x4 : Int32) (x6 : Int32) (x7 : Int32) (x8 : Int32) (h : Hp), r18 x2 x3 x4 x6 x7 x8 h = some (r, hr) → J Z G 12 h 18 [(0, .ref (Z.2.1 206)), (1, .ref (Z.2.1 u1)), (2, .int x2), (3, .int x3), (4, .int x4), (6, .int x6), (7, .int x7), (8, .int x8)] []) (r76 : Int32 → Int32 → Int32 → Int32 → Int32 → Int32 → Int32 → Int32 → Hp → Option (Int32 × Hp)) (hr76 : ∀ (x2 : Int32) (x3 : Int32) (x4 : Int32) (x6 : Int32) (x7 : Int32) (x8 : Int32) (x9 : Int32) (x10 : Int32) (h : Hp), r76 x2 x3 x4 x6 x7 x8 x9 x10 h = some (r, hr) → J Z G 12 h 76 [(0, .ref (Z.2.1 206)), (1, .ref (Z.2.1 u1)), (2, .int x2), (3, .int x3), (4, .int x4), (6, .int x6), (7, .int x7), (8, .int x8), (9, .int x9), (10, .int x10)] []) (x2 : Int32) (x3 : Int32) (x4 : Int32) (x6 : Int32) (x7 : Int32) (x8 : Int32) (x9 : Int32) (x10 : Int32) (h : Hp) (hF : bX10_seekNeedOf_76 u1 r18 r76 x2 x3 x4 x6 x7 x8 x9 x10 h = some (r, hr)) : J Z G 12 h 76 [(0, .ref (Z.2.1 206)), (1, .ref (Z.2.1 u1)), (2, .int x2), (3, .int x3), (4, .int x4), (6, .int x6), (7, .int x7), (8, .int x8), (9, .int x9), (10, .int x10)] [] := by
  unfold bX10_seekNeedOf_76 at hF
  refine j_iload (pc := 76) 9 X dX10_seekNeedOf_76 rfl ?_
  refine j_iload (pc := 78) 8 X dX10_seekNeedOf_78 rfl ?_
  refine j_icmp_ge (pc := 80) 187 X dX10_seekNeedOf_80 rfl hF (fun hF => ?_) (fun hF => ?_)
  · refine j_lv [(0, .ref (Z.2.1 206)), (1, .ref (Z.2.1 u1)), (2, .int x2), (3, .int x3), (4, .int x4), (6, .int x6), (7, .int x7), (8, .int x8)] [0, 1, 2, 3, 4, 5, 6, 7] rfl ?_
    exact BX10_seekNeedOf_187 X E u1 hu1 hz r18 hr18 x2 x3 x4 x6 x7 x8 h hF
  · refine j_aload_n (pc := 83) 0 X dX10_seekNeedOf_83 rfl ?_
    refine j_getr (pc := 84) X dX10_seekNeedOf_84 (hz _ sh_206) fl_X10_9 rfl ?_
    refine j_iload (pc := 87) 9 X dX10_seekNeedOf_87 rfl ?_
    refine j_iald (pc := 89) X dX10_seekNeedOf_89 (hz _ sh_207) hF (fun hF => ?_)
    refine j_aload_n (pc := 90) 0 X dX10_seekNeedOf_90 rfl ?_
    refine j_getr (pc := 91) X dX10_seekNeedOf_91 (hz _ sh_206) fl_X10_19 rfl ?_
    refine j_geti (pc := 94) X dX10_seekNeedOf_94 (hz _ sh_108) fl_X10_43 rfl ?_
    refine j_ishr (pc := 97) X dX10_seekNeedOf_97 ?_
    refine j_if_ne (pc := 98) 187 X dX10_seekNeedOf_98 rfl hF (fun hF => ?_) (fun hF => ?_)
    · refine j_lv [(0, .ref (Z.2.1 206)), (1, .ref (Z.2.1 u1)), (2, .int x2), (3, .int x3), (4, .int x4), (6, .int x6), (7, .int x7), (8, .int x8)] [0, 1, 2, 3, 4, 5, 6, 7] rfl ?_
      exact BX10_seekNeedOf_187 X E u1 hu1 hz r18 hr18 x2 x3 x4 x6 x7 x8 h hF
    · refine j_aload_n (pc := 101) 0 X dX10_seekNeedOf_101 rfl ?_
      refine j_getr (pc := 102) X dX10_seekNeedOf_102 (hz _ sh_206) fl_X10_9 rfl ?_
      refine j_iload (pc := 105) 9 X dX10_seekNeedOf_105 rfl ?_
      refine j_iald (pc := 107) X dX10_seekNeedOf_107 (hz _ sh_207) hF (fun hF => ?_)
      refine j_iload (pc := 108) 4 X dX10_seekNeedOf_108 rfl ?_
      refine j_iand (pc := 110) X dX10_seekNeedOf_110 ?_
      refine j_if_ne (pc := 111) 118 X dX10_seekNeedOf_111 rfl hF (fun hF => ?_) (fun hF => ?_)
      · refine j_iconst (pc := 118) 0 X dX10_seekNeedOf_118 rfl ?_
        exact BX10_seekNeedOf_119 X E u1 hu1 hz r18 hr18 r76 hr76 x2 x3 x4 x6 x7 x8 x9 x10 0 h hF
      · refine j_iconst (pc := 114) 1 X dX10_seekNeedOf_114 rfl ?_
        refine j_goto (pc := 115) 119 X dX10_seekNeedOf_115 rfl ?_
        exact BX10_seekNeedOf_119 X E u1 hu1 hz r18 hr18 r76 hr76 x2 x3 x4 x6 x7 x8 x9 x10 1 h hF
theorem LX10_seekNeedOf_76 {Z : ZT} {G : GT} {r : Int32} {hr : Hp} (X : CX Z G cX10_seekNeedOf RX10 12 3) (E : RX Z G (some .boolean) (some (.int r)) hr) (u1 : Nat) (hu1 : isL u1) (hz : HZ Z) (r18 : Int32 → Int32 → Int32 → Int32 → Int32 → Int32 → Hp → Option (Int32 × Hp)) (hr18 : ∀ (x2 : Int32) (x3 : Int32) (x4 : Int32) (x6 : Int32) (x7 : Int32) (x8 : Int32) (h : Hp), r18 x2 x3 x4 x6 x7 x8 h = some (r, hr) → J Z G 12 h 18 [(0, .ref (Z.2.1 206)), (1, .ref (Z.2.1 u1)), (2, .int x2), (3, .int x3), (4, .int x4), (6, .int x6), (7, .int x7), (8, .int x8)] []) : ∀ (n : Nat) (x2 : Int32) (x3 : Int32) (x4 : Int32) (x6 : Int32) (x7 : Int32) (x8 : Int32) (x9 : Int32) (x10 : Int32) (h : Hp), lX10_seekNeedOf_76 u1 r18 n x2 x3 x4 x6 x7 x8 x9 x10 h = some (r, hr) → J Z G 12 h 76 [(0, .ref (Z.2.1 206)), (1, .ref (Z.2.1 u1)), (2, .int x2), (3, .int x3), (4, .int x4), (6, .int x6), (7, .int x7), (8, .int x8), (9, .int x9), (10, .int x10)] [] := by
  intro n
  induction n with
  | zero => intro x2 x3 x4 x6 x7 x8 x9 x10 h hF; cases hF
  | succ n ih => intro x2 x3 x4 x6 x7 x8 x9 x10 h hF; exact BX10_seekNeedOf_76 X E u1 hu1 hz r18 hr18 (lX10_seekNeedOf_76 u1 r18 n) ih x2 x3 x4 x6 x7 x8 x9 x10 h hF
def bX10_seekNeedOf_18 (u1 : Nat)  (r18 : Int32 → Int32 → Int32 → Int32 → Int32 → Int32 → Hp → Option (Int32 × Hp)) (x2 : Int32) (x3 : Int32) (x4 : Int32) (x6 : Int32) (x7 : Int32) (x8 : Int32) (h : Hp) : Option (Int32 × Hp) := (if x7 ≤ x8 then ck (zb 0) (some (0, h)) else ck (inb x8 176) ((if ((h.1 207 (ix x8)) >>> ((h.1 108 6) &&& 31)) = 0 then ck (inb x8 176) ((if ((h.1 207 (ix x8)) &&& x3) = 0 then ck (inb (x6 + 1) 5) (lt (fsi (ix (x6 + 1))) (fun v1 => ck (inb x6 5) (lt (fsi (ix x6)) (fun v2 => lX10_seekNeedOf_76 u1 r18 FU x2 x3 x4 x6 x7 x8 v1 v2 h)))) else bX10_seekNeedOf_187 u1 r18 x2 x3 x4 x6 x7 x8 h)) else ck (zb 0) (some (0, h)))))
def lX10_seekNeedOf_18 (u1 : Nat)  : Nat → Int32 → Int32 → Int32 → Int32 → Int32 → Int32 → Hp → Option (Int32 × Hp)
  | 0 => fun _ _ _ _ _ _ _ => none
  | n + 1 => bX10_seekNeedOf_18 u1  (lX10_seekNeedOf_18 u1  n)
set_option maxRecDepth 20000 in
theorem BX10_seekNeedOf_18 {Z : ZT} {G : GT} {r : Int32} {hr : Hp} (X : CX Z G cX10_seekNeedOf RX10 12 3) (E : RX Z G (some .boolean) (some (.int r)) hr) (u1 : Nat) (hu1 : isL u1) (hz : HZ Z)  (r18 : Int32 → Int32 → Int32 → Int32 → Int32 → Int32 → Hp → Option (Int32 × Hp)) (hr18 : ∀ (x2 : Int32) (x3 : Int32) (x4 : Int32) (x6 : Int32) (x7 : Int32) (x8 : Int32) (h : Hp), r18 x2 x3 x4 x6 x7 x8 h = some (r, hr) → J Z G 12 h 18 [(0, .ref (Z.2.1 206)), (1, .ref (Z.2.1 u1)), (2, .int x2), (3, .int x3), (4, .int x4), (6, .int x6), (7, .int x7), (8, .int x8)] []) (x2 : Int32) (x3 : Int32) (x4 : Int32) (x6 : Int32) (x7 : Int32) (x8 : Int32) (h : Hp) (hF : bX10_seekNeedOf_18 u1  r18 x2 x3 x4 x6 x7 x8 h = some (r, hr)) : J Z G 12 h 18 [(0, .ref (Z.2.1 206)), (1, .ref (Z.2.1 u1)), (2, .int x2), (3, .int x3), (4, .int x4), (6, .int x6), (7, .int x7), (8, .int x8)] [] := by
  unfold bX10_seekNeedOf_18 at hF
  refine j_iload (pc := 18) 7 X dX10_seekNeedOf_18 rfl ?_
  refine j_iload (pc := 20) 6 X dX10_seekNeedOf_20 rfl ?_
  refine j_icmp_ge (pc := 22) 193 X dX10_seekNeedOf_22 rfl hF (fun hF => ?_) (fun hF => ?_)
  · refine j_iconst (pc := 193) 0 X dX10_seekNeedOf_193 rfl ?_
    exact j_zret (pc := 194) X E dX10_seekNeedOf_194 hF
  · refine j_aload_n (pc := 25) 0 X dX10_seekNeedOf_25 rfl ?_
    refine j_getr (pc := 26) X dX10_seekNeedOf_26 (hz _ sh_206) fl_X10_9 rfl ?_
    refine j_iload (pc := 29) 7 X dX10_seekNeedOf_29 rfl ?_
    refine j_iald (pc := 31) X dX10_seekNeedOf_31 (hz _ sh_207) hF (fun hF => ?_)
    refine j_aload_n (pc := 32) 0 X dX10_seekNeedOf_32 rfl ?_
    refine j_getr (pc := 33) X dX10_seekNeedOf_33 (hz _ sh_206) fl_X10_19 rfl ?_
    refine j_geti (pc := 36) X dX10_seekNeedOf_36 (hz _ sh_108) fl_X10_37 rfl ?_
    refine j_ishr (pc := 39) X dX10_seekNeedOf_39 ?_
    refine j_if_ne (pc := 40) 193 X dX10_seekNeedOf_40 rfl hF (fun hF => ?_) (fun hF => ?_)
    · refine j_iconst (pc := 193) 0 X dX10_seekNeedOf_193 rfl ?_
      exact j_zret (pc := 194) X E dX10_seekNeedOf_194 hF
    · refine j_aload_n (pc := 43) 0 X dX10_seekNeedOf_43 rfl ?_
      refine j_getr (pc := 44) X dX10_seekNeedOf_44 (hz _ sh_206) fl_X10_9 rfl ?_
      refine j_iload (pc := 47) 7 X dX10_seekNeedOf_47 rfl ?_
      refine j_iald (pc := 49) X dX10_seekNeedOf_49 (hz _ sh_207) hF (fun hF => ?_)
      refine j_iload_n (pc := 50) 3 X dX10_seekNeedOf_50 rfl ?_
      refine j_iand (pc := 51) X dX10_seekNeedOf_51 ?_
      refine j_if_eq (pc := 52) 58 X dX10_seekNeedOf_52 rfl hF (fun hF => ?_) (fun hF => ?_)
      · refine j_gfew (pc := 58) X dX10_seekNeedOf_58 gs_X10_30 ?_
        refine j_iload (pc := 61) 5 X dX10_seekNeedOf_61 rfl ?_
        refine j_iconst (pc := 63) 1 X dX10_seekNeedOf_63 rfl ?_
        refine j_iadd (pc := 64) X dX10_seekNeedOf_64 ?_
        refine j_fald (pc := 65) X dX10_seekNeedOf_65 hF (fun hF => ?_)
        refine j_istore (pc := 66) (fun y => [(9, .int y), (0, .ref (Z.2.1 206)), (1, .ref (Z.2.1 u1)), (2, .int x2), (3, .int x3), (4, .int x4), (6, .int x6), (7, .int x7), (8, .int x8)]) X dX10_seekNeedOf_66 (by decide) (fun _ => rfl) hF (fun v1 hF => ?_)
        refine j_gfew (pc := 68) X dX10_seekNeedOf_68 gs_X10_30 ?_
        refine j_iload (pc := 71) 6 X dX10_seekNeedOf_71 rfl ?_
        refine j_fald (pc := 73) X dX10_seekNeedOf_73 hF (fun hF => ?_)
        refine j_istore (pc := 74) (fun y => [(10, .int y), (9, .int v1), (0, .ref (Z.2.1 206)), (1, .ref (Z.2.1 u1)), (2, .int x2), (3, .int x3), (4, .int x4), (6, .int x6), (7, .int x7), (8, .int x8)]) X dX10_seekNeedOf_74 (by decide) (fun _ => rfl) hF (fun v2 hF => ?_)
        refine j_lv [(0, .ref (Z.2.1 206)), (1, .ref (Z.2.1 u1)), (2, .int x2), (3, .int x3), (4, .int x4), (6, .int x6), (7, .int x7), (8, .int x8), (9, .int v1), (10, .int v2)] [2, 3, 4, 5, 6, 7, 8, 9, 1, 0] rfl ?_
        exact LX10_seekNeedOf_76 X E u1 hu1 hz r18 hr18 FU x2 x3 x4 x6 x7 x8 v1 v2 h hF
      · refine j_goto (pc := 55) 187 X dX10_seekNeedOf_55 rfl ?_
        exact BX10_seekNeedOf_187 X E u1 hu1 hz r18 hr18 x2 x3 x4 x6 x7 x8 h hF
theorem LX10_seekNeedOf_18 {Z : ZT} {G : GT} {r : Int32} {hr : Hp} (X : CX Z G cX10_seekNeedOf RX10 12 3) (E : RX Z G (some .boolean) (some (.int r)) hr) (u1 : Nat) (hu1 : isL u1) (hz : HZ Z)  : ∀ (n : Nat) (x2 : Int32) (x3 : Int32) (x4 : Int32) (x6 : Int32) (x7 : Int32) (x8 : Int32) (h : Hp), lX10_seekNeedOf_18 u1  n x2 x3 x4 x6 x7 x8 h = some (r, hr) → J Z G 12 h 18 [(0, .ref (Z.2.1 206)), (1, .ref (Z.2.1 u1)), (2, .int x2), (3, .int x3), (4, .int x4), (6, .int x6), (7, .int x7), (8, .int x8)] [] := by
  intro n
  induction n with
  | zero => intro x2 x3 x4 x6 x7 x8 h hF; cases hF
  | succ n ih => intro x2 x3 x4 x6 x7 x8 h hF; exact BX10_seekNeedOf_18 X E u1 hu1 hz  (lX10_seekNeedOf_18 u1  n) ih x2 x3 x4 x6 x7 x8 h hF
def fX10_seekNeedOf (u1 : Nat) (a2 : Int32) (a3 : Int32) (a4 : Int32) (a5 : Int32) (a6 : Int32) (h : Hp) : Option (Int32 × Hp) := ck (inb (a5 + 1) 5) (lt (fsi (ix (a5 + 1))) (fun v1 => ck (inb a5 5) (lt (fsi (ix a5)) (fun v2 => lX10_seekNeedOf_18 u1 FU a2 a3 a4 a6 v1 v2 h))))
set_option maxRecDepth 20000 in
theorem tX10_seekNeedOf (Z : ZT) (u1 : Nat) (hu1 : isL u1) (a2 : Int32) (a3 : Int32) (a4 : Int32) (a5 : Int32) (a6 : Int32) (hz : HZ Z) (h : Hp) (r : Int32) (hr : Hp) (hF : fX10_seekNeedOf u1 a2 a3 a4 a5 a6 h = some (r, hr)) : MC Z yX10_seekNeedOf cX10_seekNeedOf 12 (some .boolean) 3 [.ref (Z.2.1 206), .ref (Z.2.1 u1), .int a2, .int a3, .int a4, .int a5, .int a6] h (some (.int r)) hr := by
  unfold fX10_seekNeedOf at hF
  refine mc_start (by decide) (Nat.le_of_ble_eq_true rfl) (fun G X E => ?_)
  refine j_gfew (pc := 0) X dX10_seekNeedOf_0 gs_X10_30 ?_
  refine j_iload (pc := 3) 5 X dX10_seekNeedOf_3 rfl ?_
  refine j_iconst (pc := 5) 1 X dX10_seekNeedOf_5 rfl ?_
  refine j_iadd (pc := 6) X dX10_seekNeedOf_6 ?_
  refine j_fald (pc := 7) X dX10_seekNeedOf_7 hF (fun hF => ?_)
  refine j_istore (pc := 8) (fun y => [(7, .int y), (0, .ref (Z.2.1 206)), (1, .ref (Z.2.1 u1)), (2, .int a2), (3, .int a3), (4, .int a4), (5, .int a5), (6, .int a6)]) X dX10_seekNeedOf_8 (by decide) (fun _ => rfl) hF (fun v1 hF => ?_)
  refine j_gfew (pc := 10) X dX10_seekNeedOf_10 gs_X10_30 ?_
  refine j_iload (pc := 13) 6 X dX10_seekNeedOf_13 rfl ?_
  refine j_fald (pc := 15) X dX10_seekNeedOf_15 hF (fun hF => ?_)
  refine j_istore (pc := 16) (fun y => [(8, .int y), (7, .int v1), (0, .ref (Z.2.1 206)), (1, .ref (Z.2.1 u1)), (2, .int a2), (3, .int a3), (4, .int a4), (5, .int a5), (6, .int a6)]) X dX10_seekNeedOf_16 (by decide) (fun _ => rfl) hF (fun v2 hF => ?_)
  refine j_lv [(0, .ref (Z.2.1 206)), (1, .ref (Z.2.1 u1)), (2, .int a2), (3, .int a3), (4, .int a4), (6, .int a6), (7, .int v1), (8, .int v2)] [2, 3, 4, 5, 6, 8, 1, 0] rfl ?_
  exact LX10_seekNeedOf_18 X E u1 hu1 hz FU a2 a3 a4 a6 v1 v2 h hF
theorem dX10_seekNeed_0 : decode cX10_seekNeed 0 = .ok (.iconst 0, 1) := by decide +kernel
theorem dX10_seekNeed_1 : decode cX10_seekNeed 1 = .ok (.istore 5, 2) := by decide +kernel
theorem dX10_seekNeed_3 : decode cX10_seekNeed 3 = .ok (.iload 5, 2) := by decide +kernel
theorem dX10_seekNeed_5 : decode cX10_seekNeed 5 = .ok (.iconst 3, 1) := by decide +kernel
theorem dX10_seekNeed_6 : decode cX10_seekNeed 6 = .ok (.if_icmp .gt 46, 3) := by decide +kernel
theorem dX10_seekNeed_9 : decode cX10_seekNeed 9 = .ok (.iconst 0, 1) := by decide +kernel
theorem dX10_seekNeed_10 : decode cX10_seekNeed 10 = .ok (.istore 6, 2) := by decide +kernel
theorem dX10_seekNeed_12 : decode cX10_seekNeed 12 = .ok (.iload 6, 2) := by decide +kernel
theorem dX10_seekNeed_14 : decode cX10_seekNeed 14 = .ok (.iload 5, 2) := by decide +kernel
theorem dX10_seekNeed_16 : decode cX10_seekNeed 16 = .ok (.if_icmp .gt 30, 3) := by decide +kernel
theorem dX10_seekNeed_19 : decode cX10_seekNeed 19 = .ok (.aload_n 0, 1) := by decide +kernel
theorem dX10_seekNeed_20 : decode cX10_seekNeed 20 = .ok (.aload_n 1, 1) := by decide +kernel
theorem dX10_seekNeed_21 : decode cX10_seekNeed 21 = .ok (.iload_n 2, 1) := by decide +kernel
theorem dX10_seekNeed_22 : decode cX10_seekNeed 22 = .ok (.iload_n 3, 1) := by decide +kernel
theorem dX10_seekNeed_23 : decode cX10_seekNeed 23 = .ok (.iload 4, 2) := by decide +kernel
theorem dX10_seekNeed_25 : decode cX10_seekNeed 25 = .ok (.iload 6, 2) := by decide +kernel
theorem dX10_seekNeed_27 : decode cX10_seekNeed 27 = .ok (.iload 5, 2) := by decide +kernel
theorem dX10_seekNeed_29 : decode cX10_seekNeed 29 = .ok (.iload 6, 2) := by decide +kernel
theorem dX10_seekNeed_31 : decode cX10_seekNeed 31 = .ok (.isub, 1) := by decide +kernel
theorem dX10_seekNeed_32 : decode cX10_seekNeed 32 = .ok (.invokevirtual 33, 3) := by decide +kernel
theorem dX10_seekNeed_35 : decode cX10_seekNeed 35 = .ok (.ifCond .eq 5, 3) := by decide +kernel
theorem dX10_seekNeed_38 : decode cX10_seekNeed 38 = .ok (.iconst 1, 1) := by decide +kernel
theorem dX10_seekNeed_39 : decode cX10_seekNeed 39 = .ok (.ireturn, 1) := by decide +kernel
theorem dX10_seekNeed_40 : decode cX10_seekNeed 40 = .ok (.iinc 6 1, 3) := by decide +kernel
theorem dX10_seekNeed_43 : decode cX10_seekNeed 43 = .ok (.goto (-31), 3) := by decide +kernel
theorem dX10_seekNeed_46 : decode cX10_seekNeed 46 = .ok (.iinc 5 1, 3) := by decide +kernel
theorem dX10_seekNeed_49 : decode cX10_seekNeed 49 = .ok (.goto (-46), 3) := by decide +kernel
theorem dX10_seekNeed_52 : decode cX10_seekNeed 52 = .ok (.iconst 0, 1) := by decide +kernel
theorem dX10_seekNeed_53 : decode cX10_seekNeed 53 = .ok (.ireturn, 1) := by decide +kernel
def bX10_seekNeed_12 (u1 : Nat) (r3 : Int32 → Int32 → Int32 → Int32 → Hp → Option (Int32 × Hp)) (r12 : Int32 → Int32 → Int32 → Int32 → Int32 → Hp → Option (Int32 × Hp)) (x2 : Int32) (x3 : Int32) (x4 : Int32) (x5 : Int32) (x6 : Int32) (h : Hp) : Option (Int32 × Hp) := (if x5 < x6 then lt (x5 + 1) (fun v1 => r3 x2 x3 x4 v1 h) else bi (fX10_seekNeedOf u1 x2 x3 x4 x6 (x5 - x6) h) (fun w3 h2 => (if w3 = 0 then lt (x6 + 1) (fun v4 => r12 x2 x3 x4 x5 v4 h2) else ck (zb 1) (some (1, h2)))))
def lX10_seekNeed_12 (u1 : Nat) (r3 : Int32 → Int32 → Int32 → Int32 → Hp → Option (Int32 × Hp)) : Nat → Int32 → Int32 → Int32 → Int32 → Int32 → Hp → Option (Int32 × Hp)
  | 0 => fun _ _ _ _ _ _ => none
  | n + 1 => bX10_seekNeed_12 u1 r3 (lX10_seekNeed_12 u1 r3 n)
set_option maxRecDepth 20000 in
theorem BX10_seekNeed_12 {Z : ZT} {G : GT} {r : Int32} {hr : Hp} (X : CX Z G cX10_seekNeed RX10 7 4) (E : RX Z G (some .boolean) (some (.int r)) hr) (u1 : Nat) (hu1 : isL u1) (hz : HZ Z) (r3 : Int32 → Int32 → Int32 → Int32 → Hp → Option (Int32 × Hp)) (hr3 : ∀ (x2 : Int32) (x3 : Int32) (x4 : Int32) (x5 : Int32) (h : Hp), r3 x2 x3 x4 x5 h = some (r, hr) → J Z G 7 h 3 [(0, .ref (Z.2.1 206)), (1, .ref (Z.2.1 u1)), (2, .int x2), (3, .int x3), (4, .int x4), (5, .int x5)] []) (r12 : Int32 → Int32 → Int32 → Int32 → Int32 → Hp → Option (Int32 × Hp)) (hr12 : ∀ (x2 : Int32) (x3 : Int32) (x4 : Int32) (x5 : Int32) (x6 : Int32) (h : Hp), r12 x2 x3 x4 x5 x6 h = some (r, hr) → J Z G 7 h 12 [(0, .ref (Z.2.1 206)), (1, .ref (Z.2.1 u1)), (2, .int x2), (3, .int x3), (4, .int x4), (5, .int x5), (6, .int x6)] []) (x2 : Int32) (x3 : Int32) (x4 : Int32) (x5 : Int32) (x6 : Int32) (h : Hp) (hF : bX10_seekNeed_12 u1 r3 r12 x2 x3 x4 x5 x6 h = some (r, hr)) : J Z G 7 h 12 [(0, .ref (Z.2.1 206)), (1, .ref (Z.2.1 u1)), (2, .int x2), (3, .int x3), (4, .int x4), (5, .int x5), (6, .int x6)] [] := by
  unfold bX10_seekNeed_12 at hF
  refine j_iload (pc := 12) 6 X dX10_seekNeed_12 rfl ?_
  refine j_iload (pc := 14) 5 X dX10_seekNeed_14 rfl ?_
  refine j_icmp_gt (pc := 16) 46 X dX10_seekNeed_16 rfl hF (fun hF => ?_) (fun hF => ?_)
  · refine j_iinc (pc := 46) 5 (x5 + 1) (fun y => [(5, .int y), (0, .ref (Z.2.1 206)), (1, .ref (Z.2.1 u1)), (2, .int x2), (3, .int x3), (4, .int x4), (6, .int x6)]) X dX10_seekNeed_46 rfl rfl (by decide) (fun _ => rfl) hF (fun v1 hF => ?_)
    refine j_goto (pc := 49) 3 X dX10_seekNeed_49 rfl ?_
    refine j_lv [(0, .ref (Z.2.1 206)), (1, .ref (Z.2.1 u1)), (2, .int x2), (3, .int x3), (4, .int x4), (5, .int v1)] [1, 2, 3, 4, 5, 0] rfl ?_
    exact hr3 x2 x3 x4 v1 h hF
  · refine j_aload_n (pc := 19) 0 X dX10_seekNeed_19 rfl ?_
    refine j_aload_n (pc := 20) 1 X dX10_seekNeed_20 rfl ?_
    refine j_iload_n (pc := 21) 2 X dX10_seekNeed_21 rfl ?_
    refine j_iload_n (pc := 22) 3 X dX10_seekNeed_22 rfl ?_
    refine j_iload (pc := 23) 4 X dX10_seekNeed_23 rfl ?_
    refine j_iload (pc := 25) 6 X dX10_seekNeed_25 rfl ?_
    refine j_iload (pc := 27) 5 X dX10_seekNeed_27 rfl ?_
    refine j_iload (pc := 29) 6 X dX10_seekNeed_29 rfl ?_
    refine j_isub (pc := 31) X dX10_seekNeed_31 ?_
    refine j_cVi (pc := 32) (As := [.ref (Z.2.1 u1), .int x2, .int x3, .int x4, .int x6, .int (x5 - x6)]) (rest := []) X dX10_seekNeed_32 ml_X10_33 ck_X10_seekNeedOf cv_X10_seekNeedOf (hz _ sh_206) rfl (Nat.le_of_ble_eq_true rfl) rfl (Nat.le_of_ble_eq_true rfl) rfl hF (tX10_seekNeedOf Z u1 hu1 x2 x3 x4 x6 (x5 - x6) hz h) (fun w3 h2 hF => ?_)
    refine j_if_eq (pc := 35) 40 X dX10_seekNeed_35 rfl hF (fun hF => ?_) (fun hF => ?_)
    · refine j_iinc (pc := 40) 6 (x6 + 1) (fun y => [(6, .int y), (0, .ref (Z.2.1 206)), (1, .ref (Z.2.1 u1)), (2, .int x2), (3, .int x3), (4, .int x4), (5, .int x5)]) X dX10_seekNeed_40 rfl rfl (by decide) (fun _ => rfl) hF (fun v4 hF => ?_)
      refine j_goto (pc := 43) 12 X dX10_seekNeed_43 rfl ?_
      refine j_lv [(0, .ref (Z.2.1 206)), (1, .ref (Z.2.1 u1)), (2, .int x2), (3, .int x3), (4, .int x4), (5, .int x5), (6, .int v4)] [1, 2, 3, 4, 5, 6, 0] rfl ?_
      exact hr12 x2 x3 x4 x5 v4 h2 hF
    · refine j_iconst (pc := 38) 1 X dX10_seekNeed_38 rfl ?_
      exact j_zret (pc := 39) X E dX10_seekNeed_39 hF
theorem LX10_seekNeed_12 {Z : ZT} {G : GT} {r : Int32} {hr : Hp} (X : CX Z G cX10_seekNeed RX10 7 4) (E : RX Z G (some .boolean) (some (.int r)) hr) (u1 : Nat) (hu1 : isL u1) (hz : HZ Z) (r3 : Int32 → Int32 → Int32 → Int32 → Hp → Option (Int32 × Hp)) (hr3 : ∀ (x2 : Int32) (x3 : Int32) (x4 : Int32) (x5 : Int32) (h : Hp), r3 x2 x3 x4 x5 h = some (r, hr) → J Z G 7 h 3 [(0, .ref (Z.2.1 206)), (1, .ref (Z.2.1 u1)), (2, .int x2), (3, .int x3), (4, .int x4), (5, .int x5)] []) : ∀ (n : Nat) (x2 : Int32) (x3 : Int32) (x4 : Int32) (x5 : Int32) (x6 : Int32) (h : Hp), lX10_seekNeed_12 u1 r3 n x2 x3 x4 x5 x6 h = some (r, hr) → J Z G 7 h 12 [(0, .ref (Z.2.1 206)), (1, .ref (Z.2.1 u1)), (2, .int x2), (3, .int x3), (4, .int x4), (5, .int x5), (6, .int x6)] [] := by
  intro n
  induction n with
  | zero => intro x2 x3 x4 x5 x6 h hF; cases hF
  | succ n ih => intro x2 x3 x4 x5 x6 h hF; exact BX10_seekNeed_12 X E u1 hu1 hz r3 hr3 (lX10_seekNeed_12 u1 r3 n) ih x2 x3 x4 x5 x6 h hF
def bX10_seekNeed_3 (u1 : Nat)  (r3 : Int32 → Int32 → Int32 → Int32 → Hp → Option (Int32 × Hp)) (x2 : Int32) (x3 : Int32) (x4 : Int32) (x5 : Int32) (h : Hp) : Option (Int32 × Hp) := (if 3 < x5 then ck (zb 0) (some (0, h)) else lt 0 (fun v1 => lX10_seekNeed_12 u1 r3 FU x2 x3 x4 x5 v1 h))
def lX10_seekNeed_3 (u1 : Nat)  : Nat → Int32 → Int32 → Int32 → Int32 → Hp → Option (Int32 × Hp)
  | 0 => fun _ _ _ _ _ => none
  | n + 1 => bX10_seekNeed_3 u1  (lX10_seekNeed_3 u1  n)
set_option maxRecDepth 20000 in
theorem BX10_seekNeed_3 {Z : ZT} {G : GT} {r : Int32} {hr : Hp} (X : CX Z G cX10_seekNeed RX10 7 4) (E : RX Z G (some .boolean) (some (.int r)) hr) (u1 : Nat) (hu1 : isL u1) (hz : HZ Z)  (r3 : Int32 → Int32 → Int32 → Int32 → Hp → Option (Int32 × Hp)) (hr3 : ∀ (x2 : Int32) (x3 : Int32) (x4 : Int32) (x5 : Int32) (h : Hp), r3 x2 x3 x4 x5 h = some (r, hr) → J Z G 7 h 3 [(0, .ref (Z.2.1 206)), (1, .ref (Z.2.1 u1)), (2, .int x2), (3, .int x3), (4, .int x4), (5, .int x5)] []) (x2 : Int32) (x3 : Int32) (x4 : Int32) (x5 : Int32) (h : Hp) (hF : bX10_seekNeed_3 u1  r3 x2 x3 x4 x5 h = some (r, hr)) : J Z G 7 h 3 [(0, .ref (Z.2.1 206)), (1, .ref (Z.2.1 u1)), (2, .int x2), (3, .int x3), (4, .int x4), (5, .int x5)] [] := by
  unfold bX10_seekNeed_3 at hF
  refine j_iload (pc := 3) 5 X dX10_seekNeed_3 rfl ?_
  refine j_iconst (pc := 5) 3 X dX10_seekNeed_5 rfl ?_
  refine j_icmp_gt (pc := 6) 52 X dX10_seekNeed_6 rfl hF (fun hF => ?_) (fun hF => ?_)
  · refine j_iconst (pc := 52) 0 X dX10_seekNeed_52 rfl ?_
    exact j_zret (pc := 53) X E dX10_seekNeed_53 hF
  · refine j_iconst (pc := 9) 0 X dX10_seekNeed_9 rfl ?_
    refine j_istore (pc := 10) (fun y => [(6, .int y), (0, .ref (Z.2.1 206)), (1, .ref (Z.2.1 u1)), (2, .int x2), (3, .int x3), (4, .int x4), (5, .int x5)]) X dX10_seekNeed_10 (by decide) (fun _ => rfl) hF (fun v1 hF => ?_)
    refine j_lv [(0, .ref (Z.2.1 206)), (1, .ref (Z.2.1 u1)), (2, .int x2), (3, .int x3), (4, .int x4), (5, .int x5), (6, .int v1)] [1, 2, 3, 4, 5, 6, 0] rfl ?_
    exact LX10_seekNeed_12 X E u1 hu1 hz r3 hr3 FU x2 x3 x4 x5 v1 h hF
theorem LX10_seekNeed_3 {Z : ZT} {G : GT} {r : Int32} {hr : Hp} (X : CX Z G cX10_seekNeed RX10 7 4) (E : RX Z G (some .boolean) (some (.int r)) hr) (u1 : Nat) (hu1 : isL u1) (hz : HZ Z)  : ∀ (n : Nat) (x2 : Int32) (x3 : Int32) (x4 : Int32) (x5 : Int32) (h : Hp), lX10_seekNeed_3 u1  n x2 x3 x4 x5 h = some (r, hr) → J Z G 7 h 3 [(0, .ref (Z.2.1 206)), (1, .ref (Z.2.1 u1)), (2, .int x2), (3, .int x3), (4, .int x4), (5, .int x5)] [] := by
  intro n
  induction n with
  | zero => intro x2 x3 x4 x5 h hF; cases hF
  | succ n ih => intro x2 x3 x4 x5 h hF; exact BX10_seekNeed_3 X E u1 hu1 hz  (lX10_seekNeed_3 u1  n) ih x2 x3 x4 x5 h hF
def fX10_seekNeed (u1 : Nat) (a2 : Int32) (a3 : Int32) (a4 : Int32) (h : Hp) : Option (Int32 × Hp) := lt 0 (fun v1 => lX10_seekNeed_3 u1 FU a2 a3 a4 v1 h)
set_option maxRecDepth 20000 in
theorem tX10_seekNeed (Z : ZT) (u1 : Nat) (hu1 : isL u1) (a2 : Int32) (a3 : Int32) (a4 : Int32) (hz : HZ Z) (h : Hp) (r : Int32) (hr : Hp) (hF : fX10_seekNeed u1 a2 a3 a4 h = some (r, hr)) : MC Z yX10_seekNeed cX10_seekNeed 7 (some .boolean) 4 [.ref (Z.2.1 206), .ref (Z.2.1 u1), .int a2, .int a3, .int a4] h (some (.int r)) hr := by
  unfold fX10_seekNeed at hF
  refine mc_start (by decide) (Nat.le_of_ble_eq_true rfl) (fun G X E => ?_)
  refine j_iconst (pc := 0) 0 X dX10_seekNeed_0 rfl ?_
  refine j_istore (pc := 1) (fun y => [(5, .int y), (0, .ref (Z.2.1 206)), (1, .ref (Z.2.1 u1)), (2, .int a2), (3, .int a3), (4, .int a4)]) X dX10_seekNeed_1 (by decide) (fun _ => rfl) hF (fun v1 hF => ?_)
  refine j_lv [(0, .ref (Z.2.1 206)), (1, .ref (Z.2.1 u1)), (2, .int a2), (3, .int a3), (4, .int a4), (5, .int v1)] [1, 2, 3, 4, 5, 0] rfl ?_
  exact LX10_seekNeed_3 X E u1 hu1 hz FU a2 a3 a4 v1 h hF
theorem dX10_firstDue_0 : decode cX10_firstDue 0 = .ok (.iconst 0, 1) := by decide +kernel
theorem dX10_firstDue_1 : decode cX10_firstDue 1 = .ok (.istore 4, 2) := by decide +kernel
theorem dX10_firstDue_3 : decode cX10_firstDue 3 = .ok (.iload 4, 2) := by decide +kernel
theorem dX10_firstDue_5 : decode cX10_firstDue 5 = .ok (.aload_n 0, 1) := by decide +kernel
theorem dX10_firstDue_6 : decode cX10_firstDue 6 = .ok (.getfield 19, 3) := by decide +kernel
theorem dX10_firstDue_9 : decode cX10_firstDue 9 = .ok (.getfield 43, 3) := by decide +kernel
theorem dX10_firstDue_12 : decode cX10_firstDue 12 = .ok (.if_icmp .ge 76, 3) := by decide +kernel
theorem dX10_firstDue_15 : decode cX10_firstDue 15 = .ok (.aload_n 0, 1) := by decide +kernel
theorem dX10_firstDue_16 : decode cX10_firstDue 16 = .ok (.getfield 19, 3) := by decide +kernel
theorem dX10_firstDue_19 : decode cX10_firstDue 19 = .ok (.getfield 62, 3) := by decide +kernel
theorem dX10_firstDue_22 : decode cX10_firstDue 22 = .ok (.iload 4, 2) := by decide +kernel
theorem dX10_firstDue_24 : decode cX10_firstDue 24 = .ok (.aaload, 1) := by decide +kernel
theorem dX10_firstDue_25 : decode cX10_firstDue 25 = .ok (.astore 5, 2) := by decide +kernel
theorem dX10_firstDue_27 : decode cX10_firstDue 27 = .ok (.iload_n 3, 1) := by decide +kernel
theorem dX10_firstDue_28 : decode cX10_firstDue 28 = .ok (.iload 4, 2) := by decide +kernel
theorem dX10_firstDue_30 : decode cX10_firstDue 30 = .ok (.invokestatic 66, 3) := by decide +kernel
theorem dX10_firstDue_33 : decode cX10_firstDue 33 = .ok (.ifCond .ne 49, 3) := by decide +kernel
theorem dX10_firstDue_36 : decode cX10_firstDue 36 = .ok (.iload_n 2, 1) := by decide +kernel
theorem dX10_firstDue_37 : decode cX10_firstDue 37 = .ok (.aload 5, 2) := by decide +kernel
theorem dX10_firstDue_39 : decode cX10_firstDue 39 = .ok (.getfield 70, 3) := by decide +kernel
theorem dX10_firstDue_42 : decode cX10_firstDue 42 = .ok (.invokestatic 66, 3) := by decide +kernel
theorem dX10_firstDue_45 : decode cX10_firstDue 45 = .ok (.ifCond .ne 37, 3) := by decide +kernel
theorem dX10_firstDue_48 : decode cX10_firstDue 48 = .ok (.aload_n 0, 1) := by decide +kernel
theorem dX10_firstDue_49 : decode cX10_firstDue 49 = .ok (.getfield 19, 3) := by decide +kernel
theorem dX10_firstDue_52 : decode cX10_firstDue 52 = .ok (.iload_n 1, 1) := by decide +kernel
theorem dX10_firstDue_53 : decode cX10_firstDue 53 = .ok (.aload 5, 2) := by decide +kernel
theorem dX10_firstDue_55 : decode cX10_firstDue 55 = .ok (.getfield 70, 3) := by decide +kernel
theorem dX10_firstDue_58 : decode cX10_firstDue 58 = .ok (.invokevirtual 75, 3) := by decide +kernel
theorem dX10_firstDue_61 : decode cX10_firstDue 61 = .ok (.ifCond .eq 21, 3) := by decide +kernel
theorem dX10_firstDue_64 : decode cX10_firstDue 64 = .ok (.aload_n 0, 1) := by decide +kernel
theorem dX10_firstDue_65 : decode cX10_firstDue 65 = .ok (.getfield 23, 3) := by decide +kernel
theorem dX10_firstDue_68 : decode cX10_firstDue 68 = .ok (.aload 5, 2) := by decide +kernel
theorem dX10_firstDue_70 : decode cX10_firstDue 70 = .ok (.iload_n 1, 1) := by decide +kernel
theorem dX10_firstDue_71 : decode cX10_firstDue 71 = .ok (.iload_n 2, 1) := by decide +kernel
theorem dX10_firstDue_72 : decode cX10_firstDue 72 = .ok (.iload_n 3, 1) := by decide +kernel
theorem dX10_firstDue_73 : decode cX10_firstDue 73 = .ok (.invokevirtual 46, 3) := by decide +kernel
theorem dX10_firstDue_76 : decode cX10_firstDue 76 = .ok (.ifCond .eq 6, 3) := by decide +kernel
theorem dX10_firstDue_79 : decode cX10_firstDue 79 = .ok (.iload 4, 2) := by decide +kernel
theorem dX10_firstDue_81 : decode cX10_firstDue 81 = .ok (.ireturn, 1) := by decide +kernel
theorem dX10_firstDue_82 : decode cX10_firstDue 82 = .ok (.iinc 4 1, 3) := by decide +kernel
theorem dX10_firstDue_85 : decode cX10_firstDue 85 = .ok (.goto (-82), 3) := by decide +kernel
theorem dX10_firstDue_88 : decode cX10_firstDue 88 = .ok (.iconst (-1), 1) := by decide +kernel
theorem dX10_firstDue_89 : decode cX10_firstDue 89 = .ok (.ireturn, 1) := by decide +kernel
def bX10_firstDue_82  (r3 : Int32 → Int32 → Int32 → Int32 → Hp → Option (Int32 × Hp)) (x1 : Int32) (x2 : Int32) (x3 : Int32) (x4 : Int32) (h : Hp) : Option (Int32 × Hp) := lt (x4 + 1) (fun v1 => r3 x1 x2 x3 v1 h)
set_option maxRecDepth 20000 in
theorem BX10_firstDue_82 {Z : ZT} {G : GT} {r : Int32} {hr : Hp} (X : CX Z G cX10_firstDue RX10 6 3) (E : RX Z G (some .int) (some (.int r)) hr) (hz : HZ Z) (r3 : Int32 → Int32 → Int32 → Int32 → Hp → Option (Int32 × Hp)) (hr3 : ∀ (x1 : Int32) (x2 : Int32) (x3 : Int32) (x4 : Int32) (h : Hp), r3 x1 x2 x3 x4 h = some (r, hr) → J Z G 6 h 3 [(0, .ref (Z.2.1 206)), (1, .int x1), (2, .int x2), (3, .int x3), (4, .int x4)] []) (x1 : Int32) (x2 : Int32) (x3 : Int32) (x4 : Int32) (h : Hp) (hF : bX10_firstDue_82  r3 x1 x2 x3 x4 h = some (r, hr)) : J Z G 6 h 82 [(0, .ref (Z.2.1 206)), (1, .int x1), (2, .int x2), (3, .int x3), (4, .int x4)] [] := by
  unfold bX10_firstDue_82 at hF
  refine j_iinc (pc := 82) 4 (x4 + 1) (fun y => [(4, .int y), (0, .ref (Z.2.1 206)), (1, .int x1), (2, .int x2), (3, .int x3)]) X dX10_firstDue_82 rfl rfl (by decide) (fun _ => rfl) hF (fun v1 hF => ?_)
  refine j_goto (pc := 85) 3 X dX10_firstDue_85 rfl ?_
  refine j_lv [(0, .ref (Z.2.1 206)), (1, .int x1), (2, .int x2), (3, .int x3), (4, .int v1)] [1, 2, 3, 4, 0] rfl ?_
  exact hr3 x1 x2 x3 v1 h hF
def bX10_firstDue_3   (r3 : Int32 → Int32 → Int32 → Int32 → Hp → Option (Int32 × Hp)) (x1 : Int32) (x2 : Int32) (x3 : Int32) (x4 : Int32) (h : Hp) : Option (Int32 × Hp) := (if (h.1 108 9) ≤ x4 then some ((-1), h) else ck (inb x4 10) (bi (fX11_has x3 x4 h) (fun w3 h2 => (if w3 = 0 then bi (fX11_has x2 (h2.1 (115 + ix x4) 1) h2) (fun w5 h4 => (if w5 = 0 then bi (fX0_clerkMay x1 (h4.1 (115 + ix x4) 1) h4) (fun w7 h6 => (if w7 = 0 then bX10_firstDue_82 r3 x1 x2 x3 x4 h6 else bi (fX6_holds (115 + ix x4) x1 x2 x3 h6) (fun w9 h8 => (if w9 = 0 then bX10_firstDue_82 r3 x1 x2 x3 x4 h8 else some (x4, h8))))) else bX10_firstDue_82 r3 x1 x2 x3 x4 h4)) else bX10_firstDue_82 r3 x1 x2 x3 x4 h2))))
def lX10_firstDue_3   : Nat → Int32 → Int32 → Int32 → Int32 → Hp → Option (Int32 × Hp)
  | 0 => fun _ _ _ _ _ => none
  | n + 1 => bX10_firstDue_3   (lX10_firstDue_3   n)
set_option maxRecDepth 20000 in
theorem BX10_firstDue_3 {Z : ZT} {G : GT} {r : Int32} {hr : Hp} (X : CX Z G cX10_firstDue RX10 6 3) (E : RX Z G (some .int) (some (.int r)) hr) (hz : HZ Z)  (r3 : Int32 → Int32 → Int32 → Int32 → Hp → Option (Int32 × Hp)) (hr3 : ∀ (x1 : Int32) (x2 : Int32) (x3 : Int32) (x4 : Int32) (h : Hp), r3 x1 x2 x3 x4 h = some (r, hr) → J Z G 6 h 3 [(0, .ref (Z.2.1 206)), (1, .int x1), (2, .int x2), (3, .int x3), (4, .int x4)] []) (x1 : Int32) (x2 : Int32) (x3 : Int32) (x4 : Int32) (h : Hp) (hF : bX10_firstDue_3   r3 x1 x2 x3 x4 h = some (r, hr)) : J Z G 6 h 3 [(0, .ref (Z.2.1 206)), (1, .int x1), (2, .int x2), (3, .int x3), (4, .int x4)] [] := by
  unfold bX10_firstDue_3 at hF
  refine j_iload (pc := 3) 4 X dX10_firstDue_3 rfl ?_
  refine j_aload_n (pc := 5) 0 X dX10_firstDue_5 rfl ?_
  refine j_getr (pc := 6) X dX10_firstDue_6 (hz _ sh_206) fl_X10_19 rfl ?_
  refine j_geti (pc := 9) X dX10_firstDue_9 (hz _ sh_108) fl_X10_43 rfl ?_
  refine j_icmp_ge (pc := 12) 88 X dX10_firstDue_12 rfl hF (fun hF => ?_) (fun hF => ?_)
  · refine j_iconst (pc := 88) (-1) X dX10_firstDue_88 rfl ?_
    exact j_iret (pc := 89) X E dX10_firstDue_89 hF
  · refine j_aload_n (pc := 15) 0 X dX10_firstDue_15 rfl ?_
    refine j_getr (pc := 16) X dX10_firstDue_16 (hz _ sh_206) fl_X10_19 rfl ?_
    refine j_getr (pc := 19) X dX10_firstDue_19 (hz _ sh_108) fl_X10_62 rfl ?_
    refine j_iload (pc := 22) 4 X dX10_firstDue_22 rfl ?_
    refine j_aald (pc := 24) (g := fun j => 115 + j) (C := "AfterOffice$Letter") X dX10_firstDue_24 (hz _ sh_111) (fun _ => rfl) rfl al_111 hF (fun hb1 hF => ?_)
    refine j_astore (pc := 25) [(5, .ref (Z.2.1 (115 + ix x4))), (0, .ref (Z.2.1 206)), (1, .int x1), (2, .int x2), (3, .int x3), (4, .int x4)] X dX10_firstDue_25 (by decide) rfl ?_
    refine j_iload_n (pc := 27) 4 X dX10_firstDue_27 rfl ?_
    refine j_iload (pc := 28) 5 X dX10_firstDue_28 rfl ?_
    refine j_cSNi (pc := 30) (As := [.int x3, .int x4]) (rest := []) X dX10_firstDue_30 ml_X10_66 ck_X11_has sk_X11_has (Nat.le_of_ble_eq_true rfl) rfl (Nat.le_of_ble_eq_true rfl) rfl hF (tX11_has Z x3 x4 trivial h) (fun w3 h2 hF => ?_)
    refine j_if_ne (pc := 33) 82 X dX10_firstDue_33 rfl hF (fun hF => ?_) (fun hF => ?_)
    · refine j_lv [(0, .ref (Z.2.1 206)), (1, .int x1), (2, .int x2), (3, .int x3), (4, .int x4)] [1, 2, 3, 4, 5] rfl ?_
      exact BX10_firstDue_82 X E hz r3 hr3 x1 x2 x3 x4 h2 hF
    · refine j_iload_n (pc := 36) 3 X dX10_firstDue_36 rfl ?_
      refine j_aload (pc := 37) 0 X dX10_firstDue_37 rfl ?_
      refine j_geti (pc := 39) X dX10_firstDue_39 (hz _ (shL (is_111 hb1))) fl_X10_70 rfl ?_
      refine j_cSNi (pc := 42) (As := [.int x2, .int (h2.1 (115 + ix x4) 1)]) (rest := []) X dX10_firstDue_42 ml_X10_66 ck_X11_has sk_X11_has (Nat.le_of_ble_eq_true rfl) rfl (Nat.le_of_ble_eq_true rfl) rfl hF (tX11_has Z x2 (h2.1 (115 + ix x4) 1) trivial h2) (fun w5 h4 hF => ?_)
      refine j_if_ne (pc := 45) 82 X dX10_firstDue_45 rfl hF (fun hF => ?_) (fun hF => ?_)
      · refine j_lv [(0, .ref (Z.2.1 206)), (1, .int x1), (2, .int x2), (3, .int x3), (4, .int x4)] [1, 2, 3, 4, 5] rfl ?_
        exact BX10_firstDue_82 X E hz r3 hr3 x1 x2 x3 x4 h4 hF
      · refine j_aload_n (pc := 48) 1 X dX10_firstDue_48 rfl ?_
        refine j_getr (pc := 49) X dX10_firstDue_49 (hz _ sh_206) fl_X10_19 rfl ?_
        refine j_iload_n (pc := 52) 2 X dX10_firstDue_52 rfl ?_
        refine j_aload (pc := 53) 0 X dX10_firstDue_53 rfl ?_
        refine j_geti (pc := 55) X dX10_firstDue_55 (hz _ (shL (is_111 hb1))) fl_X10_70 rfl ?_
        refine j_cVi (pc := 58) (As := [.int x1, .int (h4.1 (115 + ix x4) 1)]) (rest := []) X dX10_firstDue_58 ml_X10_75 ck_X0_clerkMay cv_X0_clerkMay (hz _ sh_108) rfl (Nat.le_of_ble_eq_true rfl) rfl (Nat.le_of_ble_eq_true rfl) rfl hF (tX0_clerkMay Z x1 (h4.1 (115 + ix x4) 1) hz h4) (fun w7 h6 hF => ?_)
        refine j_if_eq (pc := 61) 82 X dX10_firstDue_61 rfl hF (fun hF => ?_) (fun hF => ?_)
        · refine j_lv [(0, .ref (Z.2.1 206)), (1, .int x1), (2, .int x2), (3, .int x3), (4, .int x4)] [1, 2, 3, 4, 5] rfl ?_
          exact BX10_firstDue_82 X E hz r3 hr3 x1 x2 x3 x4 h6 hF
        · refine j_aload_n (pc := 64) 1 X dX10_firstDue_64 rfl ?_
          refine j_getr (pc := 65) X dX10_firstDue_65 (hz _ sh_206) fl_X10_23 rfl ?_
          refine j_aload (pc := 68) 0 X dX10_firstDue_68 rfl ?_
          refine j_iload_n (pc := 70) 2 X dX10_firstDue_70 rfl ?_
          refine j_iload_n (pc := 71) 3 X dX10_firstDue_71 rfl ?_
          refine j_iload_n (pc := 72) 4 X dX10_firstDue_72 rfl ?_
          refine j_cVi (pc := 73) (As := [.ref (Z.2.1 (115 + ix x4)), .int x1, .int x2, .int x3]) (rest := []) X dX10_firstDue_73 ml_X10_46 ck_X6_holds cv_X6_holds (hz _ sh_147) rfl (Nat.le_of_ble_eq_true rfl) rfl (Nat.le_of_ble_eq_true rfl) rfl hF (tX6_holds Z (115 + ix x4) (is_111 hb1) x1 x2 x3 hz h6) (fun w9 h8 hF => ?_)
          refine j_if_eq (pc := 76) 82 X dX10_firstDue_76 rfl hF (fun hF => ?_) (fun hF => ?_)
          · refine j_lv [(0, .ref (Z.2.1 206)), (1, .int x1), (2, .int x2), (3, .int x3), (4, .int x4)] [1, 2, 3, 4, 5] rfl ?_
            exact BX10_firstDue_82 X E hz r3 hr3 x1 x2 x3 x4 h8 hF
          · refine j_iload (pc := 79) 5 X dX10_firstDue_79 rfl ?_
            exact j_iret (pc := 81) X E dX10_firstDue_81 hF
theorem LX10_firstDue_3 {Z : ZT} {G : GT} {r : Int32} {hr : Hp} (X : CX Z G cX10_firstDue RX10 6 3) (E : RX Z G (some .int) (some (.int r)) hr) (hz : HZ Z)  : ∀ (n : Nat) (x1 : Int32) (x2 : Int32) (x3 : Int32) (x4 : Int32) (h : Hp), lX10_firstDue_3   n x1 x2 x3 x4 h = some (r, hr) → J Z G 6 h 3 [(0, .ref (Z.2.1 206)), (1, .int x1), (2, .int x2), (3, .int x3), (4, .int x4)] [] := by
  intro n
  induction n with
  | zero => intro x1 x2 x3 x4 h hF; cases hF
  | succ n ih => intro x1 x2 x3 x4 h hF; exact BX10_firstDue_3 X E hz  (lX10_firstDue_3   n) ih x1 x2 x3 x4 h hF
def fX10_firstDue (a1 : Int32) (a2 : Int32) (a3 : Int32) (h : Hp) : Option (Int32 × Hp) := lt 0 (fun v1 => lX10_firstDue_3 FU a1 a2 a3 v1 h)
set_option maxRecDepth 20000 in
theorem tX10_firstDue (Z : ZT) (a1 : Int32) (a2 : Int32) (a3 : Int32) (hz : HZ Z) (h : Hp) (r : Int32) (hr : Hp) (hF : fX10_firstDue a1 a2 a3 h = some (r, hr)) : MC Z yX10_firstDue cX10_firstDue 6 (some .int) 3 [.ref (Z.2.1 206), .int a1, .int a2, .int a3] h (some (.int r)) hr := by
  unfold fX10_firstDue at hF
  refine mc_start (by decide) (Nat.le_of_ble_eq_true rfl) (fun G X E => ?_)
  refine j_iconst (pc := 0) 0 X dX10_firstDue_0 rfl ?_
  refine j_istore (pc := 1) (fun y => [(4, .int y), (0, .ref (Z.2.1 206)), (1, .int a1), (2, .int a2), (3, .int a3)]) X dX10_firstDue_1 (by decide) (fun _ => rfl) hF (fun v1 hF => ?_)
  refine j_lv [(0, .ref (Z.2.1 206)), (1, .int a1), (2, .int a2), (3, .int a3), (4, .int v1)] [1, 2, 3, 4, 0] rfl ?_
  exact LX10_firstDue_3 X E hz FU a1 a2 a3 v1 h hF
theorem dX10_lookUp_0 : decode cX10_lookUp 0 = .ok (.iload_n 3, 1) := by decide +kernel
theorem dX10_lookUp_1 : decode cX10_lookUp 1 = .ok (.istore 4, 2) := by decide +kernel
theorem dX10_lookUp_3 : decode cX10_lookUp 3 = .ok (.iconst 0, 1) := by decide +kernel
theorem dX10_lookUp_4 : decode cX10_lookUp 4 = .ok (.istore 5, 2) := by decide +kernel
theorem dX10_lookUp_6 : decode cX10_lookUp 6 = .ok (.iload 5, 2) := by decide +kernel
theorem dX10_lookUp_8 : decode cX10_lookUp 8 = .ok (.bipush 10, 2) := by decide +kernel
theorem dX10_lookUp_10 : decode cX10_lookUp 10 = .ok (.if_icmp .ge 36, 3) := by decide +kernel
theorem dX10_lookUp_13 : decode cX10_lookUp 13 = .ok (.aload_n 0, 1) := by decide +kernel
theorem dX10_lookUp_14 : decode cX10_lookUp 14 = .ok (.iload_n 1, 1) := by decide +kernel
theorem dX10_lookUp_15 : decode cX10_lookUp 15 = .ok (.iload_n 2, 1) := by decide +kernel
theorem dX10_lookUp_16 : decode cX10_lookUp 16 = .ok (.iload 4, 2) := by decide +kernel
theorem dX10_lookUp_18 : decode cX10_lookUp 18 = .ok (.invokevirtual 58, 3) := by decide +kernel
theorem dX10_lookUp_21 : decode cX10_lookUp 21 = .ok (.istore 6, 2) := by decide +kernel
theorem dX10_lookUp_23 : decode cX10_lookUp 23 = .ok (.iload 6, 2) := by decide +kernel
theorem dX10_lookUp_25 : decode cX10_lookUp 25 = .ok (.ifCond .ge 6, 3) := by decide +kernel
theorem dX10_lookUp_28 : decode cX10_lookUp 28 = .ok (.goto 18, 3) := by decide +kernel
theorem dX10_lookUp_31 : decode cX10_lookUp 31 = .ok (.iload 4, 2) := by decide +kernel
theorem dX10_lookUp_33 : decode cX10_lookUp 33 = .ok (.iconst 1, 1) := by decide +kernel
theorem dX10_lookUp_34 : decode cX10_lookUp 34 = .ok (.iload 6, 2) := by decide +kernel
theorem dX10_lookUp_36 : decode cX10_lookUp 36 = .ok (.ishl, 1) := by decide +kernel
theorem dX10_lookUp_37 : decode cX10_lookUp 37 = .ok (.ior, 1) := by decide +kernel
theorem dX10_lookUp_38 : decode cX10_lookUp 38 = .ok (.istore 4, 2) := by decide +kernel
theorem dX10_lookUp_40 : decode cX10_lookUp 40 = .ok (.iinc 5 1, 3) := by decide +kernel
theorem dX10_lookUp_43 : decode cX10_lookUp 43 = .ok (.goto (-37), 3) := by decide +kernel
theorem dX10_lookUp_46 : decode cX10_lookUp 46 = .ok (.iload 4, 2) := by decide +kernel
theorem dX10_lookUp_48 : decode cX10_lookUp 48 = .ok (.ireturn, 1) := by decide +kernel
def bX10_lookUp_6   (r6 : Int32 → Int32 → Int32 → Int32 → Hp → Option (Int32 × Hp)) (x1 : Int32) (x2 : Int32) (x4 : Int32) (x5 : Int32) (h : Hp) : Option (Int32 × Hp) := (if 10 ≤ x5 then some (x4, h) else bi (fX10_firstDue x1 x2 x4 h) (fun w2 h1 => lt w2 (fun v3 => (if 0 ≤ v3 then lt (x4 ||| ((1 : Int32) <<< (v3 &&& 31))) (fun v4 => lt (x5 + 1) (fun v5 => r6 x1 x2 v4 v5 h1)) else some (x4, h1)))))
def lX10_lookUp_6   : Nat → Int32 → Int32 → Int32 → Int32 → Hp → Option (Int32 × Hp)
  | 0 => fun _ _ _ _ _ => none
  | n + 1 => bX10_lookUp_6   (lX10_lookUp_6   n)
set_option maxRecDepth 20000 in
theorem BX10_lookUp_6 {Z : ZT} {G : GT} {r : Int32} {hr : Hp} (X : CX Z G cX10_lookUp RX10 7 4) (E : RX Z G (some .int) (some (.int r)) hr) (hz : HZ Z)  (r6 : Int32 → Int32 → Int32 → Int32 → Hp → Option (Int32 × Hp)) (hr6 : ∀ (x1 : Int32) (x2 : Int32) (x4 : Int32) (x5 : Int32) (h : Hp), r6 x1 x2 x4 x5 h = some (r, hr) → J Z G 7 h 6 [(0, .ref (Z.2.1 206)), (1, .int x1), (2, .int x2), (4, .int x4), (5, .int x5)] []) (x1 : Int32) (x2 : Int32) (x4 : Int32) (x5 : Int32) (h : Hp) (hF : bX10_lookUp_6   r6 x1 x2 x4 x5 h = some (r, hr)) : J Z G 7 h 6 [(0, .ref (Z.2.1 206)), (1, .int x1), (2, .int x2), (4, .int x4), (5, .int x5)] [] := by
  unfold bX10_lookUp_6 at hF
  refine j_iload (pc := 6) 4 X dX10_lookUp_6 rfl ?_
  refine j_bipush (pc := 8) 10 X dX10_lookUp_8 rfl ?_
  refine j_icmp_ge (pc := 10) 46 X dX10_lookUp_10 rfl hF (fun hF => ?_) (fun hF => ?_)
  · refine j_iload (pc := 46) 3 X dX10_lookUp_46 rfl ?_
    exact j_iret (pc := 48) X E dX10_lookUp_48 hF
  · refine j_aload_n (pc := 13) 0 X dX10_lookUp_13 rfl ?_
    refine j_iload_n (pc := 14) 1 X dX10_lookUp_14 rfl ?_
    refine j_iload_n (pc := 15) 2 X dX10_lookUp_15 rfl ?_
    refine j_iload (pc := 16) 3 X dX10_lookUp_16 rfl ?_
    refine j_cVi (pc := 18) (As := [.int x1, .int x2, .int x4]) (rest := []) X dX10_lookUp_18 ml_X10_58 ck_X10_firstDue cv_X10_firstDue (hz _ sh_206) rfl (Nat.le_of_ble_eq_true rfl) rfl (Nat.le_of_ble_eq_true rfl) rfl hF (tX10_firstDue Z x1 x2 x4 hz h) (fun w2 h1 hF => ?_)
    refine j_istore (pc := 21) (fun y => [(6, .int y), (0, .ref (Z.2.1 206)), (1, .int x1), (2, .int x2), (4, .int x4), (5, .int x5)]) X dX10_lookUp_21 (by decide) (fun _ => rfl) hF (fun v3 hF => ?_)
    refine j_iload (pc := 23) 0 X dX10_lookUp_23 rfl ?_
    refine j_if_ge (pc := 25) 31 X dX10_lookUp_25 rfl hF (fun hF => ?_) (fun hF => ?_)
    · refine j_iload (pc := 31) 4 X dX10_lookUp_31 rfl ?_
      refine j_iconst (pc := 33) 1 X dX10_lookUp_33 rfl ?_
      refine j_iload (pc := 34) 0 X dX10_lookUp_34 rfl ?_
      refine j_ishl (pc := 36) X dX10_lookUp_36 ?_
      refine j_ior (pc := 37) X dX10_lookUp_37 ?_
      refine j_istore (pc := 38) (fun y => [(4, .int y), (6, .int v3), (0, .ref (Z.2.1 206)), (1, .int x1), (2, .int x2), (5, .int x5)]) X dX10_lookUp_38 (by decide) (fun _ => rfl) hF (fun v4 hF => ?_)
      refine j_iinc (pc := 40) 5 (x5 + 1) (fun y => [(5, .int y), (4, .int v4), (6, .int v3), (0, .ref (Z.2.1 206)), (1, .int x1), (2, .int x2)]) X dX10_lookUp_40 rfl rfl (by decide) (fun _ => rfl) hF (fun v5 hF => ?_)
      refine j_goto (pc := 43) 6 X dX10_lookUp_43 rfl ?_
      refine j_lv [(0, .ref (Z.2.1 206)), (1, .int x1), (2, .int x2), (4, .int v4), (5, .int v5)] [3, 4, 5, 1, 0] rfl ?_
      exact hr6 x1 x2 v4 v5 h1 hF
    · refine j_goto (pc := 28) 46 X dX10_lookUp_28 rfl ?_
      refine j_iload (pc := 46) 4 X dX10_lookUp_46 rfl ?_
      exact j_iret (pc := 48) X E dX10_lookUp_48 hF
theorem LX10_lookUp_6 {Z : ZT} {G : GT} {r : Int32} {hr : Hp} (X : CX Z G cX10_lookUp RX10 7 4) (E : RX Z G (some .int) (some (.int r)) hr) (hz : HZ Z)  : ∀ (n : Nat) (x1 : Int32) (x2 : Int32) (x4 : Int32) (x5 : Int32) (h : Hp), lX10_lookUp_6   n x1 x2 x4 x5 h = some (r, hr) → J Z G 7 h 6 [(0, .ref (Z.2.1 206)), (1, .int x1), (2, .int x2), (4, .int x4), (5, .int x5)] [] := by
  intro n
  induction n with
  | zero => intro x1 x2 x4 x5 h hF; cases hF
  | succ n ih => intro x1 x2 x4 x5 h hF; exact BX10_lookUp_6 X E hz  (lX10_lookUp_6   n) ih x1 x2 x4 x5 h hF
def fX10_lookUp (a1 : Int32) (a2 : Int32) (a3 : Int32) (h : Hp) : Option (Int32 × Hp) := lt a3 (fun v1 => lt 0 (fun v2 => lX10_lookUp_6 FU a1 a2 v1 v2 h))
set_option maxRecDepth 20000 in
theorem tX10_lookUp (Z : ZT) (a1 : Int32) (a2 : Int32) (a3 : Int32) (hz : HZ Z) (h : Hp) (r : Int32) (hr : Hp) (hF : fX10_lookUp a1 a2 a3 h = some (r, hr)) : MC Z yX10_lookUp cX10_lookUp 7 (some .int) 4 [.ref (Z.2.1 206), .int a1, .int a2, .int a3] h (some (.int r)) hr := by
  unfold fX10_lookUp at hF
  refine mc_start (by decide) (Nat.le_of_ble_eq_true rfl) (fun G X E => ?_)
  refine j_iload_n (pc := 0) 3 X dX10_lookUp_0 rfl ?_
  refine j_istore (pc := 1) (fun y => [(4, .int y), (0, .ref (Z.2.1 206)), (1, .int a1), (2, .int a2), (3, .int a3)]) X dX10_lookUp_1 (by decide) (fun _ => rfl) hF (fun v1 hF => ?_)
  refine j_iconst (pc := 3) 0 X dX10_lookUp_3 rfl ?_
  refine j_istore (pc := 4) (fun y => [(5, .int y), (4, .int v1), (0, .ref (Z.2.1 206)), (1, .int a1), (2, .int a2), (3, .int a3)]) X dX10_lookUp_4 (by decide) (fun _ => rfl) hF (fun v2 hF => ?_)
  refine j_lv [(0, .ref (Z.2.1 206)), (1, .int a1), (2, .int a2), (4, .int v1), (5, .int v2)] [2, 3, 4, 1, 0] rfl ?_
  exact LX10_lookUp_6 X E hz FU a1 a2 v1 v2 h hF
theorem dX10_cameTo_0 : decode cX10_cameTo 0 = .ok (.aload_n 0, 1) := by decide +kernel
theorem dX10_cameTo_1 : decode cX10_cameTo 1 = .ok (.getfield 15, 3) := by decide +kernel
theorem dX10_cameTo_4 : decode cX10_cameTo 4 = .ok (.iload_n 1, 1) := by decide +kernel
theorem dX10_cameTo_5 : decode cX10_cameTo 5 = .ok (.laload, 1) := by decide +kernel
theorem dX10_cameTo_6 : decode cX10_cameTo 6 = .ok (.lstore_n 2, 1) := by decide +kernel
theorem dX10_cameTo_7 : decode cX10_cameTo 7 = .ok (.iconst 0, 1) := by decide +kernel
theorem dX10_cameTo_8 : decode cX10_cameTo 8 = .ok (.istore 4, 2) := by decide +kernel
theorem dX10_cameTo_10 : decode cX10_cameTo 10 = .ok (.iload 4, 2) := by decide +kernel
theorem dX10_cameTo_12 : decode cX10_cameTo 12 = .ok (.aload_n 0, 1) := by decide +kernel
theorem dX10_cameTo_13 : decode cX10_cameTo 13 = .ok (.getfield 19, 3) := by decide +kernel
theorem dX10_cameTo_16 : decode cX10_cameTo 16 = .ok (.getfield 37, 3) := by decide +kernel
theorem dX10_cameTo_19 : decode cX10_cameTo 19 = .ok (.if_icmp .ge 34, 3) := by decide +kernel
theorem dX10_cameTo_22 : decode cX10_cameTo 22 = .ok (.iload_n 1, 1) := by decide +kernel
theorem dX10_cameTo_23 : decode cX10_cameTo 23 = .ok (.iload 4, 2) := by decide +kernel
theorem dX10_cameTo_25 : decode cX10_cameTo 25 = .ok (.invokestatic 66, 3) := by decide +kernel
theorem dX10_cameTo_28 : decode cX10_cameTo 28 = .ok (.ifCond .eq 19, 3) := by decide +kernel
theorem dX10_cameTo_31 : decode cX10_cameTo 31 = .ok (.lload_n 2, 1) := by decide +kernel
theorem dX10_cameTo_32 : decode cX10_cameTo 32 = .ok (.aload_n 0, 1) := by decide +kernel
theorem dX10_cameTo_33 : decode cX10_cameTo 33 = .ok (.getfield 15, 3) := by decide +kernel
theorem dX10_cameTo_36 : decode cX10_cameTo 36 = .ok (.iload_n 1, 1) := by decide +kernel
theorem dX10_cameTo_37 : decode cX10_cameTo 37 = .ok (.iconst 1, 1) := by decide +kernel
theorem dX10_cameTo_38 : decode cX10_cameTo 38 = .ok (.iload 4, 2) := by decide +kernel
theorem dX10_cameTo_40 : decode cX10_cameTo 40 = .ok (.ishl, 1) := by decide +kernel
theorem dX10_cameTo_41 : decode cX10_cameTo 41 = .ok (.iconst (-1), 1) := by decide +kernel
theorem dX10_cameTo_42 : decode cX10_cameTo 42 = .ok (.ixor, 1) := by decide +kernel
theorem dX10_cameTo_43 : decode cX10_cameTo 43 = .ok (.iand, 1) := by decide +kernel
theorem dX10_cameTo_44 : decode cX10_cameTo 44 = .ok (.laload, 1) := by decide +kernel
theorem dX10_cameTo_45 : decode cX10_cameTo 45 = .ok (.lor, 1) := by decide +kernel
theorem dX10_cameTo_46 : decode cX10_cameTo 46 = .ok (.lstore_n 2, 1) := by decide +kernel
theorem dX10_cameTo_47 : decode cX10_cameTo 47 = .ok (.iinc 4 1, 3) := by decide +kernel
theorem dX10_cameTo_50 : decode cX10_cameTo 50 = .ok (.goto (-40), 3) := by decide +kernel
theorem dX10_cameTo_53 : decode cX10_cameTo 53 = .ok (.lload_n 2, 1) := by decide +kernel
theorem dX10_cameTo_54 : decode cX10_cameTo 54 = .ok (.lreturn, 1) := by decide +kernel
def bX10_cameTo_47  (r10 : Int32 → Int64 → Int32 → Hp → Option (Int64 × Hp)) (x1 : Int32) (x2 : Int64) (x4 : Int32) (h : Hp) : Option (Int64 × Hp) := lt (x4 + 1) (fun v1 => r10 x1 x2 v1 h)
set_option maxRecDepth 20000 in
theorem BX10_cameTo_47 {Z : ZT} {G : GT} {r : Int64} {hr : Hp} (X : CX Z G cX10_cameTo RX10 5 1) (E : RX Z G (some .long) (some (.long r)) hr) (hz : HZ Z) (r10 : Int32 → Int64 → Int32 → Hp → Option (Int64 × Hp)) (hr10 : ∀ (x1 : Int32) (x2 : Int64) (x4 : Int32) (h : Hp), r10 x1 x2 x4 h = some (r, hr) → J Z G 5 h 10 [(0, .ref (Z.2.1 206)), (1, .int x1), (2, .long x2), (4, .int x4)] []) (x1 : Int32) (x2 : Int64) (x4 : Int32) (h : Hp) (hF : bX10_cameTo_47  r10 x1 x2 x4 h = some (r, hr)) : J Z G 5 h 47 [(0, .ref (Z.2.1 206)), (1, .int x1), (2, .long x2), (4, .int x4)] [] := by
  unfold bX10_cameTo_47 at hF
  refine j_iinc (pc := 47) 3 (x4 + 1) (fun y => [(4, .int y), (0, .ref (Z.2.1 206)), (1, .int x1), (2, .long x2)]) X dX10_cameTo_47 rfl rfl (by decide) (fun _ => rfl) hF (fun v1 hF => ?_)
  refine j_goto (pc := 50) 10 X dX10_cameTo_50 rfl ?_
  refine j_lv [(0, .ref (Z.2.1 206)), (1, .int x1), (2, .long x2), (4, .int v1)] [1, 2, 3, 0] rfl ?_
  exact hr10 x1 x2 v1 h hF
def bX10_cameTo_10   (r10 : Int32 → Int64 → Int32 → Hp → Option (Int64 × Hp)) (x1 : Int32) (x2 : Int64) (x4 : Int32) (h : Hp) : Option (Int64 × Hp) := (if (h.1 108 6) ≤ x4 then some (x2, h) else bi (fX11_has x1 x4 h) (fun w2 h1 => (if w2 = 0 then bX10_cameTo_47 r10 x1 x2 x4 h1 else ck (inb (x1 &&& (((1 : Int32) <<< (x4 &&& 31)) ^^^ (-1))) 32) (lt (x2 ||| (h1.2 208 (ix (x1 &&& (((1 : Int32) <<< (x4 &&& 31)) ^^^ (-1)))))) (fun v3 => bX10_cameTo_47 r10 x1 v3 x4 h1)))))
def lX10_cameTo_10   : Nat → Int32 → Int64 → Int32 → Hp → Option (Int64 × Hp)
  | 0 => fun _ _ _ _ => none
  | n + 1 => bX10_cameTo_10   (lX10_cameTo_10   n)
set_option maxRecDepth 20000 in
theorem BX10_cameTo_10 {Z : ZT} {G : GT} {r : Int64} {hr : Hp} (X : CX Z G cX10_cameTo RX10 5 1) (E : RX Z G (some .long) (some (.long r)) hr) (hz : HZ Z)  (r10 : Int32 → Int64 → Int32 → Hp → Option (Int64 × Hp)) (hr10 : ∀ (x1 : Int32) (x2 : Int64) (x4 : Int32) (h : Hp), r10 x1 x2 x4 h = some (r, hr) → J Z G 5 h 10 [(0, .ref (Z.2.1 206)), (1, .int x1), (2, .long x2), (4, .int x4)] []) (x1 : Int32) (x2 : Int64) (x4 : Int32) (h : Hp) (hF : bX10_cameTo_10   r10 x1 x2 x4 h = some (r, hr)) : J Z G 5 h 10 [(0, .ref (Z.2.1 206)), (1, .int x1), (2, .long x2), (4, .int x4)] [] := by
  unfold bX10_cameTo_10 at hF
  refine j_iload (pc := 10) 3 X dX10_cameTo_10 rfl ?_
  refine j_aload_n (pc := 12) 0 X dX10_cameTo_12 rfl ?_
  refine j_getr (pc := 13) X dX10_cameTo_13 (hz _ sh_206) fl_X10_19 rfl ?_
  refine j_geti (pc := 16) X dX10_cameTo_16 (hz _ sh_108) fl_X10_37 rfl ?_
  refine j_icmp_ge (pc := 19) 53 X dX10_cameTo_19 rfl hF (fun hF => ?_) (fun hF => ?_)
  · refine j_lload_n (pc := 53) 2 X dX10_cameTo_53 rfl ?_
    exact j_lret (pc := 54) X E dX10_cameTo_54 hF
  · refine j_iload_n (pc := 22) 1 X dX10_cameTo_22 rfl ?_
    refine j_iload (pc := 23) 3 X dX10_cameTo_23 rfl ?_
    refine j_cSNi (pc := 25) (As := [.int x1, .int x4]) (rest := []) X dX10_cameTo_25 ml_X10_66 ck_X11_has sk_X11_has (Nat.le_of_ble_eq_true rfl) rfl (Nat.le_of_ble_eq_true rfl) rfl hF (tX11_has Z x1 x4 trivial h) (fun w2 h1 hF => ?_)
    refine j_if_eq (pc := 28) 47 X dX10_cameTo_28 rfl hF (fun hF => ?_) (fun hF => ?_)
    · exact BX10_cameTo_47 X E hz r10 hr10 x1 x2 x4 h1 hF
    · refine j_lload_n (pc := 31) 2 X dX10_cameTo_31 rfl ?_
      refine j_aload_n (pc := 32) 0 X dX10_cameTo_32 rfl ?_
      refine j_getr (pc := 33) X dX10_cameTo_33 (hz _ sh_206) fl_X10_15 rfl ?_
      refine j_iload_n (pc := 36) 1 X dX10_cameTo_36 rfl ?_
      refine j_iconst (pc := 37) 1 X dX10_cameTo_37 rfl ?_
      refine j_iload (pc := 38) 3 X dX10_cameTo_38 rfl ?_
      refine j_ishl (pc := 40) X dX10_cameTo_40 ?_
      refine j_iconst (pc := 41) (-1) X dX10_cameTo_41 rfl ?_
      refine j_ixor (pc := 42) X dX10_cameTo_42 ?_
      refine j_iand (pc := 43) X dX10_cameTo_43 ?_
      refine j_lald (pc := 44) X dX10_cameTo_44 (hz _ sh_208) hF (fun hF => ?_)
      refine j_lor (pc := 45) X dX10_cameTo_45 ?_
      refine j_lstore_n (pc := 46) (fun y => [(2, .long y), (0, .ref (Z.2.1 206)), (1, .int x1), (4, .int x4)]) X dX10_cameTo_46 (by decide) (fun _ => rfl) hF (fun v3 hF => ?_)
      refine j_lv [(0, .ref (Z.2.1 206)), (1, .int x1), (2, .long v3), (4, .int x4)] [1, 2, 0, 3] rfl ?_
      exact BX10_cameTo_47 X E hz r10 hr10 x1 v3 x4 h1 hF
theorem LX10_cameTo_10 {Z : ZT} {G : GT} {r : Int64} {hr : Hp} (X : CX Z G cX10_cameTo RX10 5 1) (E : RX Z G (some .long) (some (.long r)) hr) (hz : HZ Z)  : ∀ (n : Nat) (x1 : Int32) (x2 : Int64) (x4 : Int32) (h : Hp), lX10_cameTo_10   n x1 x2 x4 h = some (r, hr) → J Z G 5 h 10 [(0, .ref (Z.2.1 206)), (1, .int x1), (2, .long x2), (4, .int x4)] [] := by
  intro n
  induction n with
  | zero => intro x1 x2 x4 h hF; cases hF
  | succ n ih => intro x1 x2 x4 h hF; exact BX10_cameTo_10 X E hz  (lX10_cameTo_10   n) ih x1 x2 x4 h hF
def fX10_cameTo (a1 : Int32) (h : Hp) : Option (Int64 × Hp) := ck (inb a1 32) (lt (h.2 208 (ix a1)) (fun v1 => lt 0 (fun v2 => lX10_cameTo_10 FU a1 v1 v2 h)))
set_option maxRecDepth 20000 in
theorem tX10_cameTo (Z : ZT) (a1 : Int32) (hz : HZ Z) (h : Hp) (r : Int64) (hr : Hp) (hF : fX10_cameTo a1 h = some (r, hr)) : MC Z yX10_cameTo cX10_cameTo 5 (some .long) 1 [.ref (Z.2.1 206), .int a1] h (some (.long r)) hr := by
  unfold fX10_cameTo at hF
  refine mc_start (by decide) (Nat.le_of_ble_eq_true rfl) (fun G X E => ?_)
  refine j_aload_n (pc := 0) 0 X dX10_cameTo_0 rfl ?_
  refine j_getr (pc := 1) X dX10_cameTo_1 (hz _ sh_206) fl_X10_15 rfl ?_
  refine j_iload_n (pc := 4) 1 X dX10_cameTo_4 rfl ?_
  refine j_lald (pc := 5) X dX10_cameTo_5 (hz _ sh_208) hF (fun hF => ?_)
  refine j_lstore_n (pc := 6) (fun y => [(2, .long y), (0, .ref (Z.2.1 206)), (1, .int a1)]) X dX10_cameTo_6 (by decide) (fun _ => rfl) hF (fun v1 hF => ?_)
  refine j_iconst (pc := 7) 0 X dX10_cameTo_7 rfl ?_
  refine j_istore (pc := 8) (fun y => [(4, .int y), (2, .long v1), (0, .ref (Z.2.1 206)), (1, .int a1)]) X dX10_cameTo_8 (by decide) (fun _ => rfl) hF (fun v2 hF => ?_)
  refine j_lv [(0, .ref (Z.2.1 206)), (1, .int a1), (2, .long v1), (4, .int v2)] [2, 3, 1, 0] rfl ?_
  exact LX10_cameTo_10 X E hz FU a1 v1 v2 h hF
theorem dX10_lookAtAll_0 : decode cX10_lookAtAll 0 = .ok (.lconst 0, 1) := by decide +kernel
theorem dX10_lookAtAll_1 : decode cX10_lookAtAll 1 = .ok (.lstore 6, 2) := by decide +kernel
theorem dX10_lookAtAll_3 : decode cX10_lookAtAll 3 = .ok (.lload 4, 2) := by decide +kernel
theorem dX10_lookAtAll_5 : decode cX10_lookAtAll 5 = .ok (.lstore 8, 2) := by decide +kernel
theorem dX10_lookAtAll_7 : decode cX10_lookAtAll 7 = .ok (.iconst 0, 1) := by decide +kernel
theorem dX10_lookAtAll_8 : decode cX10_lookAtAll 8 = .ok (.istore 10, 2) := by decide +kernel
theorem dX10_lookAtAll_10 : decode cX10_lookAtAll 10 = .ok (.iload 10, 2) := by decide +kernel
theorem dX10_lookAtAll_12 : decode cX10_lookAtAll 12 = .ok (.bipush 64, 2) := by decide +kernel
theorem dX10_lookAtAll_14 : decode cX10_lookAtAll 14 = .ok (.if_icmp .ge 83, 3) := by decide +kernel
theorem dX10_lookAtAll_17 : decode cX10_lookAtAll 17 = .ok (.lload 8, 2) := by decide +kernel
theorem dX10_lookAtAll_19 : decode cX10_lookAtAll 19 = .ok (.lconst 0, 1) := by decide +kernel
theorem dX10_lookAtAll_20 : decode cX10_lookAtAll 20 = .ok (.lcmp, 1) := by decide +kernel
theorem dX10_lookAtAll_21 : decode cX10_lookAtAll 21 = .ok (.ifCond .eq 76, 3) := by decide +kernel
theorem dX10_lookAtAll_24 : decode cX10_lookAtAll 24 = .ok (.aload_n 0, 1) := by decide +kernel
theorem dX10_lookAtAll_25 : decode cX10_lookAtAll 25 = .ok (.iload_n 2, 1) := by decide +kernel
theorem dX10_lookAtAll_26 : decode cX10_lookAtAll 26 = .ok (.iload_n 3, 1) := by decide +kernel
theorem dX10_lookAtAll_27 : decode cX10_lookAtAll 27 = .ok (.lload 8, 2) := by decide +kernel
theorem dX10_lookAtAll_29 : decode cX10_lookAtAll 29 = .ok (.invokestatic 102, 3) := by decide +kernel
theorem dX10_lookAtAll_32 : decode cX10_lookAtAll 32 = .ok (.invokevirtual 108, 3) := by decide +kernel
theorem dX10_lookAtAll_35 : decode cX10_lookAtAll 35 = .ok (.istore 11, 2) := by decide +kernel
theorem dX10_lookAtAll_37 : decode cX10_lookAtAll 37 = .ok (.iload 11, 2) := by decide +kernel
theorem dX10_lookAtAll_39 : decode cX10_lookAtAll 39 = .ok (.iload_n 1, 1) := by decide +kernel
theorem dX10_lookAtAll_40 : decode cX10_lookAtAll 40 = .ok (.invokestatic 66, 3) := by decide +kernel
theorem dX10_lookAtAll_43 : decode cX10_lookAtAll 43 = .ok (.ifCond .ne 15, 3) := by decide +kernel
theorem dX10_lookAtAll_46 : decode cX10_lookAtAll 46 = .ok (.lload 6, 2) := by decide +kernel
theorem dX10_lookAtAll_48 : decode cX10_lookAtAll 48 = .ok (.lconst 1, 1) := by decide +kernel
theorem dX10_lookAtAll_49 : decode cX10_lookAtAll 49 = .ok (.iload 11, 2) := by decide +kernel
theorem dX10_lookAtAll_51 : decode cX10_lookAtAll 51 = .ok (.lshl, 1) := by decide +kernel
theorem dX10_lookAtAll_52 : decode cX10_lookAtAll 52 = .ok (.lor, 1) := by decide +kernel
theorem dX10_lookAtAll_53 : decode cX10_lookAtAll 53 = .ok (.lstore 6, 2) := by decide +kernel
theorem dX10_lookAtAll_55 : decode cX10_lookAtAll 55 = .ok (.goto 27, 3) := by decide +kernel
theorem dX10_lookAtAll_58 : decode cX10_lookAtAll 58 = .ok (.aload_n 0, 1) := by decide +kernel
theorem dX10_lookAtAll_59 : decode cX10_lookAtAll 59 = .ok (.iload_n 2, 1) := by decide +kernel
theorem dX10_lookAtAll_60 : decode cX10_lookAtAll 60 = .ok (.putfield 87, 3) := by decide +kernel
theorem dX10_lookAtAll_63 : decode cX10_lookAtAll 63 = .ok (.aload_n 0, 1) := by decide +kernel
theorem dX10_lookAtAll_64 : decode cX10_lookAtAll 64 = .ok (.aload_n 0, 1) := by decide +kernel
theorem dX10_lookAtAll_65 : decode cX10_lookAtAll 65 = .ok (.getfield 84, 3) := by decide +kernel
theorem dX10_lookAtAll_68 : decode cX10_lookAtAll 68 = .ok (.ifCond .ge 7, 3) := by decide +kernel
theorem dX10_lookAtAll_71 : decode cX10_lookAtAll 71 = .ok (.iload_n 2, 1) := by decide +kernel
theorem dX10_lookAtAll_72 : decode cX10_lookAtAll 72 = .ok (.goto 7, 3) := by decide +kernel
theorem dX10_lookAtAll_75 : decode cX10_lookAtAll 75 = .ok (.aload_n 0, 1) := by decide +kernel
theorem dX10_lookAtAll_76 : decode cX10_lookAtAll 76 = .ok (.getfield 84, 3) := by decide +kernel
theorem dX10_lookAtAll_79 : decode cX10_lookAtAll 79 = .ok (.putfield 84, 3) := by decide +kernel
theorem dX10_lookAtAll_82 : decode cX10_lookAtAll 82 = .ok (.lload 8, 2) := by decide +kernel
theorem dX10_lookAtAll_84 : decode cX10_lookAtAll 84 = .ok (.lload 8, 2) := by decide +kernel
theorem dX10_lookAtAll_86 : decode cX10_lookAtAll 86 = .ok (.lconst 1, 1) := by decide +kernel
theorem dX10_lookAtAll_87 : decode cX10_lookAtAll 87 = .ok (.lsub, 1) := by decide +kernel
theorem dX10_lookAtAll_88 : decode cX10_lookAtAll 88 = .ok (.land, 1) := by decide +kernel
theorem dX10_lookAtAll_89 : decode cX10_lookAtAll 89 = .ok (.lstore 8, 2) := by decide +kernel
theorem dX10_lookAtAll_91 : decode cX10_lookAtAll 91 = .ok (.iinc 10 1, 3) := by decide +kernel
theorem dX10_lookAtAll_94 : decode cX10_lookAtAll 94 = .ok (.goto (-84), 3) := by decide +kernel
theorem dX10_lookAtAll_97 : decode cX10_lookAtAll 97 = .ok (.lload 6, 2) := by decide +kernel
theorem dX10_lookAtAll_99 : decode cX10_lookAtAll 99 = .ok (.lreturn, 1) := by decide +kernel
def bX10_lookAtAll_82  (r10 : Int32 → Int32 → Int32 → Int64 → Int64 → Int32 → Hp → Option (Int64 × Hp)) (x1 : Int32) (x2 : Int32) (x3 : Int32) (x6 : Int64) (x8 : Int64) (x10 : Int32) (h : Hp) : Option (Int64 × Hp) := lt (x8 &&& (x8 - 1)) (fun v1 => lt (x10 + 1) (fun v2 => r10 x1 x2 x3 x6 v1 v2 h))
set_option maxRecDepth 20000 in
theorem BX10_lookAtAll_82 {Z : ZT} {G : GT} {r : Int64} {hr : Hp} (X : CX Z G cX10_lookAtAll RX10 12 5) (E : RX Z G (some .long) (some (.long r)) hr) (hz : HZ Z) (r10 : Int32 → Int32 → Int32 → Int64 → Int64 → Int32 → Hp → Option (Int64 × Hp)) (hr10 : ∀ (x1 : Int32) (x2 : Int32) (x3 : Int32) (x6 : Int64) (x8 : Int64) (x10 : Int32) (h : Hp), r10 x1 x2 x3 x6 x8 x10 h = some (r, hr) → J Z G 12 h 10 [(0, .ref (Z.2.1 206)), (1, .int x1), (2, .int x2), (3, .int x3), (6, .long x6), (8, .long x8), (10, .int x10)] []) (x1 : Int32) (x2 : Int32) (x3 : Int32) (x6 : Int64) (x8 : Int64) (x10 : Int32) (h : Hp) (hF : bX10_lookAtAll_82  r10 x1 x2 x3 x6 x8 x10 h = some (r, hr)) : J Z G 12 h 82 [(0, .ref (Z.2.1 206)), (1, .int x1), (2, .int x2), (3, .int x3), (6, .long x6), (8, .long x8), (10, .int x10)] [] := by
  unfold bX10_lookAtAll_82 at hF
  refine j_lload (pc := 82) 5 X dX10_lookAtAll_82 rfl ?_
  refine j_lload (pc := 84) 5 X dX10_lookAtAll_84 rfl ?_
  refine j_lconst (pc := 86) 1 X dX10_lookAtAll_86 rfl ?_
  refine j_lsub (pc := 87) X dX10_lookAtAll_87 ?_
  refine j_land (pc := 88) X dX10_lookAtAll_88 ?_
  refine j_lstore (pc := 89) (fun y => [(8, .long y), (0, .ref (Z.2.1 206)), (1, .int x1), (2, .int x2), (3, .int x3), (6, .long x6), (10, .int x10)]) X dX10_lookAtAll_89 (by decide) (fun _ => rfl) hF (fun v1 hF => ?_)
  refine j_iinc (pc := 91) 6 (x10 + 1) (fun y => [(10, .int y), (8, .long v1), (0, .ref (Z.2.1 206)), (1, .int x1), (2, .int x2), (3, .int x3), (6, .long x6)]) X dX10_lookAtAll_91 rfl rfl (by decide) (fun _ => rfl) hF (fun v2 hF => ?_)
  refine j_goto (pc := 94) 10 X dX10_lookAtAll_94 rfl ?_
  refine j_lv [(0, .ref (Z.2.1 206)), (1, .int x1), (2, .int x2), (3, .int x3), (6, .long x6), (8, .long v1), (10, .int v2)] [2, 3, 4, 5, 6, 1, 0] rfl ?_
  exact hr10 x1 x2 x3 x6 v1 v2 h hF
def bX10_lookAtAll_79  (r10 : Int32 → Int32 → Int32 → Int64 → Int64 → Int32 → Hp → Option (Int64 × Hp)) (x1 : Int32) (x2 : Int32) (x3 : Int32) (x6 : Int64) (x8 : Int64) (x10 : Int32) (s0 : Int32) (h : Hp) : Option (Int64 × Hp) := lt (wI h 206 6 s0) (fun h1 => bX10_lookAtAll_82 r10 x1 x2 x3 x6 x8 x10 h1)
set_option maxRecDepth 20000 in
theorem BX10_lookAtAll_79 {Z : ZT} {G : GT} {r : Int64} {hr : Hp} (X : CX Z G cX10_lookAtAll RX10 12 5) (E : RX Z G (some .long) (some (.long r)) hr) (hz : HZ Z) (r10 : Int32 → Int32 → Int32 → Int64 → Int64 → Int32 → Hp → Option (Int64 × Hp)) (hr10 : ∀ (x1 : Int32) (x2 : Int32) (x3 : Int32) (x6 : Int64) (x8 : Int64) (x10 : Int32) (h : Hp), r10 x1 x2 x3 x6 x8 x10 h = some (r, hr) → J Z G 12 h 10 [(0, .ref (Z.2.1 206)), (1, .int x1), (2, .int x2), (3, .int x3), (6, .long x6), (8, .long x8), (10, .int x10)] []) (x1 : Int32) (x2 : Int32) (x3 : Int32) (x6 : Int64) (x8 : Int64) (x10 : Int32) (s0 : Int32) (h : Hp) (hF : bX10_lookAtAll_79  r10 x1 x2 x3 x6 x8 x10 s0 h = some (r, hr)) : J Z G 12 h 79 [(0, .ref (Z.2.1 206)), (1, .int x1), (2, .int x2), (3, .int x3), (6, .long x6), (8, .long x8), (10, .int x10)] [.int s0, .ref (Z.2.1 206)] := by
  unfold bX10_lookAtAll_79 at hF
  refine j_puti (pc := 79) X dX10_lookAtAll_79 (hz _ sh_206) fp_X10_84 rfl hF (fun h1 hF => ?_)
  exact BX10_lookAtAll_82 X E hz r10 hr10 x1 x2 x3 x6 x8 x10 h1 hF
def bX10_lookAtAll_10   (r10 : Int32 → Int32 → Int32 → Int64 → Int64 → Int32 → Hp → Option (Int64 × Hp)) (x1 : Int32) (x2 : Int32) (x3 : Int32) (x6 : Int64) (x8 : Int64) (x10 : Int32) (h : Hp) : Option (Int64 × Hp) := (if 64 ≤ x10 then some (x6, h) else (if (lg_cmp x8 0) = 0 then some (x6, h) else bi (fJ13_numberOfTrailingZeros_95d88 x8 h) (fun w2 h1 => bi (fX10_lookUp x2 x3 w2 h1) (fun w4 h3 => lt w4 (fun v5 => bi (fX11_has v5 x1 h3) (fun w7 h6 => (if w7 = 0 then lt (x6 ||| (shlL 1 v5)) (fun v9 => bX10_lookAtAll_82 r10 x1 x2 x3 v9 x8 x10 h6) else lt (wI h6 206 7 x2) (fun h8 => (if 0 ≤ (h8.1 206 6) then bX10_lookAtAll_79 r10 x1 x2 x3 x6 x8 x10 (h8.1 206 6) h8 else bX10_lookAtAll_79 r10 x1 x2 x3 x6 x8 x10 x2 h8)))))))))
def lX10_lookAtAll_10   : Nat → Int32 → Int32 → Int32 → Int64 → Int64 → Int32 → Hp → Option (Int64 × Hp)
  | 0 => fun _ _ _ _ _ _ _ => none
  | n + 1 => bX10_lookAtAll_10   (lX10_lookAtAll_10   n)
set_option maxRecDepth 20000 in
theorem BX10_lookAtAll_10 {Z : ZT} {G : GT} {r : Int64} {hr : Hp} (X : CX Z G cX10_lookAtAll RX10 12 5) (E : RX Z G (some .long) (some (.long r)) hr) (hz : HZ Z)  (r10 : Int32 → Int32 → Int32 → Int64 → Int64 → Int32 → Hp → Option (Int64 × Hp)) (hr10 : ∀ (x1 : Int32) (x2 : Int32) (x3 : Int32) (x6 : Int64) (x8 : Int64) (x10 : Int32) (h : Hp), r10 x1 x2 x3 x6 x8 x10 h = some (r, hr) → J Z G 12 h 10 [(0, .ref (Z.2.1 206)), (1, .int x1), (2, .int x2), (3, .int x3), (6, .long x6), (8, .long x8), (10, .int x10)] []) (x1 : Int32) (x2 : Int32) (x3 : Int32) (x6 : Int64) (x8 : Int64) (x10 : Int32) (h : Hp) (hF : bX10_lookAtAll_10   r10 x1 x2 x3 x6 x8 x10 h = some (r, hr)) : J Z G 12 h 10 [(0, .ref (Z.2.1 206)), (1, .int x1), (2, .int x2), (3, .int x3), (6, .long x6), (8, .long x8), (10, .int x10)] [] := by
  unfold bX10_lookAtAll_10 at hF
  refine j_iload (pc := 10) 6 X dX10_lookAtAll_10 rfl ?_
  refine j_bipush (pc := 12) 64 X dX10_lookAtAll_12 rfl ?_
  refine j_icmp_ge (pc := 14) 97 X dX10_lookAtAll_14 rfl hF (fun hF => ?_) (fun hF => ?_)
  · refine j_lload (pc := 97) 4 X dX10_lookAtAll_97 rfl ?_
    exact j_lret (pc := 99) X E dX10_lookAtAll_99 hF
  · refine j_lload (pc := 17) 5 X dX10_lookAtAll_17 rfl ?_
    refine j_lconst (pc := 19) 0 X dX10_lookAtAll_19 rfl ?_
    refine j_lcmp (pc := 20) X dX10_lookAtAll_20 ?_
    refine j_if_eq (pc := 21) 97 X dX10_lookAtAll_21 rfl hF (fun hF => ?_) (fun hF => ?_)
    · refine j_lload (pc := 97) 4 X dX10_lookAtAll_97 rfl ?_
      exact j_lret (pc := 99) X E dX10_lookAtAll_99 hF
    · refine j_aload_n (pc := 24) 0 X dX10_lookAtAll_24 rfl ?_
      refine j_iload_n (pc := 25) 2 X dX10_lookAtAll_25 rfl ?_
      refine j_iload_n (pc := 26) 3 X dX10_lookAtAll_26 rfl ?_
      refine j_lload (pc := 27) 5 X dX10_lookAtAll_27 rfl ?_
      refine j_cSi (pc := 29) (As := [.long x8]) (rest := [.int x3, .int x2, .ref (Z.2.1 206)]) X dX10_lookAtAll_29 ml_X10_102 ck_J13_numberOfTrailingZeros_95d88 sk_J13_numberOfTrailingZeros_95d88 (Nat.le_of_ble_eq_true rfl) rfl (Nat.le_of_ble_eq_true rfl) rfl hF (tJ13_numberOfTrailingZeros_95d88 Z x8 trivial h) (fun w2 h1 hF => ?_)
      refine j_cVi (pc := 32) (As := [.int x2, .int x3, .int w2]) (rest := []) X dX10_lookAtAll_32 ml_X10_108 ck_X10_lookUp cv_X10_lookUp (hz _ sh_206) rfl (Nat.le_of_ble_eq_true rfl) rfl (Nat.le_of_ble_eq_true rfl) rfl hF (tX10_lookUp Z x2 x3 w2 hz h1) (fun w4 h3 hF => ?_)
      refine j_istore (pc := 35) (fun y => [(11, .int y), (0, .ref (Z.2.1 206)), (1, .int x1), (2, .int x2), (3, .int x3), (6, .long x6), (8, .long x8), (10, .int x10)]) X dX10_lookAtAll_35 (by decide) (fun _ => rfl) hF (fun v5 hF => ?_)
      refine j_iload (pc := 37) 0 X dX10_lookAtAll_37 rfl ?_
      refine j_iload_n (pc := 39) 2 X dX10_lookAtAll_39 rfl ?_
      refine j_cSNi (pc := 40) (As := [.int v5, .int x1]) (rest := []) X dX10_lookAtAll_40 ml_X10_66 ck_X11_has sk_X11_has (Nat.le_of_ble_eq_true rfl) rfl (Nat.le_of_ble_eq_true rfl) rfl hF (tX11_has Z v5 x1 trivial h3) (fun w7 h6 hF => ?_)
      refine j_if_ne (pc := 43) 58 X dX10_lookAtAll_43 rfl hF (fun hF => ?_) (fun hF => ?_)
      · refine j_aload_n (pc := 58) 1 X dX10_lookAtAll_58 rfl ?_
        refine j_iload_n (pc := 59) 3 X dX10_lookAtAll_59 rfl ?_
        refine j_puti (pc := 60) X dX10_lookAtAll_60 (hz _ sh_206) fp_X10_87 rfl hF (fun h8 hF => ?_)
        refine j_aload_n (pc := 63) 1 X dX10_lookAtAll_63 rfl ?_
        refine j_aload_n (pc := 64) 1 X dX10_lookAtAll_64 rfl ?_
        refine j_geti (pc := 65) X dX10_lookAtAll_65 (hz _ sh_206) fl_X10_84 rfl ?_
        refine j_if_ge (pc := 68) 75 X dX10_lookAtAll_68 rfl hF (fun hF => ?_) (fun hF => ?_)
        · refine j_aload_n (pc := 75) 1 X dX10_lookAtAll_75 rfl ?_
          refine j_geti (pc := 76) X dX10_lookAtAll_76 (hz _ sh_206) fl_X10_84 rfl ?_
          refine j_lv [(0, .ref (Z.2.1 206)), (1, .int x1), (2, .int x2), (3, .int x3), (6, .long x6), (8, .long x8), (10, .int x10)] [1, 2, 3, 4, 5, 6, 7] rfl ?_
          exact BX10_lookAtAll_79 X E hz r10 hr10 x1 x2 x3 x6 x8 x10 (h8.1 206 6) h8 hF
        · refine j_iload_n (pc := 71) 3 X dX10_lookAtAll_71 rfl ?_
          refine j_goto (pc := 72) 79 X dX10_lookAtAll_72 rfl ?_
          refine j_lv [(0, .ref (Z.2.1 206)), (1, .int x1), (2, .int x2), (3, .int x3), (6, .long x6), (8, .long x8), (10, .int x10)] [1, 2, 3, 4, 5, 6, 7] rfl ?_
          exact BX10_lookAtAll_79 X E hz r10 hr10 x1 x2 x3 x6 x8 x10 x2 h8 hF
      · refine j_lload (pc := 46) 5 X dX10_lookAtAll_46 rfl ?_
        refine j_lconst (pc := 48) 1 X dX10_lookAtAll_48 rfl ?_
        refine j_iload (pc := 49) 0 X dX10_lookAtAll_49 rfl ?_
        refine j_lshl (pc := 51) X dX10_lookAtAll_51 ?_
        refine j_lor (pc := 52) X dX10_lookAtAll_52 ?_
        refine j_lstore (pc := 53) (fun y => [(6, .long y), (11, .int v5), (0, .ref (Z.2.1 206)), (1, .int x1), (2, .int x2), (3, .int x3), (8, .long x8), (10, .int x10)]) X dX10_lookAtAll_53 (by decide) (fun _ => rfl) hF (fun v9 hF => ?_)
        refine j_goto (pc := 55) 82 X dX10_lookAtAll_55 rfl ?_
        refine j_lv [(0, .ref (Z.2.1 206)), (1, .int x1), (2, .int x2), (3, .int x3), (6, .long v9), (8, .long x8), (10, .int x10)] [2, 3, 4, 5, 0, 6, 7] rfl ?_
        exact BX10_lookAtAll_82 X E hz r10 hr10 x1 x2 x3 v9 x8 x10 h6 hF
theorem LX10_lookAtAll_10 {Z : ZT} {G : GT} {r : Int64} {hr : Hp} (X : CX Z G cX10_lookAtAll RX10 12 5) (E : RX Z G (some .long) (some (.long r)) hr) (hz : HZ Z)  : ∀ (n : Nat) (x1 : Int32) (x2 : Int32) (x3 : Int32) (x6 : Int64) (x8 : Int64) (x10 : Int32) (h : Hp), lX10_lookAtAll_10   n x1 x2 x3 x6 x8 x10 h = some (r, hr) → J Z G 12 h 10 [(0, .ref (Z.2.1 206)), (1, .int x1), (2, .int x2), (3, .int x3), (6, .long x6), (8, .long x8), (10, .int x10)] [] := by
  intro n
  induction n with
  | zero => intro x1 x2 x3 x6 x8 x10 h hF; cases hF
  | succ n ih => intro x1 x2 x3 x6 x8 x10 h hF; exact BX10_lookAtAll_10 X E hz  (lX10_lookAtAll_10   n) ih x1 x2 x3 x6 x8 x10 h hF
def fX10_lookAtAll (a1 : Int32) (a2 : Int32) (a3 : Int32) (a4 : Int64) (h : Hp) : Option (Int64 × Hp) := lt 0 (fun v1 => lt a4 (fun v2 => lt 0 (fun v3 => lX10_lookAtAll_10 FU a1 a2 a3 v1 v2 v3 h)))
set_option maxRecDepth 20000 in
theorem tX10_lookAtAll (Z : ZT) (a1 : Int32) (a2 : Int32) (a3 : Int32) (a4 : Int64) (hz : HZ Z) (h : Hp) (r : Int64) (hr : Hp) (hF : fX10_lookAtAll a1 a2 a3 a4 h = some (r, hr)) : MC Z yX10_lookAtAll cX10_lookAtAll 12 (some .long) 5 [.ref (Z.2.1 206), .int a1, .int a2, .int a3, .long a4] h (some (.long r)) hr := by
  unfold fX10_lookAtAll at hF
  refine mc_start (by decide) (Nat.le_of_ble_eq_true rfl) (fun G X E => ?_)
  refine j_lconst (pc := 0) 0 X dX10_lookAtAll_0 rfl ?_
  refine j_lstore (pc := 1) (fun y => [(6, .long y), (0, .ref (Z.2.1 206)), (1, .int a1), (2, .int a2), (3, .int a3), (4, .long a4)]) X dX10_lookAtAll_1 (by decide) (fun _ => rfl) hF (fun v1 hF => ?_)
  refine j_lload (pc := 3) 5 X dX10_lookAtAll_3 rfl ?_
  refine j_lstore (pc := 5) (fun y => [(8, .long y), (6, .long v1), (0, .ref (Z.2.1 206)), (1, .int a1), (2, .int a2), (3, .int a3), (4, .long a4)]) X dX10_lookAtAll_5 (by decide) (fun _ => rfl) hF (fun v2 hF => ?_)
  refine j_iconst (pc := 7) 0 X dX10_lookAtAll_7 rfl ?_
  refine j_istore (pc := 8) (fun y => [(10, .int y), (8, .long v2), (6, .long v1), (0, .ref (Z.2.1 206)), (1, .int a1), (2, .int a2), (3, .int a3), (4, .long a4)]) X dX10_lookAtAll_8 (by decide) (fun _ => rfl) hF (fun v3 hF => ?_)
  refine j_lv [(0, .ref (Z.2.1 206)), (1, .int a1), (2, .int a2), (3, .int a3), (6, .long v1), (8, .long v2), (10, .int v3)] [3, 4, 5, 6, 2, 1, 0] rfl ?_
  exact LX10_lookAtAll_10 X E hz FU a1 a2 a3 v1 v2 v3 h hF
theorem dX10_foresee_0 : decode cX10_foresee 0 = .ok (.aload_n 0, 1) := by decide +kernel
theorem dX10_foresee_1 : decode cX10_foresee 1 = .ok (.getfield 15, 3) := by decide +kernel
theorem dX10_foresee_4 : decode cX10_foresee 4 = .ok (.lconst 0, 1) := by decide +kernel
theorem dX10_foresee_5 : decode cX10_foresee 5 = .ok (.invokestatic 78, 3) := by decide +kernel
theorem dX10_foresee_8 : decode cX10_foresee 8 = .ok (.aload_n 0, 1) := by decide +kernel
theorem dX10_foresee_9 : decode cX10_foresee 9 = .ok (.bipush (-2), 2) := by decide +kernel
theorem dX10_foresee_11 : decode cX10_foresee 11 = .ok (.putfield 84, 3) := by decide +kernel
theorem dX10_foresee_14 : decode cX10_foresee 14 = .ok (.aload_n 0, 1) := by decide +kernel
theorem dX10_foresee_15 : decode cX10_foresee 15 = .ok (.bipush (-2), 2) := by decide +kernel
theorem dX10_foresee_17 : decode cX10_foresee 17 = .ok (.putfield 87, 3) := by decide +kernel
theorem dX10_foresee_20 : decode cX10_foresee 20 = .ok (.aload_n 0, 1) := by decide +kernel
theorem dX10_foresee_21 : decode cX10_foresee 21 = .ok (.getfield 15, 3) := by decide +kernel
theorem dX10_foresee_24 : decode cX10_foresee 24 = .ok (.iload_n 3, 1) := by decide +kernel
theorem dX10_foresee_25 : decode cX10_foresee 25 = .ok (.lconst 1, 1) := by decide +kernel
theorem dX10_foresee_26 : decode cX10_foresee 26 = .ok (.iload 4, 2) := by decide +kernel
theorem dX10_foresee_28 : decode cX10_foresee 28 = .ok (.lshl, 1) := by decide +kernel
theorem dX10_foresee_29 : decode cX10_foresee 29 = .ok (.lastore, 1) := by decide +kernel
theorem dX10_foresee_30 : decode cX10_foresee 30 = .ok (.iload_n 2, 1) := by decide +kernel
theorem dX10_foresee_31 : decode cX10_foresee 31 = .ok (.istore 5, 2) := by decide +kernel
theorem dX10_foresee_33 : decode cX10_foresee 33 = .ok (.iload 5, 2) := by decide +kernel
theorem dX10_foresee_35 : decode cX10_foresee 35 = .ok (.bipush 60, 2) := by decide +kernel
theorem dX10_foresee_37 : decode cX10_foresee 37 = .ok (.if_icmp .ge 55, 3) := by decide +kernel
theorem dX10_foresee_40 : decode cX10_foresee 40 = .ok (.iconst 1, 1) := by decide +kernel
theorem dX10_foresee_41 : decode cX10_foresee 41 = .ok (.aload_n 0, 1) := by decide +kernel
theorem dX10_foresee_42 : decode cX10_foresee 42 = .ok (.getfield 19, 3) := by decide +kernel
theorem dX10_foresee_45 : decode cX10_foresee 45 = .ok (.getfield 37, 3) := by decide +kernel
theorem dX10_foresee_48 : decode cX10_foresee 48 = .ok (.ishl, 1) := by decide +kernel
theorem dX10_foresee_49 : decode cX10_foresee 49 = .ok (.iconst 1, 1) := by decide +kernel
theorem dX10_foresee_50 : decode cX10_foresee 50 = .ok (.isub, 1) := by decide +kernel
theorem dX10_foresee_51 : decode cX10_foresee 51 = .ok (.istore 6, 2) := by decide +kernel
theorem dX10_foresee_53 : decode cX10_foresee 53 = .ok (.iload 6, 2) := by decide +kernel
theorem dX10_foresee_55 : decode cX10_foresee 55 = .ok (.ifCond .lt 31, 3) := by decide +kernel
theorem dX10_foresee_58 : decode cX10_foresee 58 = .ok (.aload_n 0, 1) := by decide +kernel
theorem dX10_foresee_59 : decode cX10_foresee 59 = .ok (.getfield 15, 3) := by decide +kernel
theorem dX10_foresee_62 : decode cX10_foresee 62 = .ok (.iload 6, 2) := by decide +kernel
theorem dX10_foresee_64 : decode cX10_foresee 64 = .ok (.aload_n 0, 1) := by decide +kernel
theorem dX10_foresee_65 : decode cX10_foresee 65 = .ok (.iload_n 1, 1) := by decide +kernel
theorem dX10_foresee_66 : decode cX10_foresee 66 = .ok (.iload 5, 2) := by decide +kernel
theorem dX10_foresee_68 : decode cX10_foresee 68 = .ok (.iload 6, 2) := by decide +kernel
theorem dX10_foresee_70 : decode cX10_foresee 70 = .ok (.aload_n 0, 1) := by decide +kernel
theorem dX10_foresee_71 : decode cX10_foresee 71 = .ok (.iload 6, 2) := by decide +kernel
theorem dX10_foresee_73 : decode cX10_foresee 73 = .ok (.invokevirtual 90, 3) := by decide +kernel
theorem dX10_foresee_76 : decode cX10_foresee 76 = .ok (.invokevirtual 94, 3) := by decide +kernel
theorem dX10_foresee_79 : decode cX10_foresee 79 = .ok (.lastore, 1) := by decide +kernel
theorem dX10_foresee_80 : decode cX10_foresee 80 = .ok (.iinc 6 (-1), 3) := by decide +kernel
theorem dX10_foresee_83 : decode cX10_foresee 83 = .ok (.goto (-30), 3) := by decide +kernel
theorem dX10_foresee_86 : decode cX10_foresee 86 = .ok (.iinc 5 1, 3) := by decide +kernel
theorem dX10_foresee_89 : decode cX10_foresee 89 = .ok (.goto (-56), 3) := by decide +kernel
theorem dX10_foresee_92 : decode cX10_foresee 92 = .ok (.aload_n 0, 1) := by decide +kernel
theorem dX10_foresee_93 : decode cX10_foresee 93 = .ok (.iconst 1, 1) := by decide +kernel
theorem dX10_foresee_94 : decode cX10_foresee 94 = .ok (.putfield 98, 3) := by decide +kernel
theorem dX10_foresee_97 : decode cX10_foresee 97 = .ok (.iconst 0, 1) := by decide +kernel
theorem dX10_foresee_98 : decode cX10_foresee 98 = .ok (.istore 5, 2) := by decide +kernel
theorem dX10_foresee_100 : decode cX10_foresee 100 = .ok (.iload 5, 2) := by decide +kernel
theorem dX10_foresee_102 : decode cX10_foresee 102 = .ok (.iconst 1, 1) := by decide +kernel
theorem dX10_foresee_103 : decode cX10_foresee 103 = .ok (.aload_n 0, 1) := by decide +kernel
theorem dX10_foresee_104 : decode cX10_foresee 104 = .ok (.getfield 19, 3) := by decide +kernel
theorem dX10_foresee_107 : decode cX10_foresee 107 = .ok (.getfield 37, 3) := by decide +kernel
theorem dX10_foresee_110 : decode cX10_foresee 110 = .ok (.ishl, 1) := by decide +kernel
theorem dX10_foresee_111 : decode cX10_foresee 111 = .ok (.if_icmp .ge 37, 3) := by decide +kernel
theorem dX10_foresee_114 : decode cX10_foresee 114 = .ok (.aload_n 0, 1) := by decide +kernel
theorem dX10_foresee_115 : decode cX10_foresee 115 = .ok (.aload_n 0, 1) := by decide +kernel
theorem dX10_foresee_116 : decode cX10_foresee 116 = .ok (.getfield 98, 3) := by decide +kernel
theorem dX10_foresee_119 : decode cX10_foresee 119 = .ok (.ifCond .eq 19, 3) := by decide +kernel
theorem dX10_foresee_122 : decode cX10_foresee 122 = .ok (.aload_n 0, 1) := by decide +kernel
theorem dX10_foresee_123 : decode cX10_foresee 123 = .ok (.getfield 15, 3) := by decide +kernel
theorem dX10_foresee_126 : decode cX10_foresee 126 = .ok (.iload 5, 2) := by decide +kernel
theorem dX10_foresee_128 : decode cX10_foresee 128 = .ok (.laload, 1) := by decide +kernel
theorem dX10_foresee_129 : decode cX10_foresee 129 = .ok (.lconst 0, 1) := by decide +kernel
theorem dX10_foresee_130 : decode cX10_foresee 130 = .ok (.lcmp, 1) := by decide +kernel
theorem dX10_foresee_131 : decode cX10_foresee 131 = .ok (.ifCond .ne 7, 3) := by decide +kernel
theorem dX10_foresee_134 : decode cX10_foresee 134 = .ok (.iconst 1, 1) := by decide +kernel
theorem dX10_foresee_135 : decode cX10_foresee 135 = .ok (.goto 4, 3) := by decide +kernel
theorem dX10_foresee_138 : decode cX10_foresee 138 = .ok (.iconst 0, 1) := by decide +kernel
theorem dX10_foresee_139 : decode cX10_foresee 139 = .ok (.putfield 98, 3) := by decide +kernel
theorem dX10_foresee_142 : decode cX10_foresee 142 = .ok (.iinc 5 1, 3) := by decide +kernel
theorem dX10_foresee_145 : decode cX10_foresee 145 = .ok (.goto (-45), 3) := by decide +kernel
theorem dX10_foresee_148 : decode cX10_foresee 148 = .ok (.return_, 1) := by decide +kernel
def bX10_foresee_53  (r33 : Int32 → Int32 → Hp → Option (Hp)) (r53 : Int32 → Int32 → Int32 → Hp → Option (Hp)) (x1 : Int32) (x5 : Int32) (x6 : Int32) (h : Hp) : Option (Hp) := (if x6 < 0 then lt (x5 + 1) (fun v1 => r33 x1 v1 h) else bi (fX10_cameTo x6 h) (fun w3 h2 => bi (fX10_lookAtAll x1 x5 x6 w3 h2) (fun w5 h4 => ck (inb x6 32) (lt (wL h4 208 (ix x6) w5) (fun h6 => lt (x6 + (-1)) (fun v7 => r53 x1 x5 v7 h6))))))
def lX10_foresee_53  (r33 : Int32 → Int32 → Hp → Option (Hp)) : Nat → Int32 → Int32 → Int32 → Hp → Option (Hp)
  | 0 => fun _ _ _ _ => none
  | n + 1 => bX10_foresee_53  r33 (lX10_foresee_53  r33 n)
set_option maxRecDepth 20000 in
theorem BX10_foresee_53 {Z : ZT} {G : GT} {hr : Hp} (X : CX Z G cX10_foresee RX10 7 6) (E : RX Z G none (none) hr) (hz : HZ Z) (r33 : Int32 → Int32 → Hp → Option (Hp)) (hr33 : ∀ (x1 : Int32) (x5 : Int32) (h : Hp), r33 x1 x5 h = some hr → J Z G 7 h 33 [(0, .ref (Z.2.1 206)), (1, .int x1), (5, .int x5)] []) (r53 : Int32 → Int32 → Int32 → Hp → Option (Hp)) (hr53 : ∀ (x1 : Int32) (x5 : Int32) (x6 : Int32) (h : Hp), r53 x1 x5 x6 h = some hr → J Z G 7 h 53 [(0, .ref (Z.2.1 206)), (1, .int x1), (5, .int x5), (6, .int x6)] []) (x1 : Int32) (x5 : Int32) (x6 : Int32) (h : Hp) (hF : bX10_foresee_53  r33 r53 x1 x5 x6 h = some hr) : J Z G 7 h 53 [(0, .ref (Z.2.1 206)), (1, .int x1), (5, .int x5), (6, .int x6)] [] := by
  unfold bX10_foresee_53 at hF
  refine j_iload (pc := 53) 3 X dX10_foresee_53 rfl ?_
  refine j_if_lt (pc := 55) 86 X dX10_foresee_55 rfl hF (fun hF => ?_) (fun hF => ?_)
  · refine j_iinc (pc := 86) 2 (x5 + 1) (fun y => [(5, .int y), (0, .ref (Z.2.1 206)), (1, .int x1), (6, .int x6)]) X dX10_foresee_86 rfl rfl (by decide) (fun _ => rfl) hF (fun v1 hF => ?_)
    refine j_goto (pc := 89) 33 X dX10_foresee_89 rfl ?_
    refine j_lv [(0, .ref (Z.2.1 206)), (1, .int x1), (5, .int v1)] [1, 2, 0] rfl ?_
    exact hr33 x1 v1 h hF
  · refine j_aload_n (pc := 58) 0 X dX10_foresee_58 rfl ?_
    refine j_getr (pc := 59) X dX10_foresee_59 (hz _ sh_206) fl_X10_15 rfl ?_
    refine j_iload (pc := 62) 3 X dX10_foresee_62 rfl ?_
    refine j_aload_n (pc := 64) 0 X dX10_foresee_64 rfl ?_
    refine j_iload_n (pc := 65) 1 X dX10_foresee_65 rfl ?_
    refine j_iload (pc := 66) 2 X dX10_foresee_66 rfl ?_
    refine j_iload (pc := 68) 3 X dX10_foresee_68 rfl ?_
    refine j_aload_n (pc := 70) 0 X dX10_foresee_70 rfl ?_
    refine j_iload (pc := 71) 3 X dX10_foresee_71 rfl ?_
    refine j_cVl (pc := 73) (As := [.int x6]) (rest := [.int x6, .int x5, .int x1, .ref (Z.2.1 206), .int x6, .ref (Z.2.1 208)]) X dX10_foresee_73 ml_X10_90 ck_X10_cameTo cv_X10_cameTo (hz _ sh_206) rfl (Nat.le_of_ble_eq_true rfl) rfl (Nat.le_of_ble_eq_true rfl) rfl hF (tX10_cameTo Z x6 hz h) (fun w3 h2 hF => ?_)
    refine j_cVl (pc := 76) (As := [.int x1, .int x5, .int x6, .long w3]) (rest := [.int x6, .ref (Z.2.1 208)]) X dX10_foresee_76 ml_X10_94 ck_X10_lookAtAll cv_X10_lookAtAll (hz _ sh_206) rfl (Nat.le_of_ble_eq_true rfl) rfl (Nat.le_of_ble_eq_true rfl) rfl hF (tX10_lookAtAll Z x1 x5 x6 w3 hz h2) (fun w5 h4 hF => ?_)
    refine j_last (pc := 79) X dX10_foresee_79 (hz _ sh_208) hF (fun h6 hF => ?_)
    refine j_iinc (pc := 80) 3 (x6 + (-1)) (fun y => [(6, .int y), (0, .ref (Z.2.1 206)), (1, .int x1), (5, .int x5)]) X dX10_foresee_80 rfl rfl (by decide) (fun _ => rfl) hF (fun v7 hF => ?_)
    refine j_goto (pc := 83) 53 X dX10_foresee_83 rfl ?_
    refine j_lv [(0, .ref (Z.2.1 206)), (1, .int x1), (5, .int x5), (6, .int v7)] [1, 2, 3, 0] rfl ?_
    exact hr53 x1 x5 v7 h6 hF
theorem LX10_foresee_53 {Z : ZT} {G : GT} {hr : Hp} (X : CX Z G cX10_foresee RX10 7 6) (E : RX Z G none (none) hr) (hz : HZ Z) (r33 : Int32 → Int32 → Hp → Option (Hp)) (hr33 : ∀ (x1 : Int32) (x5 : Int32) (h : Hp), r33 x1 x5 h = some hr → J Z G 7 h 33 [(0, .ref (Z.2.1 206)), (1, .int x1), (5, .int x5)] []) : ∀ (n : Nat) (x1 : Int32) (x5 : Int32) (x6 : Int32) (h : Hp), lX10_foresee_53  r33 n x1 x5 x6 h = some hr → J Z G 7 h 53 [(0, .ref (Z.2.1 206)), (1, .int x1), (5, .int x5), (6, .int x6)] [] := by
  intro n
  induction n with
  | zero => intro x1 x5 x6 h hF; cases hF
  | succ n ih => intro x1 x5 x6 h hF; exact BX10_foresee_53 X E hz r33 hr33 (lX10_foresee_53  r33 n) ih x1 x5 x6 h hF
def bX10_foresee_139  (r100 : Int32 → Hp → Option (Hp)) (x5 : Int32) (s0 : Int32) (h : Hp) : Option (Hp) := ck (zb s0) (lt (wI h 206 8 s0) (fun h1 => lt (x5 + 1) (fun v2 => r100 v2 h1)))
set_option maxRecDepth 20000 in
theorem BX10_foresee_139 {Z : ZT} {G : GT} {hr : Hp} (X : CX Z G cX10_foresee RX10 7 6) (E : RX Z G none (none) hr) (hz : HZ Z) (r100 : Int32 → Hp → Option (Hp)) (hr100 : ∀ (x5 : Int32) (h : Hp), r100 x5 h = some hr → J Z G 7 h 100 [(0, .ref (Z.2.1 206)), (5, .int x5)] []) (x5 : Int32) (s0 : Int32) (h : Hp) (hF : bX10_foresee_139  r100 x5 s0 h = some hr) : J Z G 7 h 139 [(0, .ref (Z.2.1 206)), (5, .int x5)] [.int s0, .ref (Z.2.1 206)] := by
  unfold bX10_foresee_139 at hF
  refine j_putz (pc := 139) X dX10_foresee_139 (hz _ sh_206) fp_X10_98 rfl hF (fun h1 hF => ?_)
  refine j_iinc (pc := 142) 1 (x5 + 1) (fun y => [(5, .int y), (0, .ref (Z.2.1 206))]) X dX10_foresee_142 rfl rfl (by decide) (fun _ => rfl) hF (fun v2 hF => ?_)
  refine j_goto (pc := 145) 100 X dX10_foresee_145 rfl ?_
  refine j_lv [(0, .ref (Z.2.1 206)), (5, .int v2)] [1, 0] rfl ?_
  exact hr100 v2 h1 hF
def bX10_foresee_138  (r100 : Int32 → Hp → Option (Hp)) (x5 : Int32) (h : Hp) : Option (Hp) := bX10_foresee_139 r100 x5 0 h
set_option maxRecDepth 20000 in
theorem BX10_foresee_138 {Z : ZT} {G : GT} {hr : Hp} (X : CX Z G cX10_foresee RX10 7 6) (E : RX Z G none (none) hr) (hz : HZ Z) (r100 : Int32 → Hp → Option (Hp)) (hr100 : ∀ (x5 : Int32) (h : Hp), r100 x5 h = some hr → J Z G 7 h 100 [(0, .ref (Z.2.1 206)), (5, .int x5)] []) (x5 : Int32) (h : Hp) (hF : bX10_foresee_138  r100 x5 h = some hr) : J Z G 7 h 138 [(0, .ref (Z.2.1 206)), (5, .int x5)] [.ref (Z.2.1 206)] := by
  unfold bX10_foresee_138 at hF
  refine j_iconst (pc := 138) 0 X dX10_foresee_138 rfl ?_
  exact BX10_foresee_139 X E hz r100 hr100 x5 0 h hF
def bX10_foresee_100   (r100 : Int32 → Hp → Option (Hp)) (x5 : Int32) (h : Hp) : Option (Hp) := (if ((1 : Int32) <<< ((h.1 108 6) &&& 31)) ≤ x5 then some h else (if (h.1 206 8) = 0 then bX10_foresee_138 r100 x5 h else ck (inb x5 32) ((if (lg_cmp (h.2 208 (ix x5)) 0) = 0 then bX10_foresee_139 r100 x5 1 h else bX10_foresee_138 r100 x5 h))))
def lX10_foresee_100   : Nat → Int32 → Hp → Option (Hp)
  | 0 => fun _ _ => none
  | n + 1 => bX10_foresee_100   (lX10_foresee_100   n)
set_option maxRecDepth 20000 in
theorem BX10_foresee_100 {Z : ZT} {G : GT} {hr : Hp} (X : CX Z G cX10_foresee RX10 7 6) (E : RX Z G none (none) hr) (hz : HZ Z)  (r100 : Int32 → Hp → Option (Hp)) (hr100 : ∀ (x5 : Int32) (h : Hp), r100 x5 h = some hr → J Z G 7 h 100 [(0, .ref (Z.2.1 206)), (5, .int x5)] []) (x5 : Int32) (h : Hp) (hF : bX10_foresee_100   r100 x5 h = some hr) : J Z G 7 h 100 [(0, .ref (Z.2.1 206)), (5, .int x5)] [] := by
  unfold bX10_foresee_100 at hF
  refine j_iload (pc := 100) 1 X dX10_foresee_100 rfl ?_
  refine j_iconst (pc := 102) 1 X dX10_foresee_102 rfl ?_
  refine j_aload_n (pc := 103) 0 X dX10_foresee_103 rfl ?_
  refine j_getr (pc := 104) X dX10_foresee_104 (hz _ sh_206) fl_X10_19 rfl ?_
  refine j_geti (pc := 107) X dX10_foresee_107 (hz _ sh_108) fl_X10_37 rfl ?_
  refine j_ishl (pc := 110) X dX10_foresee_110 ?_
  refine j_icmp_ge (pc := 111) 148 X dX10_foresee_111 rfl hF (fun hF => ?_) (fun hF => ?_)
  · exact j_vret (pc := 148) X E dX10_foresee_148 hF
  · refine j_aload_n (pc := 114) 0 X dX10_foresee_114 rfl ?_
    refine j_aload_n (pc := 115) 0 X dX10_foresee_115 rfl ?_
    refine j_geti (pc := 116) X dX10_foresee_116 (hz _ sh_206) fl_X10_98 rfl ?_
    refine j_if_eq (pc := 119) 138 X dX10_foresee_119 rfl hF (fun hF => ?_) (fun hF => ?_)
    · exact BX10_foresee_138 X E hz r100 hr100 x5 h hF
    · refine j_aload_n (pc := 122) 0 X dX10_foresee_122 rfl ?_
      refine j_getr (pc := 123) X dX10_foresee_123 (hz _ sh_206) fl_X10_15 rfl ?_
      refine j_iload (pc := 126) 1 X dX10_foresee_126 rfl ?_
      refine j_lald (pc := 128) X dX10_foresee_128 (hz _ sh_208) hF (fun hF => ?_)
      refine j_lconst (pc := 129) 0 X dX10_foresee_129 rfl ?_
      refine j_lcmp (pc := 130) X dX10_foresee_130 ?_
      refine j_if_ne (pc := 131) 138 X dX10_foresee_131 rfl hF (fun hF => ?_) (fun hF => ?_)
      · exact BX10_foresee_138 X E hz r100 hr100 x5 h hF
      · refine j_iconst (pc := 134) 1 X dX10_foresee_134 rfl ?_
        refine j_goto (pc := 135) 139 X dX10_foresee_135 rfl ?_
        exact BX10_foresee_139 X E hz r100 hr100 x5 1 h hF
theorem LX10_foresee_100 {Z : ZT} {G : GT} {hr : Hp} (X : CX Z G cX10_foresee RX10 7 6) (E : RX Z G none (none) hr) (hz : HZ Z)  : ∀ (n : Nat) (x5 : Int32) (h : Hp), lX10_foresee_100   n x5 h = some hr → J Z G 7 h 100 [(0, .ref (Z.2.1 206)), (5, .int x5)] [] := by
  intro n
  induction n with
  | zero => intro x5 h hF; cases hF
  | succ n ih => intro x5 h hF; exact BX10_foresee_100 X E hz  (lX10_foresee_100   n) ih x5 h hF
def bX10_foresee_33   (r33 : Int32 → Int32 → Hp → Option (Hp)) (x1 : Int32) (x5 : Int32) (h : Hp) : Option (Hp) := (if 60 ≤ x5 then ck (zb 1) (lt (wI h 206 8 1) (fun h1 => lt 0 (fun v2 => lX10_foresee_100 FU v2 h1))) else lt (((1 : Int32) <<< ((h.1 108 6) &&& 31)) - 1) (fun v3 => lX10_foresee_53 r33 FU x1 x5 v3 h))
def lX10_foresee_33   : Nat → Int32 → Int32 → Hp → Option (Hp)
  | 0 => fun _ _ _ => none
  | n + 1 => bX10_foresee_33   (lX10_foresee_33   n)
set_option maxRecDepth 20000 in
theorem BX10_foresee_33 {Z : ZT} {G : GT} {hr : Hp} (X : CX Z G cX10_foresee RX10 7 6) (E : RX Z G none (none) hr) (hz : HZ Z)  (r33 : Int32 → Int32 → Hp → Option (Hp)) (hr33 : ∀ (x1 : Int32) (x5 : Int32) (h : Hp), r33 x1 x5 h = some hr → J Z G 7 h 33 [(0, .ref (Z.2.1 206)), (1, .int x1), (5, .int x5)] []) (x1 : Int32) (x5 : Int32) (h : Hp) (hF : bX10_foresee_33   r33 x1 x5 h = some hr) : J Z G 7 h 33 [(0, .ref (Z.2.1 206)), (1, .int x1), (5, .int x5)] [] := by
  unfold bX10_foresee_33 at hF
  refine j_iload (pc := 33) 2 X dX10_foresee_33 rfl ?_
  refine j_bipush (pc := 35) 60 X dX10_foresee_35 rfl ?_
  refine j_icmp_ge (pc := 37) 92 X dX10_foresee_37 rfl hF (fun hF => ?_) (fun hF => ?_)
  · refine j_aload_n (pc := 92) 0 X dX10_foresee_92 rfl ?_
    refine j_iconst (pc := 93) 1 X dX10_foresee_93 rfl ?_
    refine j_putz (pc := 94) X dX10_foresee_94 (hz _ sh_206) fp_X10_98 rfl hF (fun h1 hF => ?_)
    refine j_iconst (pc := 97) 0 X dX10_foresee_97 rfl ?_
    refine j_istore (pc := 98) (fun y => [(5, .int y), (0, .ref (Z.2.1 206)), (1, .int x1)]) X dX10_foresee_98 (by decide) (fun _ => rfl) hF (fun v2 hF => ?_)
    refine j_lv [(0, .ref (Z.2.1 206)), (5, .int v2)] [1, 0] rfl ?_
    exact LX10_foresee_100 X E hz FU v2 h1 hF
  · refine j_iconst (pc := 40) 1 X dX10_foresee_40 rfl ?_
    refine j_aload_n (pc := 41) 0 X dX10_foresee_41 rfl ?_
    refine j_getr (pc := 42) X dX10_foresee_42 (hz _ sh_206) fl_X10_19 rfl ?_
    refine j_geti (pc := 45) X dX10_foresee_45 (hz _ sh_108) fl_X10_37 rfl ?_
    refine j_ishl (pc := 48) X dX10_foresee_48 ?_
    refine j_iconst (pc := 49) 1 X dX10_foresee_49 rfl ?_
    refine j_isub (pc := 50) X dX10_foresee_50 ?_
    refine j_istore (pc := 51) (fun y => [(6, .int y), (0, .ref (Z.2.1 206)), (1, .int x1), (5, .int x5)]) X dX10_foresee_51 (by decide) (fun _ => rfl) hF (fun v3 hF => ?_)
    refine j_lv [(0, .ref (Z.2.1 206)), (1, .int x1), (5, .int x5), (6, .int v3)] [1, 2, 3, 0] rfl ?_
    exact LX10_foresee_53 X E hz r33 hr33 FU x1 x5 v3 h hF
theorem LX10_foresee_33 {Z : ZT} {G : GT} {hr : Hp} (X : CX Z G cX10_foresee RX10 7 6) (E : RX Z G none (none) hr) (hz : HZ Z)  : ∀ (n : Nat) (x1 : Int32) (x5 : Int32) (h : Hp), lX10_foresee_33   n x1 x5 h = some hr → J Z G 7 h 33 [(0, .ref (Z.2.1 206)), (1, .int x1), (5, .int x5)] [] := by
  intro n
  induction n with
  | zero => intro x1 x5 h hF; cases hF
  | succ n ih => intro x1 x5 h hF; exact BX10_foresee_33 X E hz  (lX10_foresee_33   n) ih x1 x5 h hF
def fX10_foresee (a1 : Int32) (a2 : Int32) (a3 : Int32) (a4 : Int32) (h : Hp) : Option (Hp) := bv (fJ7_fill_d0a16 208 32 0 h) (fun h1 => lt (wI h1 206 6 (-2)) (fun h2 => lt (wI h2 206 7 (-2)) (fun h3 => ck (inb a3 32) (lt (wL h3 208 (ix a3) (shlL 1 a4)) (fun h4 => lt a2 (fun v5 => lX10_foresee_33 FU a1 v5 h4))))))
set_option maxRecDepth 20000 in
theorem tX10_foresee (Z : ZT) (a1 : Int32) (a2 : Int32) (a3 : Int32) (a4 : Int32) (hz : HZ Z) (h : Hp) (hr : Hp) (hF : fX10_foresee a1 a2 a3 a4 h = some hr) : MC Z yX10_foresee cX10_foresee 7 none 6 [.ref (Z.2.1 206), .int a1, .int a2, .int a3, .int a4] h (none) hr := by
  unfold fX10_foresee at hF
  refine mc_start (by decide) (Nat.le_of_ble_eq_true rfl) (fun G X E => ?_)
  refine j_aload_n (pc := 0) 0 X dX10_foresee_0 rfl ?_
  refine j_getr (pc := 1) X dX10_foresee_1 (hz _ sh_206) fl_X10_15 rfl ?_
  refine j_lconst (pc := 4) 0 X dX10_foresee_4 rfl ?_
  refine j_cSv (pc := 5) (As := [.ref (Z.2.1 208), .long 0]) (rest := []) X dX10_foresee_5 ml_X10_78 ck_J7_fill_d0a16 sk_J7_fill_d0a16 (Nat.le_of_ble_eq_true rfl) rfl (Nat.le_of_ble_eq_true rfl) rfl hF (tJ7_fill_d0a16 Z 208 32 (hz _ sh_208) 0 trivial h) (fun h1 hF => ?_)
  refine j_aload_n (pc := 8) 0 X dX10_foresee_8 rfl ?_
  refine j_bipush (pc := 9) (-2) X dX10_foresee_9 rfl ?_
  refine j_puti (pc := 11) X dX10_foresee_11 (hz _ sh_206) fp_X10_84 rfl hF (fun h2 hF => ?_)
  refine j_aload_n (pc := 14) 0 X dX10_foresee_14 rfl ?_
  refine j_bipush (pc := 15) (-2) X dX10_foresee_15 rfl ?_
  refine j_puti (pc := 17) X dX10_foresee_17 (hz _ sh_206) fp_X10_87 rfl hF (fun h3 hF => ?_)
  refine j_aload_n (pc := 20) 0 X dX10_foresee_20 rfl ?_
  refine j_getr (pc := 21) X dX10_foresee_21 (hz _ sh_206) fl_X10_15 rfl ?_
  refine j_iload_n (pc := 24) 3 X dX10_foresee_24 rfl ?_
  refine j_lconst (pc := 25) 1 X dX10_foresee_25 rfl ?_
  refine j_iload (pc := 26) 4 X dX10_foresee_26 rfl ?_
  refine j_lshl (pc := 28) X dX10_foresee_28 ?_
  refine j_last (pc := 29) X dX10_foresee_29 (hz _ sh_208) hF (fun h4 hF => ?_)
  refine j_iload_n (pc := 30) 2 X dX10_foresee_30 rfl ?_
  refine j_istore (pc := 31) (fun y => [(5, .int y), (0, .ref (Z.2.1 206)), (1, .int a1), (2, .int a2), (3, .int a3), (4, .int a4)]) X dX10_foresee_31 (by decide) (fun _ => rfl) hF (fun v5 hF => ?_)
  refine j_lv [(0, .ref (Z.2.1 206)), (1, .int a1), (5, .int v5)] [1, 2, 0] rfl ?_
  exact LX10_foresee_33 X E hz FU a1 v5 h4 hF
theorem dX10_livesThrough_0 : decode cX10_livesThrough 0 = .ok (.lconst 1, 1) := by decide +kernel
theorem dX10_livesThrough_1 : decode cX10_livesThrough 1 = .ok (.lstore 4, 2) := by decide +kernel
theorem dX10_livesThrough_3 : decode cX10_livesThrough 3 = .ok (.iload_n 2, 1) := by decide +kernel
theorem dX10_livesThrough_4 : decode cX10_livesThrough 4 = .ok (.istore 6, 2) := by decide +kernel
theorem dX10_livesThrough_6 : decode cX10_livesThrough 6 = .ok (.iload 6, 2) := by decide +kernel
theorem dX10_livesThrough_8 : decode cX10_livesThrough 8 = .ok (.iload_n 2, 1) := by decide +kernel
theorem dX10_livesThrough_9 : decode cX10_livesThrough 9 = .ok (.iload_n 3, 1) := by decide +kernel
theorem dX10_livesThrough_10 : decode cX10_livesThrough 10 = .ok (.iadd, 1) := by decide +kernel
theorem dX10_livesThrough_11 : decode cX10_livesThrough 11 = .ok (.if_icmp .ge 35, 3) := by decide +kernel
theorem dX10_livesThrough_14 : decode cX10_livesThrough 14 = .ok (.iload 6, 2) := by decide +kernel
theorem dX10_livesThrough_16 : decode cX10_livesThrough 16 = .ok (.bipush 60, 2) := by decide +kernel
theorem dX10_livesThrough_18 : decode cX10_livesThrough 18 = .ok (.if_icmp .ge 28, 3) := by decide +kernel
theorem dX10_livesThrough_21 : decode cX10_livesThrough 21 = .ok (.lload 4, 2) := by decide +kernel
theorem dX10_livesThrough_23 : decode cX10_livesThrough 23 = .ok (.bipush 100, 2) := by decide +kernel
theorem dX10_livesThrough_25 : decode cX10_livesThrough 25 = .ok (.aload_n 0, 1) := by decide +kernel
theorem dX10_livesThrough_26 : decode cX10_livesThrough 26 = .ok (.getfield 23, 3) := by decide +kernel
theorem dX10_livesThrough_29 : decode cX10_livesThrough 29 = .ok (.iload_n 1, 1) := by decide +kernel
theorem dX10_livesThrough_30 : decode cX10_livesThrough 30 = .ok (.iload 6, 2) := by decide +kernel
theorem dX10_livesThrough_32 : decode cX10_livesThrough 32 = .ok (.invokevirtual 111, 3) := by decide +kernel
theorem dX10_livesThrough_35 : decode cX10_livesThrough 35 = .ok (.isub, 1) := by decide +kernel
theorem dX10_livesThrough_36 : decode cX10_livesThrough 36 = .ok (.i2l, 1) := by decide +kernel
theorem dX10_livesThrough_37 : decode cX10_livesThrough 37 = .ok (.lmul, 1) := by decide +kernel
theorem dX10_livesThrough_38 : decode cX10_livesThrough 38 = .ok (.lstore 4, 2) := by decide +kernel
theorem dX10_livesThrough_40 : decode cX10_livesThrough 40 = .ok (.iinc 6 1, 3) := by decide +kernel
theorem dX10_livesThrough_43 : decode cX10_livesThrough 43 = .ok (.goto (-37), 3) := by decide +kernel
theorem dX10_livesThrough_46 : decode cX10_livesThrough 46 = .ok (.lload 4, 2) := by decide +kernel
theorem dX10_livesThrough_48 : decode cX10_livesThrough 48 = .ok (.lreturn, 1) := by decide +kernel
def bX10_livesThrough_6   (r6 : Int32 → Int32 → Int32 → Int64 → Int32 → Hp → Option (Int64 × Hp)) (x1 : Int32) (x2 : Int32) (x3 : Int32) (x4 : Int64) (x6 : Int32) (h : Hp) : Option (Int64 × Hp) := (if (x2 + x3) ≤ x6 then some (x4, h) else (if 60 ≤ x6 then some (x4, h) else bi (fX6_diesOf x1 x6 h) (fun w2 h1 => lt (x4 * (((100 : Int32) - w2).toInt64)) (fun v3 => lt (x6 + 1) (fun v4 => r6 x1 x2 x3 v3 v4 h1)))))
def lX10_livesThrough_6   : Nat → Int32 → Int32 → Int32 → Int64 → Int32 → Hp → Option (Int64 × Hp)
  | 0 => fun _ _ _ _ _ _ => none
  | n + 1 => bX10_livesThrough_6   (lX10_livesThrough_6   n)
set_option maxRecDepth 20000 in
theorem BX10_livesThrough_6 {Z : ZT} {G : GT} {r : Int64} {hr : Hp} (X : CX Z G cX10_livesThrough RX10 7 1) (E : RX Z G (some .long) (some (.long r)) hr) (hz : HZ Z)  (r6 : Int32 → Int32 → Int32 → Int64 → Int32 → Hp → Option (Int64 × Hp)) (hr6 : ∀ (x1 : Int32) (x2 : Int32) (x3 : Int32) (x4 : Int64) (x6 : Int32) (h : Hp), r6 x1 x2 x3 x4 x6 h = some (r, hr) → J Z G 7 h 6 [(0, .ref (Z.2.1 206)), (1, .int x1), (2, .int x2), (3, .int x3), (4, .long x4), (6, .int x6)] []) (x1 : Int32) (x2 : Int32) (x3 : Int32) (x4 : Int64) (x6 : Int32) (h : Hp) (hF : bX10_livesThrough_6   r6 x1 x2 x3 x4 x6 h = some (r, hr)) : J Z G 7 h 6 [(0, .ref (Z.2.1 206)), (1, .int x1), (2, .int x2), (3, .int x3), (4, .long x4), (6, .int x6)] [] := by
  unfold bX10_livesThrough_6 at hF
  refine j_iload (pc := 6) 5 X dX10_livesThrough_6 rfl ?_
  refine j_iload_n (pc := 8) 2 X dX10_livesThrough_8 rfl ?_
  refine j_iload_n (pc := 9) 3 X dX10_livesThrough_9 rfl ?_
  refine j_iadd (pc := 10) X dX10_livesThrough_10 ?_
  refine j_icmp_ge (pc := 11) 46 X dX10_livesThrough_11 rfl hF (fun hF => ?_) (fun hF => ?_)
  · refine j_lload (pc := 46) 4 X dX10_livesThrough_46 rfl ?_
    exact j_lret (pc := 48) X E dX10_livesThrough_48 hF
  · refine j_iload (pc := 14) 5 X dX10_livesThrough_14 rfl ?_
    refine j_bipush (pc := 16) 60 X dX10_livesThrough_16 rfl ?_
    refine j_icmp_ge (pc := 18) 46 X dX10_livesThrough_18 rfl hF (fun hF => ?_) (fun hF => ?_)
    · refine j_lload (pc := 46) 4 X dX10_livesThrough_46 rfl ?_
      exact j_lret (pc := 48) X E dX10_livesThrough_48 hF
    · refine j_lload (pc := 21) 4 X dX10_livesThrough_21 rfl ?_
      refine j_bipush (pc := 23) 100 X dX10_livesThrough_23 rfl ?_
      refine j_aload_n (pc := 25) 0 X dX10_livesThrough_25 rfl ?_
      refine j_getr (pc := 26) X dX10_livesThrough_26 (hz _ sh_206) fl_X10_23 rfl ?_
      refine j_iload_n (pc := 29) 1 X dX10_livesThrough_29 rfl ?_
      refine j_iload (pc := 30) 5 X dX10_livesThrough_30 rfl ?_
      refine j_cVi (pc := 32) (As := [.int x1, .int x6]) (rest := [.int 100, .long x4]) X dX10_livesThrough_32 ml_X10_111 ck_X6_diesOf cv_X6_diesOf (hz _ sh_147) rfl (Nat.le_of_ble_eq_true rfl) rfl (Nat.le_of_ble_eq_true rfl) rfl hF (tX6_diesOf Z x1 x6 hz h) (fun w2 h1 hF => ?_)
      refine j_isub (pc := 35) X dX10_livesThrough_35 ?_
      refine j_i2l (pc := 36) X dX10_livesThrough_36 ?_
      refine j_lmul (pc := 37) X dX10_livesThrough_37 ?_
      refine j_lstore (pc := 38) (fun y => [(4, .long y), (0, .ref (Z.2.1 206)), (1, .int x1), (2, .int x2), (3, .int x3), (6, .int x6)]) X dX10_livesThrough_38 (by decide) (fun _ => rfl) hF (fun v3 hF => ?_)
      refine j_iinc (pc := 40) 5 (x6 + 1) (fun y => [(6, .int y), (4, .long v3), (0, .ref (Z.2.1 206)), (1, .int x1), (2, .int x2), (3, .int x3)]) X dX10_livesThrough_40 rfl rfl (by decide) (fun _ => rfl) hF (fun v4 hF => ?_)
      refine j_goto (pc := 43) 6 X dX10_livesThrough_43 rfl ?_
      refine j_lv [(0, .ref (Z.2.1 206)), (1, .int x1), (2, .int x2), (3, .int x3), (4, .long v3), (6, .int v4)] [2, 3, 4, 5, 1, 0] rfl ?_
      exact hr6 x1 x2 x3 v3 v4 h1 hF
theorem LX10_livesThrough_6 {Z : ZT} {G : GT} {r : Int64} {hr : Hp} (X : CX Z G cX10_livesThrough RX10 7 1) (E : RX Z G (some .long) (some (.long r)) hr) (hz : HZ Z)  : ∀ (n : Nat) (x1 : Int32) (x2 : Int32) (x3 : Int32) (x4 : Int64) (x6 : Int32) (h : Hp), lX10_livesThrough_6   n x1 x2 x3 x4 x6 h = some (r, hr) → J Z G 7 h 6 [(0, .ref (Z.2.1 206)), (1, .int x1), (2, .int x2), (3, .int x3), (4, .long x4), (6, .int x6)] [] := by
  intro n
  induction n with
  | zero => intro x1 x2 x3 x4 x6 h hF; cases hF
  | succ n ih => intro x1 x2 x3 x4 x6 h hF; exact BX10_livesThrough_6 X E hz  (lX10_livesThrough_6   n) ih x1 x2 x3 x4 x6 h hF
def fX10_livesThrough (a1 : Int32) (a2 : Int32) (a3 : Int32) (h : Hp) : Option (Int64 × Hp) := lt 1 (fun v1 => lt a2 (fun v2 => lX10_livesThrough_6 FU a1 a2 a3 v1 v2 h))
set_option maxRecDepth 20000 in
theorem tX10_livesThrough (Z : ZT) (a1 : Int32) (a2 : Int32) (a3 : Int32) (hz : HZ Z) (h : Hp) (r : Int64) (hr : Hp) (hF : fX10_livesThrough a1 a2 a3 h = some (r, hr)) : MC Z yX10_livesThrough cX10_livesThrough 7 (some .long) 1 [.ref (Z.2.1 206), .int a1, .int a2, .int a3] h (some (.long r)) hr := by
  unfold fX10_livesThrough at hF
  refine mc_start (by decide) (Nat.le_of_ble_eq_true rfl) (fun G X E => ?_)
  refine j_lconst (pc := 0) 1 X dX10_livesThrough_0 rfl ?_
  refine j_lstore (pc := 1) (fun y => [(4, .long y), (0, .ref (Z.2.1 206)), (1, .int a1), (2, .int a2), (3, .int a3)]) X dX10_livesThrough_1 (by decide) (fun _ => rfl) hF (fun v1 hF => ?_)
  refine j_iload_n (pc := 3) 3 X dX10_livesThrough_3 rfl ?_
  refine j_istore (pc := 4) (fun y => [(6, .int y), (4, .long v1), (0, .ref (Z.2.1 206)), (1, .int a1), (2, .int a2), (3, .int a3)]) X dX10_livesThrough_4 (by decide) (fun _ => rfl) hF (fun v2 hF => ?_)
  refine j_lv [(0, .ref (Z.2.1 206)), (1, .int a1), (2, .int a2), (3, .int a3), (4, .long v1), (6, .int v2)] [2, 3, 4, 5, 1, 0] rfl ?_
  exact LX10_livesThrough_6 X E hz FU a1 a2 a3 v1 v2 h hF
theorem dX10_waysTo_0 : decode cX10_waysTo 0 = .ok (.lconst 1, 1) := by decide +kernel
theorem dX10_waysTo_1 : decode cX10_waysTo 1 = .ok (.lstore 4, 2) := by decide +kernel
theorem dX10_waysTo_3 : decode cX10_waysTo 3 = .ok (.iconst 0, 1) := by decide +kernel
theorem dX10_waysTo_4 : decode cX10_waysTo 4 = .ok (.istore 6, 2) := by decide +kernel
theorem dX10_waysTo_6 : decode cX10_waysTo 6 = .ok (.iload 6, 2) := by decide +kernel
theorem dX10_waysTo_8 : decode cX10_waysTo 8 = .ok (.aload_n 0, 1) := by decide +kernel
theorem dX10_waysTo_9 : decode cX10_waysTo 9 = .ok (.getfield 19, 3) := by decide +kernel
theorem dX10_waysTo_12 : decode cX10_waysTo 12 = .ok (.getfield 37, 3) := by decide +kernel
theorem dX10_waysTo_15 : decode cX10_waysTo 15 = .ok (.if_icmp .ge 67, 3) := by decide +kernel
theorem dX10_waysTo_18 : decode cX10_waysTo 18 = .ok (.aload_n 0, 1) := by decide +kernel
theorem dX10_waysTo_19 : decode cX10_waysTo 19 = .ok (.getfield 23, 3) := by decide +kernel
theorem dX10_waysTo_22 : decode cX10_waysTo 22 = .ok (.iload 6, 2) := by decide +kernel
theorem dX10_waysTo_24 : decode cX10_waysTo 24 = .ok (.iload_n 3, 1) := by decide +kernel
theorem dX10_waysTo_25 : decode cX10_waysTo 25 = .ok (.invokevirtual 111, 3) := by decide +kernel
theorem dX10_waysTo_28 : decode cX10_waysTo 28 = .ok (.istore 7, 2) := by decide +kernel
theorem dX10_waysTo_30 : decode cX10_waysTo 30 = .ok (.iload_n 2, 1) := by decide +kernel
theorem dX10_waysTo_31 : decode cX10_waysTo 31 = .ok (.iload 6, 2) := by decide +kernel
theorem dX10_waysTo_33 : decode cX10_waysTo 33 = .ok (.invokestatic 66, 3) := by decide +kernel
theorem dX10_waysTo_36 : decode cX10_waysTo 36 = .ok (.ifCond .eq 14, 3) := by decide +kernel
theorem dX10_waysTo_39 : decode cX10_waysTo 39 = .ok (.lload 4, 2) := by decide +kernel
theorem dX10_waysTo_41 : decode cX10_waysTo 41 = .ok (.ldc2_w 115, 3) := by decide +kernel
theorem dX10_waysTo_44 : decode cX10_waysTo 44 = .ok (.lmul, 1) := by decide +kernel
theorem dX10_waysTo_45 : decode cX10_waysTo 45 = .ok (.lstore 4, 2) := by decide +kernel
theorem dX10_waysTo_47 : decode cX10_waysTo 47 = .ok (.goto 29, 3) := by decide +kernel
theorem dX10_waysTo_50 : decode cX10_waysTo 50 = .ok (.lload 4, 2) := by decide +kernel
theorem dX10_waysTo_52 : decode cX10_waysTo 52 = .ok (.iload_n 1, 1) := by decide +kernel
theorem dX10_waysTo_53 : decode cX10_waysTo 53 = .ok (.iload 6, 2) := by decide +kernel
theorem dX10_waysTo_55 : decode cX10_waysTo 55 = .ok (.invokestatic 66, 3) := by decide +kernel
theorem dX10_waysTo_58 : decode cX10_waysTo 58 = .ok (.ifCond .eq 9, 3) := by decide +kernel
theorem dX10_waysTo_61 : decode cX10_waysTo 61 = .ok (.iload 7, 2) := by decide +kernel
theorem dX10_waysTo_63 : decode cX10_waysTo 63 = .ok (.i2l, 1) := by decide +kernel
theorem dX10_waysTo_64 : decode cX10_waysTo 64 = .ok (.goto 9, 3) := by decide +kernel
theorem dX10_waysTo_67 : decode cX10_waysTo 67 = .ok (.bipush 100, 2) := by decide +kernel
theorem dX10_waysTo_69 : decode cX10_waysTo 69 = .ok (.iload 7, 2) := by decide +kernel
theorem dX10_waysTo_71 : decode cX10_waysTo 71 = .ok (.isub, 1) := by decide +kernel
theorem dX10_waysTo_72 : decode cX10_waysTo 72 = .ok (.i2l, 1) := by decide +kernel
theorem dX10_waysTo_73 : decode cX10_waysTo 73 = .ok (.lmul, 1) := by decide +kernel
theorem dX10_waysTo_74 : decode cX10_waysTo 74 = .ok (.lstore 4, 2) := by decide +kernel
theorem dX10_waysTo_76 : decode cX10_waysTo 76 = .ok (.iinc 6 1, 3) := by decide +kernel
theorem dX10_waysTo_79 : decode cX10_waysTo 79 = .ok (.goto (-73), 3) := by decide +kernel
theorem dX10_waysTo_82 : decode cX10_waysTo 82 = .ok (.lload 4, 2) := by decide +kernel
theorem dX10_waysTo_84 : decode cX10_waysTo 84 = .ok (.lreturn, 1) := by decide +kernel
def bX10_waysTo_76  (r6 : Int32 → Int32 → Int32 → Int64 → Int32 → Hp → Option (Int64 × Hp)) (x1 : Int32) (x2 : Int32) (x3 : Int32) (x4 : Int64) (x6 : Int32) (h : Hp) : Option (Int64 × Hp) := lt (x6 + 1) (fun v1 => r6 x1 x2 x3 x4 v1 h)
set_option maxRecDepth 20000 in
theorem BX10_waysTo_76 {Z : ZT} {G : GT} {r : Int64} {hr : Hp} (X : CX Z G cX10_waysTo RX10 8 1) (E : RX Z G (some .long) (some (.long r)) hr) (hz : HZ Z) (r6 : Int32 → Int32 → Int32 → Int64 → Int32 → Hp → Option (Int64 × Hp)) (hr6 : ∀ (x1 : Int32) (x2 : Int32) (x3 : Int32) (x4 : Int64) (x6 : Int32) (h : Hp), r6 x1 x2 x3 x4 x6 h = some (r, hr) → J Z G 8 h 6 [(0, .ref (Z.2.1 206)), (1, .int x1), (2, .int x2), (3, .int x3), (4, .long x4), (6, .int x6)] []) (x1 : Int32) (x2 : Int32) (x3 : Int32) (x4 : Int64) (x6 : Int32) (h : Hp) (hF : bX10_waysTo_76  r6 x1 x2 x3 x4 x6 h = some (r, hr)) : J Z G 8 h 76 [(0, .ref (Z.2.1 206)), (1, .int x1), (2, .int x2), (3, .int x3), (4, .long x4), (6, .int x6)] [] := by
  unfold bX10_waysTo_76 at hF
  refine j_iinc (pc := 76) 5 (x6 + 1) (fun y => [(6, .int y), (0, .ref (Z.2.1 206)), (1, .int x1), (2, .int x2), (3, .int x3), (4, .long x4)]) X dX10_waysTo_76 rfl rfl (by decide) (fun _ => rfl) hF (fun v1 hF => ?_)
  refine j_goto (pc := 79) 6 X dX10_waysTo_79 rfl ?_
  refine j_lv [(0, .ref (Z.2.1 206)), (1, .int x1), (2, .int x2), (3, .int x3), (4, .long x4), (6, .int v1)] [1, 2, 3, 4, 5, 0] rfl ?_
  exact hr6 x1 x2 x3 x4 v1 h hF
def bX10_waysTo_73  (r6 : Int32 → Int32 → Int32 → Int64 → Int32 → Hp → Option (Int64 × Hp)) (x1 : Int32) (x2 : Int32) (x3 : Int32) (x6 : Int32) (s0 : Int64) (s1 : Int64) (h : Hp) : Option (Int64 × Hp) := lt (s1 * s0) (fun v1 => bX10_waysTo_76 r6 x1 x2 x3 v1 x6 h)
set_option maxRecDepth 20000 in
theorem BX10_waysTo_73 {Z : ZT} {G : GT} {r : Int64} {hr : Hp} (X : CX Z G cX10_waysTo RX10 8 1) (E : RX Z G (some .long) (some (.long r)) hr) (hz : HZ Z) (r6 : Int32 → Int32 → Int32 → Int64 → Int32 → Hp → Option (Int64 × Hp)) (hr6 : ∀ (x1 : Int32) (x2 : Int32) (x3 : Int32) (x4 : Int64) (x6 : Int32) (h : Hp), r6 x1 x2 x3 x4 x6 h = some (r, hr) → J Z G 8 h 6 [(0, .ref (Z.2.1 206)), (1, .int x1), (2, .int x2), (3, .int x3), (4, .long x4), (6, .int x6)] []) (x1 : Int32) (x2 : Int32) (x3 : Int32) (x6 : Int32) (s0 : Int64) (s1 : Int64) (h : Hp) (hF : bX10_waysTo_73  r6 x1 x2 x3 x6 s0 s1 h = some (r, hr)) : J Z G 8 h 73 [(0, .ref (Z.2.1 206)), (1, .int x1), (2, .int x2), (3, .int x3), (6, .int x6)] [.long s0, .long s1] := by
  unfold bX10_waysTo_73 at hF
  refine j_lmul (pc := 73) X dX10_waysTo_73 ?_
  refine j_lstore (pc := 74) (fun y => [(4, .long y), (0, .ref (Z.2.1 206)), (1, .int x1), (2, .int x2), (3, .int x3), (6, .int x6)]) X dX10_waysTo_74 (by decide) (fun _ => rfl) hF (fun v1 hF => ?_)
  refine j_lv [(0, .ref (Z.2.1 206)), (1, .int x1), (2, .int x2), (3, .int x3), (4, .long v1), (6, .int x6)] [1, 2, 3, 4, 0, 5] rfl ?_
  exact BX10_waysTo_76 X E hz r6 hr6 x1 x2 x3 v1 x6 h hF
def bX10_waysTo_6   (r6 : Int32 → Int32 → Int32 → Int64 → Int32 → Hp → Option (Int64 × Hp)) (x1 : Int32) (x2 : Int32) (x3 : Int32) (x4 : Int64) (x6 : Int32) (h : Hp) : Option (Int64 × Hp) := (if (h.1 108 6) ≤ x6 then some (x4, h) else bi (fX6_diesOf x6 x3 h) (fun w2 h1 => lt w2 (fun v3 => bi (fX11_has x2 x6 h1) (fun w5 h4 => (if w5 = 0 then bi (fX11_has x1 x6 h4) (fun w7 h6 => (if w7 = 0 then bX10_waysTo_73 r6 x1 x2 x3 x6 (((100 : Int32) - v3).toInt64) x4 h6 else bX10_waysTo_73 r6 x1 x2 x3 x6 v3.toInt64 x4 h6)) else lt (x4 * 100) (fun v8 => bX10_waysTo_76 r6 x1 x2 x3 v8 x6 h4))))))
def lX10_waysTo_6   : Nat → Int32 → Int32 → Int32 → Int64 → Int32 → Hp → Option (Int64 × Hp)
  | 0 => fun _ _ _ _ _ _ => none
  | n + 1 => bX10_waysTo_6   (lX10_waysTo_6   n)
set_option maxRecDepth 20000 in
theorem BX10_waysTo_6 {Z : ZT} {G : GT} {r : Int64} {hr : Hp} (X : CX Z G cX10_waysTo RX10 8 1) (E : RX Z G (some .long) (some (.long r)) hr) (hz : HZ Z)  (r6 : Int32 → Int32 → Int32 → Int64 → Int32 → Hp → Option (Int64 × Hp)) (hr6 : ∀ (x1 : Int32) (x2 : Int32) (x3 : Int32) (x4 : Int64) (x6 : Int32) (h : Hp), r6 x1 x2 x3 x4 x6 h = some (r, hr) → J Z G 8 h 6 [(0, .ref (Z.2.1 206)), (1, .int x1), (2, .int x2), (3, .int x3), (4, .long x4), (6, .int x6)] []) (x1 : Int32) (x2 : Int32) (x3 : Int32) (x4 : Int64) (x6 : Int32) (h : Hp) (hF : bX10_waysTo_6   r6 x1 x2 x3 x4 x6 h = some (r, hr)) : J Z G 8 h 6 [(0, .ref (Z.2.1 206)), (1, .int x1), (2, .int x2), (3, .int x3), (4, .long x4), (6, .int x6)] [] := by
  unfold bX10_waysTo_6 at hF
  refine j_iload (pc := 6) 5 X dX10_waysTo_6 rfl ?_
  refine j_aload_n (pc := 8) 0 X dX10_waysTo_8 rfl ?_
  refine j_getr (pc := 9) X dX10_waysTo_9 (hz _ sh_206) fl_X10_19 rfl ?_
  refine j_geti (pc := 12) X dX10_waysTo_12 (hz _ sh_108) fl_X10_37 rfl ?_
  refine j_icmp_ge (pc := 15) 82 X dX10_waysTo_15 rfl hF (fun hF => ?_) (fun hF => ?_)
  · refine j_lload (pc := 82) 4 X dX10_waysTo_82 rfl ?_
    exact j_lret (pc := 84) X E dX10_waysTo_84 hF
  · refine j_aload_n (pc := 18) 0 X dX10_waysTo_18 rfl ?_
    refine j_getr (pc := 19) X dX10_waysTo_19 (hz _ sh_206) fl_X10_23 rfl ?_
    refine j_iload (pc := 22) 5 X dX10_waysTo_22 rfl ?_
    refine j_iload_n (pc := 24) 3 X dX10_waysTo_24 rfl ?_
    refine j_cVi (pc := 25) (As := [.int x6, .int x3]) (rest := []) X dX10_waysTo_25 ml_X10_111 ck_X6_diesOf cv_X6_diesOf (hz _ sh_147) rfl (Nat.le_of_ble_eq_true rfl) rfl (Nat.le_of_ble_eq_true rfl) rfl hF (tX6_diesOf Z x6 x3 hz h) (fun w2 h1 hF => ?_)
    refine j_istore (pc := 28) (fun y => [(7, .int y), (0, .ref (Z.2.1 206)), (1, .int x1), (2, .int x2), (3, .int x3), (4, .long x4), (6, .int x6)]) X dX10_waysTo_28 (by decide) (fun _ => rfl) hF (fun v3 hF => ?_)
    refine j_iload_n (pc := 30) 3 X dX10_waysTo_30 rfl ?_
    refine j_iload (pc := 31) 6 X dX10_waysTo_31 rfl ?_
    refine j_cSNi (pc := 33) (As := [.int x2, .int x6]) (rest := []) X dX10_waysTo_33 ml_X10_66 ck_X11_has sk_X11_has (Nat.le_of_ble_eq_true rfl) rfl (Nat.le_of_ble_eq_true rfl) rfl hF (tX11_has Z x2 x6 trivial h1) (fun w5 h4 hF => ?_)
    refine j_if_eq (pc := 36) 50 X dX10_waysTo_36 rfl hF (fun hF => ?_) (fun hF => ?_)
    · refine j_lload (pc := 50) 5 X dX10_waysTo_50 rfl ?_
      refine j_iload_n (pc := 52) 2 X dX10_waysTo_52 rfl ?_
      refine j_iload (pc := 53) 6 X dX10_waysTo_53 rfl ?_
      refine j_cSNi (pc := 55) (As := [.int x1, .int x6]) (rest := [.long x4]) X dX10_waysTo_55 ml_X10_66 ck_X11_has sk_X11_has (Nat.le_of_ble_eq_true rfl) rfl (Nat.le_of_ble_eq_true rfl) rfl hF (tX11_has Z x1 x6 trivial h4) (fun w7 h6 hF => ?_)
      refine j_if_eq (pc := 58) 67 X dX10_waysTo_58 rfl hF (fun hF => ?_) (fun hF => ?_)
      · refine j_bipush (pc := 67) 100 X dX10_waysTo_67 rfl ?_
        refine j_iload (pc := 69) 0 X dX10_waysTo_69 rfl ?_
        refine j_isub (pc := 71) X dX10_waysTo_71 ?_
        refine j_i2l (pc := 72) X dX10_waysTo_72 ?_
        refine j_lv [(0, .ref (Z.2.1 206)), (1, .int x1), (2, .int x2), (3, .int x3), (6, .int x6)] [1, 2, 3, 4, 6] rfl ?_
        exact BX10_waysTo_73 X E hz r6 hr6 x1 x2 x3 x6 (((100 : Int32) - v3).toInt64) x4 h6 hF
      · refine j_iload (pc := 61) 0 X dX10_waysTo_61 rfl ?_
        refine j_i2l (pc := 63) X dX10_waysTo_63 ?_
        refine j_goto (pc := 64) 73 X dX10_waysTo_64 rfl ?_
        refine j_lv [(0, .ref (Z.2.1 206)), (1, .int x1), (2, .int x2), (3, .int x3), (6, .int x6)] [1, 2, 3, 4, 6] rfl ?_
        exact BX10_waysTo_73 X E hz r6 hr6 x1 x2 x3 x6 v3.toInt64 x4 h6 hF
    · refine j_lload (pc := 39) 5 X dX10_waysTo_39 rfl ?_
      refine j_ldc2_w (pc := 41) X dX10_waysTo_41 k_X10_115 ?_
      refine j_lmul (pc := 44) X dX10_waysTo_44 ?_
      refine j_lstore (pc := 45) (fun y => [(4, .long y), (7, .int v3), (0, .ref (Z.2.1 206)), (1, .int x1), (2, .int x2), (3, .int x3), (6, .int x6)]) X dX10_waysTo_45 (by decide) (fun _ => rfl) hF (fun v8 hF => ?_)
      refine j_goto (pc := 47) 76 X dX10_waysTo_47 rfl ?_
      refine j_lv [(0, .ref (Z.2.1 206)), (1, .int x1), (2, .int x2), (3, .int x3), (4, .long v8), (6, .int x6)] [2, 3, 4, 5, 0, 6] rfl ?_
      exact BX10_waysTo_76 X E hz r6 hr6 x1 x2 x3 v8 x6 h4 hF
theorem LX10_waysTo_6 {Z : ZT} {G : GT} {r : Int64} {hr : Hp} (X : CX Z G cX10_waysTo RX10 8 1) (E : RX Z G (some .long) (some (.long r)) hr) (hz : HZ Z)  : ∀ (n : Nat) (x1 : Int32) (x2 : Int32) (x3 : Int32) (x4 : Int64) (x6 : Int32) (h : Hp), lX10_waysTo_6   n x1 x2 x3 x4 x6 h = some (r, hr) → J Z G 8 h 6 [(0, .ref (Z.2.1 206)), (1, .int x1), (2, .int x2), (3, .int x3), (4, .long x4), (6, .int x6)] [] := by
  intro n
  induction n with
  | zero => intro x1 x2 x3 x4 x6 h hF; cases hF
  | succ n ih => intro x1 x2 x3 x4 x6 h hF; exact BX10_waysTo_6 X E hz  (lX10_waysTo_6   n) ih x1 x2 x3 x4 x6 h hF
def fX10_waysTo (a1 : Int32) (a2 : Int32) (a3 : Int32) (h : Hp) : Option (Int64 × Hp) := lt 1 (fun v1 => lt 0 (fun v2 => lX10_waysTo_6 FU a1 a2 a3 v1 v2 h))
set_option maxRecDepth 20000 in
theorem tX10_waysTo (Z : ZT) (a1 : Int32) (a2 : Int32) (a3 : Int32) (hz : HZ Z) (h : Hp) (r : Int64) (hr : Hp) (hF : fX10_waysTo a1 a2 a3 h = some (r, hr)) : MC Z yX10_waysTo cX10_waysTo 8 (some .long) 1 [.ref (Z.2.1 206), .int a1, .int a2, .int a3] h (some (.long r)) hr := by
  unfold fX10_waysTo at hF
  refine mc_start (by decide) (Nat.le_of_ble_eq_true rfl) (fun G X E => ?_)
  refine j_lconst (pc := 0) 1 X dX10_waysTo_0 rfl ?_
  refine j_lstore (pc := 1) (fun y => [(4, .long y), (0, .ref (Z.2.1 206)), (1, .int a1), (2, .int a2), (3, .int a3)]) X dX10_waysTo_1 (by decide) (fun _ => rfl) hF (fun v1 hF => ?_)
  refine j_iconst (pc := 3) 0 X dX10_waysTo_3 rfl ?_
  refine j_istore (pc := 4) (fun y => [(6, .int y), (4, .long v1), (0, .ref (Z.2.1 206)), (1, .int a1), (2, .int a2), (3, .int a3)]) X dX10_waysTo_4 (by decide) (fun _ => rfl) hF (fun v2 hF => ?_)
  refine j_lv [(0, .ref (Z.2.1 206)), (1, .int a1), (2, .int a2), (3, .int a3), (4, .long v1), (6, .int v2)] [2, 3, 4, 5, 1, 0] rfl ?_
  exact LX10_waysTo_6 X E hz FU a1 a2 a3 v1 v2 h hF
theorem dX10_oddsOfNext_0 : decode cX10_oddsOfNext 0 = .ok (.lconst 0, 1) := by decide +kernel
theorem dX10_oddsOfNext_1 : decode cX10_oddsOfNext 1 = .ok (.lstore 5, 2) := by decide +kernel
theorem dX10_oddsOfNext_3 : decode cX10_oddsOfNext 3 = .ok (.iload_n 3, 1) := by decide +kernel
theorem dX10_oddsOfNext_4 : decode cX10_oddsOfNext 4 = .ok (.istore 7, 2) := by decide +kernel
theorem dX10_oddsOfNext_6 : decode cX10_oddsOfNext 6 = .ok (.iload 7, 2) := by decide +kernel
theorem dX10_oddsOfNext_8 : decode cX10_oddsOfNext 8 = .ok (.iconst 1, 1) := by decide +kernel
theorem dX10_oddsOfNext_9 : decode cX10_oddsOfNext 9 = .ok (.aload_n 0, 1) := by decide +kernel
theorem dX10_oddsOfNext_10 : decode cX10_oddsOfNext 10 = .ok (.getfield 19, 3) := by decide +kernel
theorem dX10_oddsOfNext_13 : decode cX10_oddsOfNext 13 = .ok (.getfield 37, 3) := by decide +kernel
theorem dX10_oddsOfNext_16 : decode cX10_oddsOfNext 16 = .ok (.ishl, 1) := by decide +kernel
theorem dX10_oddsOfNext_17 : decode cX10_oddsOfNext 17 = .ok (.if_icmp .ge 60, 3) := by decide +kernel
theorem dX10_oddsOfNext_20 : decode cX10_oddsOfNext 20 = .ok (.iload 7, 2) := by decide +kernel
theorem dX10_oddsOfNext_22 : decode cX10_oddsOfNext 22 = .ok (.iload_n 3, 1) := by decide +kernel
theorem dX10_oddsOfNext_23 : decode cX10_oddsOfNext 23 = .ok (.iand, 1) := by decide +kernel
theorem dX10_oddsOfNext_24 : decode cX10_oddsOfNext 24 = .ok (.iload_n 3, 1) := by decide +kernel
theorem dX10_oddsOfNext_25 : decode cX10_oddsOfNext 25 = .ok (.if_icmp .eq 6, 3) := by decide +kernel
theorem dX10_oddsOfNext_28 : decode cX10_oddsOfNext 28 = .ok (.goto 43, 3) := by decide +kernel
theorem dX10_oddsOfNext_31 : decode cX10_oddsOfNext 31 = .ok (.aload_n 0, 1) := by decide +kernel
theorem dX10_oddsOfNext_32 : decode cX10_oddsOfNext 32 = .ok (.iload 7, 2) := by decide +kernel
theorem dX10_oddsOfNext_34 : decode cX10_oddsOfNext 34 = .ok (.iload_n 3, 1) := by decide +kernel
theorem dX10_oddsOfNext_35 : decode cX10_oddsOfNext 35 = .ok (.iload_n 2, 1) := by decide +kernel
theorem dX10_oddsOfNext_36 : decode cX10_oddsOfNext 36 = .ok (.invokevirtual 117, 3) := by decide +kernel
theorem dX10_oddsOfNext_39 : decode cX10_oddsOfNext 39 = .ok (.lstore 8, 2) := by decide +kernel
theorem dX10_oddsOfNext_41 : decode cX10_oddsOfNext 41 = .ok (.lload 8, 2) := by decide +kernel
theorem dX10_oddsOfNext_43 : decode cX10_oddsOfNext 43 = .ok (.lconst 0, 1) := by decide +kernel
theorem dX10_oddsOfNext_44 : decode cX10_oddsOfNext 44 = .ok (.lcmp, 1) := by decide +kernel
theorem dX10_oddsOfNext_45 : decode cX10_oddsOfNext 45 = .ok (.ifCond .eq 26, 3) := by decide +kernel
theorem dX10_oddsOfNext_48 : decode cX10_oddsOfNext 48 = .ok (.aload_n 0, 1) := by decide +kernel
theorem dX10_oddsOfNext_49 : decode cX10_oddsOfNext 49 = .ok (.iload_n 2, 1) := by decide +kernel
theorem dX10_oddsOfNext_50 : decode cX10_oddsOfNext 50 = .ok (.iload 7, 2) := by decide +kernel
theorem dX10_oddsOfNext_52 : decode cX10_oddsOfNext 52 = .ok (.iload 4, 2) := by decide +kernel
theorem dX10_oddsOfNext_54 : decode cX10_oddsOfNext 54 = .ok (.invokevirtual 108, 3) := by decide +kernel
theorem dX10_oddsOfNext_57 : decode cX10_oddsOfNext 57 = .ok (.iload_n 1, 1) := by decide +kernel
theorem dX10_oddsOfNext_58 : decode cX10_oddsOfNext 58 = .ok (.invokestatic 66, 3) := by decide +kernel
theorem dX10_oddsOfNext_61 : decode cX10_oddsOfNext 61 = .ok (.ifCond .eq 10, 3) := by decide +kernel
theorem dX10_oddsOfNext_64 : decode cX10_oddsOfNext 64 = .ok (.lload 5, 2) := by decide +kernel
theorem dX10_oddsOfNext_66 : decode cX10_oddsOfNext 66 = .ok (.lload 8, 2) := by decide +kernel
theorem dX10_oddsOfNext_68 : decode cX10_oddsOfNext 68 = .ok (.ladd, 1) := by decide +kernel
theorem dX10_oddsOfNext_69 : decode cX10_oddsOfNext 69 = .ok (.lstore 5, 2) := by decide +kernel
theorem dX10_oddsOfNext_71 : decode cX10_oddsOfNext 71 = .ok (.iinc 7 1, 3) := by decide +kernel
theorem dX10_oddsOfNext_74 : decode cX10_oddsOfNext 74 = .ok (.goto (-68), 3) := by decide +kernel
theorem dX10_oddsOfNext_77 : decode cX10_oddsOfNext 77 = .ok (.lload 5, 2) := by decide +kernel
theorem dX10_oddsOfNext_79 : decode cX10_oddsOfNext 79 = .ok (.lreturn, 1) := by decide +kernel
def bX10_oddsOfNext_71  (r6 : Int32 → Int32 → Int32 → Int32 → Int64 → Int32 → Hp → Option (Int64 × Hp)) (x1 : Int32) (x2 : Int32) (x3 : Int32) (x4 : Int32) (x5 : Int64) (x7 : Int32) (h : Hp) : Option (Int64 × Hp) := lt (x7 + 1) (fun v1 => r6 x1 x2 x3 x4 x5 v1 h)
set_option maxRecDepth 20000 in
theorem BX10_oddsOfNext_71 {Z : ZT} {G : GT} {r : Int64} {hr : Hp} (X : CX Z G cX10_oddsOfNext RX10 10 5) (E : RX Z G (some .long) (some (.long r)) hr) (hz : HZ Z) (r6 : Int32 → Int32 → Int32 → Int32 → Int64 → Int32 → Hp → Option (Int64 × Hp)) (hr6 : ∀ (x1 : Int32) (x2 : Int32) (x3 : Int32) (x4 : Int32) (x5 : Int64) (x7 : Int32) (h : Hp), r6 x1 x2 x3 x4 x5 x7 h = some (r, hr) → J Z G 10 h 6 [(0, .ref (Z.2.1 206)), (1, .int x1), (2, .int x2), (3, .int x3), (4, .int x4), (5, .long x5), (7, .int x7)] []) (x1 : Int32) (x2 : Int32) (x3 : Int32) (x4 : Int32) (x5 : Int64) (x7 : Int32) (h : Hp) (hF : bX10_oddsOfNext_71  r6 x1 x2 x3 x4 x5 x7 h = some (r, hr)) : J Z G 10 h 71 [(0, .ref (Z.2.1 206)), (1, .int x1), (2, .int x2), (3, .int x3), (4, .int x4), (5, .long x5), (7, .int x7)] [] := by
  unfold bX10_oddsOfNext_71 at hF
  refine j_iinc (pc := 71) 6 (x7 + 1) (fun y => [(7, .int y), (0, .ref (Z.2.1 206)), (1, .int x1), (2, .int x2), (3, .int x3), (4, .int x4), (5, .long x5)]) X dX10_oddsOfNext_71 rfl rfl (by decide) (fun _ => rfl) hF (fun v1 hF => ?_)
  refine j_goto (pc := 74) 6 X dX10_oddsOfNext_74 rfl ?_
  refine j_lv [(0, .ref (Z.2.1 206)), (1, .int x1), (2, .int x2), (3, .int x3), (4, .int x4), (5, .long x5), (7, .int v1)] [1, 2, 3, 4, 5, 6, 0] rfl ?_
  exact hr6 x1 x2 x3 x4 x5 v1 h hF
def bX10_oddsOfNext_6   (r6 : Int32 → Int32 → Int32 → Int32 → Int64 → Int32 → Hp → Option (Int64 × Hp)) (x1 : Int32) (x2 : Int32) (x3 : Int32) (x4 : Int32) (x5 : Int64) (x7 : Int32) (h : Hp) : Option (Int64 × Hp) := (if ((1 : Int32) <<< ((h.1 108 6) &&& 31)) ≤ x7 then some (x5, h) else (if (x7 &&& x3) = x3 then bi (fX10_waysTo x7 x3 x2 h) (fun w2 h1 => lt w2 (fun v3 => (if (lg_cmp v3 0) = 0 then bX10_oddsOfNext_71 r6 x1 x2 x3 x4 x5 x7 h1 else bi (fX10_lookUp x2 x7 x4 h1) (fun w5 h4 => bi (fX11_has w5 x1 h4) (fun w7 h6 => (if w7 = 0 then bX10_oddsOfNext_71 r6 x1 x2 x3 x4 x5 x7 h6 else lt (x5 + v3) (fun v8 => bX10_oddsOfNext_71 r6 x1 x2 x3 x4 v8 x7 h6))))))) else bX10_oddsOfNext_71 r6 x1 x2 x3 x4 x5 x7 h))
def lX10_oddsOfNext_6   : Nat → Int32 → Int32 → Int32 → Int32 → Int64 → Int32 → Hp → Option (Int64 × Hp)
  | 0 => fun _ _ _ _ _ _ _ => none
  | n + 1 => bX10_oddsOfNext_6   (lX10_oddsOfNext_6   n)
set_option maxRecDepth 20000 in
theorem BX10_oddsOfNext_6 {Z : ZT} {G : GT} {r : Int64} {hr : Hp} (X : CX Z G cX10_oddsOfNext RX10 10 5) (E : RX Z G (some .long) (some (.long r)) hr) (hz : HZ Z)  (r6 : Int32 → Int32 → Int32 → Int32 → Int64 → Int32 → Hp → Option (Int64 × Hp)) (hr6 : ∀ (x1 : Int32) (x2 : Int32) (x3 : Int32) (x4 : Int32) (x5 : Int64) (x7 : Int32) (h : Hp), r6 x1 x2 x3 x4 x5 x7 h = some (r, hr) → J Z G 10 h 6 [(0, .ref (Z.2.1 206)), (1, .int x1), (2, .int x2), (3, .int x3), (4, .int x4), (5, .long x5), (7, .int x7)] []) (x1 : Int32) (x2 : Int32) (x3 : Int32) (x4 : Int32) (x5 : Int64) (x7 : Int32) (h : Hp) (hF : bX10_oddsOfNext_6   r6 x1 x2 x3 x4 x5 x7 h = some (r, hr)) : J Z G 10 h 6 [(0, .ref (Z.2.1 206)), (1, .int x1), (2, .int x2), (3, .int x3), (4, .int x4), (5, .long x5), (7, .int x7)] [] := by
  unfold bX10_oddsOfNext_6 at hF
  refine j_iload (pc := 6) 6 X dX10_oddsOfNext_6 rfl ?_
  refine j_iconst (pc := 8) 1 X dX10_oddsOfNext_8 rfl ?_
  refine j_aload_n (pc := 9) 0 X dX10_oddsOfNext_9 rfl ?_
  refine j_getr (pc := 10) X dX10_oddsOfNext_10 (hz _ sh_206) fl_X10_19 rfl ?_
  refine j_geti (pc := 13) X dX10_oddsOfNext_13 (hz _ sh_108) fl_X10_37 rfl ?_
  refine j_ishl (pc := 16) X dX10_oddsOfNext_16 ?_
  refine j_icmp_ge (pc := 17) 77 X dX10_oddsOfNext_17 rfl hF (fun hF => ?_) (fun hF => ?_)
  · refine j_lload (pc := 77) 5 X dX10_oddsOfNext_77 rfl ?_
    exact j_lret (pc := 79) X E dX10_oddsOfNext_79 hF
  · refine j_iload (pc := 20) 6 X dX10_oddsOfNext_20 rfl ?_
    refine j_iload_n (pc := 22) 3 X dX10_oddsOfNext_22 rfl ?_
    refine j_iand (pc := 23) X dX10_oddsOfNext_23 ?_
    refine j_iload_n (pc := 24) 3 X dX10_oddsOfNext_24 rfl ?_
    refine j_icmp_eq (pc := 25) 31 X dX10_oddsOfNext_25 rfl hF (fun hF => ?_) (fun hF => ?_)
    · refine j_aload_n (pc := 31) 0 X dX10_oddsOfNext_31 rfl ?_
      refine j_iload (pc := 32) 6 X dX10_oddsOfNext_32 rfl ?_
      refine j_iload_n (pc := 34) 3 X dX10_oddsOfNext_34 rfl ?_
      refine j_iload_n (pc := 35) 2 X dX10_oddsOfNext_35 rfl ?_
      refine j_cVl (pc := 36) (As := [.int x7, .int x3, .int x2]) (rest := []) X dX10_oddsOfNext_36 ml_X10_117 ck_X10_waysTo cv_X10_waysTo (hz _ sh_206) rfl (Nat.le_of_ble_eq_true rfl) rfl (Nat.le_of_ble_eq_true rfl) rfl hF (tX10_waysTo Z x7 x3 x2 hz h) (fun w2 h1 hF => ?_)
      refine j_lstore (pc := 39) (fun y => [(8, .long y), (0, .ref (Z.2.1 206)), (1, .int x1), (2, .int x2), (3, .int x3), (4, .int x4), (5, .long x5), (7, .int x7)]) X dX10_oddsOfNext_39 (by decide) (fun _ => rfl) hF (fun v3 hF => ?_)
      refine j_lload (pc := 41) 0 X dX10_oddsOfNext_41 rfl ?_
      refine j_lconst (pc := 43) 0 X dX10_oddsOfNext_43 rfl ?_
      refine j_lcmp (pc := 44) X dX10_oddsOfNext_44 ?_
      refine j_if_eq (pc := 45) 71 X dX10_oddsOfNext_45 rfl hF (fun hF => ?_) (fun hF => ?_)
      · refine j_lv [(0, .ref (Z.2.1 206)), (1, .int x1), (2, .int x2), (3, .int x3), (4, .int x4), (5, .long x5), (7, .int x7)] [1, 2, 3, 4, 5, 6, 7] rfl ?_
        exact BX10_oddsOfNext_71 X E hz r6 hr6 x1 x2 x3 x4 x5 x7 h1 hF
      · refine j_aload_n (pc := 48) 1 X dX10_oddsOfNext_48 rfl ?_
        refine j_iload_n (pc := 49) 3 X dX10_oddsOfNext_49 rfl ?_
        refine j_iload (pc := 50) 7 X dX10_oddsOfNext_50 rfl ?_
        refine j_iload (pc := 52) 5 X dX10_oddsOfNext_52 rfl ?_
        refine j_cVi (pc := 54) (As := [.int x2, .int x7, .int x4]) (rest := []) X dX10_oddsOfNext_54 ml_X10_108 ck_X10_lookUp cv_X10_lookUp (hz _ sh_206) rfl (Nat.le_of_ble_eq_true rfl) rfl (Nat.le_of_ble_eq_true rfl) rfl hF (tX10_lookUp Z x2 x7 x4 hz h1) (fun w5 h4 hF => ?_)
        refine j_iload_n (pc := 57) 2 X dX10_oddsOfNext_57 rfl ?_
        refine j_cSNi (pc := 58) (As := [.int w5, .int x1]) (rest := []) X dX10_oddsOfNext_58 ml_X10_66 ck_X11_has sk_X11_has (Nat.le_of_ble_eq_true rfl) rfl (Nat.le_of_ble_eq_true rfl) rfl hF (tX11_has Z w5 x1 trivial h4) (fun w7 h6 hF => ?_)
        refine j_if_eq (pc := 61) 71 X dX10_oddsOfNext_61 rfl hF (fun hF => ?_) (fun hF => ?_)
        · refine j_lv [(0, .ref (Z.2.1 206)), (1, .int x1), (2, .int x2), (3, .int x3), (4, .int x4), (5, .long x5), (7, .int x7)] [1, 2, 3, 4, 5, 6, 7] rfl ?_
          exact BX10_oddsOfNext_71 X E hz r6 hr6 x1 x2 x3 x4 x5 x7 h6 hF
        · refine j_lload (pc := 64) 6 X dX10_oddsOfNext_64 rfl ?_
          refine j_lload (pc := 66) 0 X dX10_oddsOfNext_66 rfl ?_
          refine j_ladd (pc := 68) X dX10_oddsOfNext_68 ?_
          refine j_lstore (pc := 69) (fun y => [(5, .long y), (8, .long v3), (0, .ref (Z.2.1 206)), (1, .int x1), (2, .int x2), (3, .int x3), (4, .int x4), (7, .int x7)]) X dX10_oddsOfNext_69 (by decide) (fun _ => rfl) hF (fun v8 hF => ?_)
          refine j_lv [(0, .ref (Z.2.1 206)), (1, .int x1), (2, .int x2), (3, .int x3), (4, .int x4), (5, .long v8), (7, .int x7)] [2, 3, 4, 5, 6, 0, 7] rfl ?_
          exact BX10_oddsOfNext_71 X E hz r6 hr6 x1 x2 x3 x4 v8 x7 h6 hF
    · refine j_goto (pc := 28) 71 X dX10_oddsOfNext_28 rfl ?_
      exact BX10_oddsOfNext_71 X E hz r6 hr6 x1 x2 x3 x4 x5 x7 h hF
theorem LX10_oddsOfNext_6 {Z : ZT} {G : GT} {r : Int64} {hr : Hp} (X : CX Z G cX10_oddsOfNext RX10 10 5) (E : RX Z G (some .long) (some (.long r)) hr) (hz : HZ Z)  : ∀ (n : Nat) (x1 : Int32) (x2 : Int32) (x3 : Int32) (x4 : Int32) (x5 : Int64) (x7 : Int32) (h : Hp), lX10_oddsOfNext_6   n x1 x2 x3 x4 x5 x7 h = some (r, hr) → J Z G 10 h 6 [(0, .ref (Z.2.1 206)), (1, .int x1), (2, .int x2), (3, .int x3), (4, .int x4), (5, .long x5), (7, .int x7)] [] := by
  intro n
  induction n with
  | zero => intro x1 x2 x3 x4 x5 x7 h hF; cases hF
  | succ n ih => intro x1 x2 x3 x4 x5 x7 h hF; exact BX10_oddsOfNext_6 X E hz  (lX10_oddsOfNext_6   n) ih x1 x2 x3 x4 x5 x7 h hF
def fX10_oddsOfNext (a1 : Int32) (a2 : Int32) (a3 : Int32) (a4 : Int32) (h : Hp) : Option (Int64 × Hp) := lt 0 (fun v1 => lt a3 (fun v2 => lX10_oddsOfNext_6 FU a1 a2 a3 a4 v1 v2 h))
set_option maxRecDepth 20000 in
theorem tX10_oddsOfNext (Z : ZT) (a1 : Int32) (a2 : Int32) (a3 : Int32) (a4 : Int32) (hz : HZ Z) (h : Hp) (r : Int64) (hr : Hp) (hF : fX10_oddsOfNext a1 a2 a3 a4 h = some (r, hr)) : MC Z yX10_oddsOfNext cX10_oddsOfNext 10 (some .long) 5 [.ref (Z.2.1 206), .int a1, .int a2, .int a3, .int a4] h (some (.long r)) hr := by
  unfold fX10_oddsOfNext at hF
  refine mc_start (by decide) (Nat.le_of_ble_eq_true rfl) (fun G X E => ?_)
  refine j_lconst (pc := 0) 0 X dX10_oddsOfNext_0 rfl ?_
  refine j_lstore (pc := 1) (fun y => [(5, .long y), (0, .ref (Z.2.1 206)), (1, .int a1), (2, .int a2), (3, .int a3), (4, .int a4)]) X dX10_oddsOfNext_1 (by decide) (fun _ => rfl) hF (fun v1 hF => ?_)
  refine j_iload_n (pc := 3) 4 X dX10_oddsOfNext_3 rfl ?_
  refine j_istore (pc := 4) (fun y => [(7, .int y), (5, .long v1), (0, .ref (Z.2.1 206)), (1, .int a1), (2, .int a2), (3, .int a3), (4, .int a4)]) X dX10_oddsOfNext_4 (by decide) (fun _ => rfl) hF (fun v2 hF => ?_)
  refine j_lv [(0, .ref (Z.2.1 206)), (1, .int a1), (2, .int a2), (3, .int a3), (4, .int a4), (5, .long v1), (7, .int v2)] [2, 3, 4, 5, 6, 1, 0] rfl ?_
  exact LX10_oddsOfNext_6 X E hz FU a1 a2 a3 a4 v1 v2 h hF
theorem dX10_oddsOf_0 : decode cX10_oddsOf 0 = .ok (.iconst 1, 1) := by decide +kernel
theorem dX10_oddsOf_1 : decode cX10_oddsOf 1 = .ok (.aload_n 0, 1) := by decide +kernel
theorem dX10_oddsOf_2 : decode cX10_oddsOf 2 = .ok (.getfield 19, 3) := by decide +kernel
theorem dX10_oddsOf_5 : decode cX10_oddsOf 5 = .ok (.getfield 37, 3) := by decide +kernel
theorem dX10_oddsOf_8 : decode cX10_oddsOf 8 = .ok (.ishl, 1) := by decide +kernel
theorem dX10_oddsOf_9 : decode cX10_oddsOf 9 = .ok (.iconst 1, 1) := by decide +kernel
theorem dX10_oddsOf_10 : decode cX10_oddsOf 10 = .ok (.isub, 1) := by decide +kernel
theorem dX10_oddsOf_11 : decode cX10_oddsOf 11 = .ok (.istore 4, 2) := by decide +kernel
theorem dX10_oddsOf_13 : decode cX10_oddsOf 13 = .ok (.lconst 0, 1) := by decide +kernel
theorem dX10_oddsOf_14 : decode cX10_oddsOf 14 = .ok (.lstore 5, 2) := by decide +kernel
theorem dX10_oddsOf_16 : decode cX10_oddsOf 16 = .ok (.iconst 0, 1) := by decide +kernel
theorem dX10_oddsOf_17 : decode cX10_oddsOf 17 = .ok (.istore 7, 2) := by decide +kernel
theorem dX10_oddsOf_19 : decode cX10_oddsOf 19 = .ok (.iload 7, 2) := by decide +kernel
theorem dX10_oddsOf_21 : decode cX10_oddsOf 21 = .ok (.iload 4, 2) := by decide +kernel
theorem dX10_oddsOf_23 : decode cX10_oddsOf 23 = .ok (.if_icmp .gt 103, 3) := by decide +kernel
theorem dX10_oddsOf_26 : decode cX10_oddsOf 26 = .ok (.aload_n 0, 1) := by decide +kernel
theorem dX10_oddsOf_27 : decode cX10_oddsOf 27 = .ok (.iload 7, 2) := by decide +kernel
theorem dX10_oddsOf_29 : decode cX10_oddsOf 29 = .ok (.iconst 0, 1) := by decide +kernel
theorem dX10_oddsOf_30 : decode cX10_oddsOf 30 = .ok (.iload_n 2, 1) := by decide +kernel
theorem dX10_oddsOf_31 : decode cX10_oddsOf 31 = .ok (.invokevirtual 117, 3) := by decide +kernel
theorem dX10_oddsOf_34 : decode cX10_oddsOf 34 = .ok (.lstore 8, 2) := by decide +kernel
theorem dX10_oddsOf_36 : decode cX10_oddsOf 36 = .ok (.lload 8, 2) := by decide +kernel
theorem dX10_oddsOf_38 : decode cX10_oddsOf 38 = .ok (.lconst 0, 1) := by decide +kernel
theorem dX10_oddsOf_39 : decode cX10_oddsOf 39 = .ok (.lcmp, 1) := by decide +kernel
theorem dX10_oddsOf_40 : decode cX10_oddsOf 40 = .ok (.ifCond .ne 6, 3) := by decide +kernel
theorem dX10_oddsOf_43 : decode cX10_oddsOf 43 = .ok (.goto 77, 3) := by decide +kernel
theorem dX10_oddsOf_46 : decode cX10_oddsOf 46 = .ok (.aload_n 0, 1) := by decide +kernel
theorem dX10_oddsOf_47 : decode cX10_oddsOf 47 = .ok (.iload_n 2, 1) := by decide +kernel
theorem dX10_oddsOf_48 : decode cX10_oddsOf 48 = .ok (.iload 7, 2) := by decide +kernel
theorem dX10_oddsOf_50 : decode cX10_oddsOf 50 = .ok (.iconst 0, 1) := by decide +kernel
theorem dX10_oddsOf_51 : decode cX10_oddsOf 51 = .ok (.invokevirtual 108, 3) := by decide +kernel
theorem dX10_oddsOf_54 : decode cX10_oddsOf 54 = .ok (.istore 10, 2) := by decide +kernel
theorem dX10_oddsOf_56 : decode cX10_oddsOf 56 = .ok (.iload 10, 2) := by decide +kernel
theorem dX10_oddsOf_58 : decode cX10_oddsOf 58 = .ok (.iload_n 1, 1) := by decide +kernel
theorem dX10_oddsOf_59 : decode cX10_oddsOf 59 = .ok (.invokestatic 66, 3) := by decide +kernel
theorem dX10_oddsOf_62 : decode cX10_oddsOf 62 = .ok (.ifCond .eq 33, 3) := by decide +kernel
theorem dX10_oddsOf_65 : decode cX10_oddsOf 65 = .ok (.lload 5, 2) := by decide +kernel
theorem dX10_oddsOf_67 : decode cX10_oddsOf 67 = .ok (.iload_n 3, 1) := by decide +kernel
theorem dX10_oddsOf_68 : decode cX10_oddsOf 68 = .ok (.iconst 1, 1) := by decide +kernel
theorem dX10_oddsOf_69 : decode cX10_oddsOf 69 = .ok (.if_icmp .ne 8, 3) := by decide +kernel
theorem dX10_oddsOf_72 : decode cX10_oddsOf 72 = .ok (.lload 8, 2) := by decide +kernel
theorem dX10_oddsOf_74 : decode cX10_oddsOf 74 = .ok (.goto 15, 3) := by decide +kernel
theorem dX10_oddsOf_77 : decode cX10_oddsOf 77 = .ok (.lload 8, 2) := by decide +kernel
theorem dX10_oddsOf_79 : decode cX10_oddsOf 79 = .ok (.aload_n 0, 1) := by decide +kernel
theorem dX10_oddsOf_80 : decode cX10_oddsOf 80 = .ok (.iload 4, 2) := by decide +kernel
theorem dX10_oddsOf_82 : decode cX10_oddsOf 82 = .ok (.iload 4, 2) := by decide +kernel
theorem dX10_oddsOf_84 : decode cX10_oddsOf 84 = .ok (.iload_n 2, 1) := by decide +kernel
theorem dX10_oddsOf_85 : decode cX10_oddsOf 85 = .ok (.invokevirtual 117, 3) := by decide +kernel
theorem dX10_oddsOf_88 : decode cX10_oddsOf 88 = .ok (.lmul, 1) := by decide +kernel
theorem dX10_oddsOf_89 : decode cX10_oddsOf 89 = .ok (.ladd, 1) := by decide +kernel
theorem dX10_oddsOf_90 : decode cX10_oddsOf 90 = .ok (.lstore 5, 2) := by decide +kernel
theorem dX10_oddsOf_92 : decode cX10_oddsOf 92 = .ok (.goto 28, 3) := by decide +kernel
theorem dX10_oddsOf_95 : decode cX10_oddsOf 95 = .ok (.iload_n 3, 1) := by decide +kernel
theorem dX10_oddsOf_96 : decode cX10_oddsOf 96 = .ok (.iconst 1, 1) := by decide +kernel
theorem dX10_oddsOf_97 : decode cX10_oddsOf 97 = .ok (.if_icmp .le 23, 3) := by decide +kernel
theorem dX10_oddsOf_100 : decode cX10_oddsOf 100 = .ok (.lload 5, 2) := by decide +kernel
theorem dX10_oddsOf_102 : decode cX10_oddsOf 102 = .ok (.lload 8, 2) := by decide +kernel
theorem dX10_oddsOf_104 : decode cX10_oddsOf 104 = .ok (.aload_n 0, 1) := by decide +kernel
theorem dX10_oddsOf_105 : decode cX10_oddsOf 105 = .ok (.iload_n 1, 1) := by decide +kernel
theorem dX10_oddsOf_106 : decode cX10_oddsOf 106 = .ok (.iload_n 2, 1) := by decide +kernel
theorem dX10_oddsOf_107 : decode cX10_oddsOf 107 = .ok (.iconst 1, 1) := by decide +kernel
theorem dX10_oddsOf_108 : decode cX10_oddsOf 108 = .ok (.iadd, 1) := by decide +kernel
theorem dX10_oddsOf_109 : decode cX10_oddsOf 109 = .ok (.iload 7, 2) := by decide +kernel
theorem dX10_oddsOf_111 : decode cX10_oddsOf 111 = .ok (.iload 10, 2) := by decide +kernel
theorem dX10_oddsOf_113 : decode cX10_oddsOf 113 = .ok (.invokevirtual 121, 3) := by decide +kernel
theorem dX10_oddsOf_116 : decode cX10_oddsOf 116 = .ok (.lmul, 1) := by decide +kernel
theorem dX10_oddsOf_117 : decode cX10_oddsOf 117 = .ok (.ladd, 1) := by decide +kernel
theorem dX10_oddsOf_118 : decode cX10_oddsOf 118 = .ok (.lstore 5, 2) := by decide +kernel
theorem dX10_oddsOf_120 : decode cX10_oddsOf 120 = .ok (.iinc 7 1, 3) := by decide +kernel
theorem dX10_oddsOf_123 : decode cX10_oddsOf 123 = .ok (.goto (-104), 3) := by decide +kernel
theorem dX10_oddsOf_126 : decode cX10_oddsOf 126 = .ok (.lload 5, 2) := by decide +kernel
theorem dX10_oddsOf_128 : decode cX10_oddsOf 128 = .ok (.lreturn, 1) := by decide +kernel
def bX10_oddsOf_120  (r19 : Int32 → Int32 → Int32 → Int32 → Int64 → Int32 → Hp → Option (Int64 × Hp)) (x1 : Int32) (x2 : Int32) (x3 : Int32) (x4 : Int32) (x5 : Int64) (x7 : Int32) (h : Hp) : Option (Int64 × Hp) := lt (x7 + 1) (fun v1 => r19 x1 x2 x3 x4 x5 v1 h)
set_option maxRecDepth 20000 in
theorem BX10_oddsOf_120 {Z : ZT} {G : GT} {r : Int64} {hr : Hp} (X : CX Z G cX10_oddsOf RX10 11 6) (E : RX Z G (some .long) (some (.long r)) hr) (hz : HZ Z) (r19 : Int32 → Int32 → Int32 → Int32 → Int64 → Int32 → Hp → Option (Int64 × Hp)) (hr19 : ∀ (x1 : Int32) (x2 : Int32) (x3 : Int32) (x4 : Int32) (x5 : Int64) (x7 : Int32) (h : Hp), r19 x1 x2 x3 x4 x5 x7 h = some (r, hr) → J Z G 11 h 19 [(0, .ref (Z.2.1 206)), (1, .int x1), (2, .int x2), (3, .int x3), (4, .int x4), (5, .long x5), (7, .int x7)] []) (x1 : Int32) (x2 : Int32) (x3 : Int32) (x4 : Int32) (x5 : Int64) (x7 : Int32) (h : Hp) (hF : bX10_oddsOf_120  r19 x1 x2 x3 x4 x5 x7 h = some (r, hr)) : J Z G 11 h 120 [(0, .ref (Z.2.1 206)), (1, .int x1), (2, .int x2), (3, .int x3), (4, .int x4), (5, .long x5), (7, .int x7)] [] := by
  unfold bX10_oddsOf_120 at hF
  refine j_iinc (pc := 120) 6 (x7 + 1) (fun y => [(7, .int y), (0, .ref (Z.2.1 206)), (1, .int x1), (2, .int x2), (3, .int x3), (4, .int x4), (5, .long x5)]) X dX10_oddsOf_120 rfl rfl (by decide) (fun _ => rfl) hF (fun v1 hF => ?_)
  refine j_goto (pc := 123) 19 X dX10_oddsOf_123 rfl ?_
  refine j_lv [(0, .ref (Z.2.1 206)), (1, .int x1), (2, .int x2), (3, .int x3), (4, .int x4), (5, .long x5), (7, .int v1)] [1, 2, 3, 4, 5, 6, 0] rfl ?_
  exact hr19 x1 x2 x3 x4 x5 v1 h hF
def bX10_oddsOf_89  (r19 : Int32 → Int32 → Int32 → Int32 → Int64 → Int32 → Hp → Option (Int64 × Hp)) (x1 : Int32) (x2 : Int32) (x3 : Int32) (x4 : Int32) (x7 : Int32) (s0 : Int64) (s1 : Int64) (h : Hp) : Option (Int64 × Hp) := lt (s1 + s0) (fun v1 => bX10_oddsOf_120 r19 x1 x2 x3 x4 v1 x7 h)
set_option maxRecDepth 20000 in
theorem BX10_oddsOf_89 {Z : ZT} {G : GT} {r : Int64} {hr : Hp} (X : CX Z G cX10_oddsOf RX10 11 6) (E : RX Z G (some .long) (some (.long r)) hr) (hz : HZ Z) (r19 : Int32 → Int32 → Int32 → Int32 → Int64 → Int32 → Hp → Option (Int64 × Hp)) (hr19 : ∀ (x1 : Int32) (x2 : Int32) (x3 : Int32) (x4 : Int32) (x5 : Int64) (x7 : Int32) (h : Hp), r19 x1 x2 x3 x4 x5 x7 h = some (r, hr) → J Z G 11 h 19 [(0, .ref (Z.2.1 206)), (1, .int x1), (2, .int x2), (3, .int x3), (4, .int x4), (5, .long x5), (7, .int x7)] []) (x1 : Int32) (x2 : Int32) (x3 : Int32) (x4 : Int32) (x7 : Int32) (s0 : Int64) (s1 : Int64) (h : Hp) (hF : bX10_oddsOf_89  r19 x1 x2 x3 x4 x7 s0 s1 h = some (r, hr)) : J Z G 11 h 89 [(0, .ref (Z.2.1 206)), (1, .int x1), (2, .int x2), (3, .int x3), (4, .int x4), (7, .int x7)] [.long s0, .long s1] := by
  unfold bX10_oddsOf_89 at hF
  refine j_ladd (pc := 89) X dX10_oddsOf_89 ?_
  refine j_lstore (pc := 90) (fun y => [(5, .long y), (0, .ref (Z.2.1 206)), (1, .int x1), (2, .int x2), (3, .int x3), (4, .int x4), (7, .int x7)]) X dX10_oddsOf_90 (by decide) (fun _ => rfl) hF (fun v1 hF => ?_)
  refine j_goto (pc := 92) 120 X dX10_oddsOf_92 rfl ?_
  refine j_lv [(0, .ref (Z.2.1 206)), (1, .int x1), (2, .int x2), (3, .int x3), (4, .int x4), (5, .long v1), (7, .int x7)] [1, 2, 3, 4, 5, 0, 6] rfl ?_
  exact BX10_oddsOf_120 X E hz r19 hr19 x1 x2 x3 x4 v1 x7 h hF
def bX10_oddsOf_19   (r19 : Int32 → Int32 → Int32 → Int32 → Int64 → Int32 → Hp → Option (Int64 × Hp)) (x1 : Int32) (x2 : Int32) (x3 : Int32) (x4 : Int32) (x5 : Int64) (x7 : Int32) (h : Hp) : Option (Int64 × Hp) := (if x4 < x7 then some (x5, h) else bi (fX10_waysTo x7 0 x2 h) (fun w2 h1 => lt w2 (fun v3 => (if (lg_cmp v3 0) = 0 then bX10_oddsOf_120 r19 x1 x2 x3 x4 x5 x7 h1 else bi (fX10_lookUp x2 x7 0 h1) (fun w5 h4 => lt w5 (fun v6 => bi (fX11_has v6 x1 h4) (fun w8 h7 => (if w8 = 0 then (if x3 ≤ 1 then bX10_oddsOf_120 r19 x1 x2 x3 x4 x5 x7 h7 else bi (fX10_oddsOfNext x1 (x2 + 1) x7 v6 h7) (fun w10 h9 => lt (x5 + (v3 * w10)) (fun v11 => bX10_oddsOf_120 r19 x1 x2 x3 x4 v11 x7 h9))) else (if x3 = 1 then bX10_oddsOf_89 r19 x1 x2 x3 x4 x7 v3 x5 h7 else bi (fX10_waysTo x4 x4 x2 h7) (fun w13 h12 => bX10_oddsOf_89 r19 x1 x2 x3 x4 x7 (v3 * w13) x5 h12))))))))))
def lX10_oddsOf_19   : Nat → Int32 → Int32 → Int32 → Int32 → Int64 → Int32 → Hp → Option (Int64 × Hp)
  | 0 => fun _ _ _ _ _ _ _ => none
  | n + 1 => bX10_oddsOf_19   (lX10_oddsOf_19   n)
set_option maxRecDepth 20000 in
theorem BX10_oddsOf_19 {Z : ZT} {G : GT} {r : Int64} {hr : Hp} (X : CX Z G cX10_oddsOf RX10 11 6) (E : RX Z G (some .long) (some (.long r)) hr) (hz : HZ Z)  (r19 : Int32 → Int32 → Int32 → Int32 → Int64 → Int32 → Hp → Option (Int64 × Hp)) (hr19 : ∀ (x1 : Int32) (x2 : Int32) (x3 : Int32) (x4 : Int32) (x5 : Int64) (x7 : Int32) (h : Hp), r19 x1 x2 x3 x4 x5 x7 h = some (r, hr) → J Z G 11 h 19 [(0, .ref (Z.2.1 206)), (1, .int x1), (2, .int x2), (3, .int x3), (4, .int x4), (5, .long x5), (7, .int x7)] []) (x1 : Int32) (x2 : Int32) (x3 : Int32) (x4 : Int32) (x5 : Int64) (x7 : Int32) (h : Hp) (hF : bX10_oddsOf_19   r19 x1 x2 x3 x4 x5 x7 h = some (r, hr)) : J Z G 11 h 19 [(0, .ref (Z.2.1 206)), (1, .int x1), (2, .int x2), (3, .int x3), (4, .int x4), (5, .long x5), (7, .int x7)] [] := by
  unfold bX10_oddsOf_19 at hF
  refine j_iload (pc := 19) 6 X dX10_oddsOf_19 rfl ?_
  refine j_iload (pc := 21) 4 X dX10_oddsOf_21 rfl ?_
  refine j_icmp_gt (pc := 23) 126 X dX10_oddsOf_23 rfl hF (fun hF => ?_) (fun hF => ?_)
  · refine j_lload (pc := 126) 5 X dX10_oddsOf_126 rfl ?_
    exact j_lret (pc := 128) X E dX10_oddsOf_128 hF
  · refine j_aload_n (pc := 26) 0 X dX10_oddsOf_26 rfl ?_
    refine j_iload (pc := 27) 6 X dX10_oddsOf_27 rfl ?_
    refine j_iconst (pc := 29) 0 X dX10_oddsOf_29 rfl ?_
    refine j_iload_n (pc := 30) 2 X dX10_oddsOf_30 rfl ?_
    refine j_cVl (pc := 31) (As := [.int x7, .int 0, .int x2]) (rest := []) X dX10_oddsOf_31 ml_X10_117 ck_X10_waysTo cv_X10_waysTo (hz _ sh_206) rfl (Nat.le_of_ble_eq_true rfl) rfl (Nat.le_of_ble_eq_true rfl) rfl hF (tX10_waysTo Z x7 0 x2 hz h) (fun w2 h1 hF => ?_)
    refine j_lstore (pc := 34) (fun y => [(8, .long y), (0, .ref (Z.2.1 206)), (1, .int x1), (2, .int x2), (3, .int x3), (4, .int x4), (5, .long x5), (7, .int x7)]) X dX10_oddsOf_34 (by decide) (fun _ => rfl) hF (fun v3 hF => ?_)
    refine j_lload (pc := 36) 0 X dX10_oddsOf_36 rfl ?_
    refine j_lconst (pc := 38) 0 X dX10_oddsOf_38 rfl ?_
    refine j_lcmp (pc := 39) X dX10_oddsOf_39 ?_
    refine j_if_ne (pc := 40) 46 X dX10_oddsOf_40 rfl hF (fun hF => ?_) (fun hF => ?_)
    · refine j_aload_n (pc := 46) 1 X dX10_oddsOf_46 rfl ?_
      refine j_iload_n (pc := 47) 3 X dX10_oddsOf_47 rfl ?_
      refine j_iload (pc := 48) 7 X dX10_oddsOf_48 rfl ?_
      refine j_iconst (pc := 50) 0 X dX10_oddsOf_50 rfl ?_
      refine j_cVi (pc := 51) (As := [.int x2, .int x7, .int 0]) (rest := []) X dX10_oddsOf_51 ml_X10_108 ck_X10_lookUp cv_X10_lookUp (hz _ sh_206) rfl (Nat.le_of_ble_eq_true rfl) rfl (Nat.le_of_ble_eq_true rfl) rfl hF (tX10_lookUp Z x2 x7 0 hz h1) (fun w5 h4 hF => ?_)
      refine j_istore (pc := 54) (fun y => [(10, .int y), (8, .long v3), (0, .ref (Z.2.1 206)), (1, .int x1), (2, .int x2), (3, .int x3), (4, .int x4), (5, .long x5), (7, .int x7)]) X dX10_oddsOf_54 (by decide) (fun _ => rfl) hF (fun v6 hF => ?_)
      refine j_iload (pc := 56) 0 X dX10_oddsOf_56 rfl ?_
      refine j_iload_n (pc := 58) 3 X dX10_oddsOf_58 rfl ?_
      refine j_cSNi (pc := 59) (As := [.int v6, .int x1]) (rest := []) X dX10_oddsOf_59 ml_X10_66 ck_X11_has sk_X11_has (Nat.le_of_ble_eq_true rfl) rfl (Nat.le_of_ble_eq_true rfl) rfl hF (tX11_has Z v6 x1 trivial h4) (fun w8 h7 hF => ?_)
      refine j_if_eq (pc := 62) 95 X dX10_oddsOf_62 rfl hF (fun hF => ?_) (fun hF => ?_)
      · refine j_iload_n (pc := 95) 5 X dX10_oddsOf_95 rfl ?_
        refine j_iconst (pc := 96) 1 X dX10_oddsOf_96 rfl ?_
        refine j_icmp_le (pc := 97) 120 X dX10_oddsOf_97 rfl hF (fun hF => ?_) (fun hF => ?_)
        · refine j_lv [(0, .ref (Z.2.1 206)), (1, .int x1), (2, .int x2), (3, .int x3), (4, .int x4), (5, .long x5), (7, .int x7)] [2, 3, 4, 5, 6, 7, 8] rfl ?_
          exact BX10_oddsOf_120 X E hz r19 hr19 x1 x2 x3 x4 x5 x7 h7 hF
        · refine j_lload (pc := 100) 7 X dX10_oddsOf_100 rfl ?_
          refine j_lload (pc := 102) 1 X dX10_oddsOf_102 rfl ?_
          refine j_aload_n (pc := 104) 2 X dX10_oddsOf_104 rfl ?_
          refine j_iload_n (pc := 105) 3 X dX10_oddsOf_105 rfl ?_
          refine j_iload_n (pc := 106) 4 X dX10_oddsOf_106 rfl ?_
          refine j_iconst (pc := 107) 1 X dX10_oddsOf_107 rfl ?_
          refine j_iadd (pc := 108) X dX10_oddsOf_108 ?_
          refine j_iload (pc := 109) 8 X dX10_oddsOf_109 rfl ?_
          refine j_iload (pc := 111) 0 X dX10_oddsOf_111 rfl ?_
          refine j_cVl (pc := 113) (As := [.int x1, .int (x2 + 1), .int x7, .int v6]) (rest := [.long v3, .long x5]) X dX10_oddsOf_113 ml_X10_121 ck_X10_oddsOfNext cv_X10_oddsOfNext (hz _ sh_206) rfl (Nat.le_of_ble_eq_true rfl) rfl (Nat.le_of_ble_eq_true rfl) rfl hF (tX10_oddsOfNext Z x1 (x2 + 1) x7 v6 hz h7) (fun w10 h9 hF => ?_)
          refine j_lmul (pc := 116) X dX10_oddsOf_116 ?_
          refine j_ladd (pc := 117) X dX10_oddsOf_117 ?_
          refine j_lstore (pc := 118) (fun y => [(5, .long y), (10, .int v6), (8, .long v3), (0, .ref (Z.2.1 206)), (1, .int x1), (2, .int x2), (3, .int x3), (4, .int x4), (7, .int x7)]) X dX10_oddsOf_118 (by decide) (fun _ => rfl) hF (fun v11 hF => ?_)
          refine j_lv [(0, .ref (Z.2.1 206)), (1, .int x1), (2, .int x2), (3, .int x3), (4, .int x4), (5, .long v11), (7, .int x7)] [3, 4, 5, 6, 7, 0, 8] rfl ?_
          exact BX10_oddsOf_120 X E hz r19 hr19 x1 x2 x3 x4 v11 x7 h9 hF
      · refine j_lload (pc := 65) 7 X dX10_oddsOf_65 rfl ?_
        refine j_iload_n (pc := 67) 5 X dX10_oddsOf_67 rfl ?_
        refine j_iconst (pc := 68) 1 X dX10_oddsOf_68 rfl ?_
        refine j_icmp_ne (pc := 69) 77 X dX10_oddsOf_69 rfl hF (fun hF => ?_) (fun hF => ?_)
        · refine j_lload (pc := 77) 1 X dX10_oddsOf_77 rfl ?_
          refine j_aload_n (pc := 79) 2 X dX10_oddsOf_79 rfl ?_
          refine j_iload (pc := 80) 6 X dX10_oddsOf_80 rfl ?_
          refine j_iload (pc := 82) 6 X dX10_oddsOf_82 rfl ?_
          refine j_iload_n (pc := 84) 4 X dX10_oddsOf_84 rfl ?_
          refine j_cVl (pc := 85) (As := [.int x4, .int x4, .int x2]) (rest := [.long v3, .long x5]) X dX10_oddsOf_85 ml_X10_117 ck_X10_waysTo cv_X10_waysTo (hz _ sh_206) rfl (Nat.le_of_ble_eq_true rfl) rfl (Nat.le_of_ble_eq_true rfl) rfl hF (tX10_waysTo Z x4 x4 x2 hz h7) (fun w13 h12 hF => ?_)
          refine j_lmul (pc := 88) X dX10_oddsOf_88 ?_
          refine j_lv [(0, .ref (Z.2.1 206)), (1, .int x1), (2, .int x2), (3, .int x3), (4, .int x4), (7, .int x7)] [2, 3, 4, 5, 6, 8] rfl ?_
          exact BX10_oddsOf_89 X E hz r19 hr19 x1 x2 x3 x4 x7 (v3 * w13) x5 h12 hF
        · refine j_lload (pc := 72) 1 X dX10_oddsOf_72 rfl ?_
          refine j_goto (pc := 74) 89 X dX10_oddsOf_74 rfl ?_
          refine j_lv [(0, .ref (Z.2.1 206)), (1, .int x1), (2, .int x2), (3, .int x3), (4, .int x4), (7, .int x7)] [2, 3, 4, 5, 6, 8] rfl ?_
          exact BX10_oddsOf_89 X E hz r19 hr19 x1 x2 x3 x4 x7 v3 x5 h7 hF
    · refine j_goto (pc := 43) 120 X dX10_oddsOf_43 rfl ?_
      refine j_lv [(0, .ref (Z.2.1 206)), (1, .int x1), (2, .int x2), (3, .int x3), (4, .int x4), (5, .long x5), (7, .int x7)] [1, 2, 3, 4, 5, 6, 7] rfl ?_
      exact BX10_oddsOf_120 X E hz r19 hr19 x1 x2 x3 x4 x5 x7 h1 hF
theorem LX10_oddsOf_19 {Z : ZT} {G : GT} {r : Int64} {hr : Hp} (X : CX Z G cX10_oddsOf RX10 11 6) (E : RX Z G (some .long) (some (.long r)) hr) (hz : HZ Z)  : ∀ (n : Nat) (x1 : Int32) (x2 : Int32) (x3 : Int32) (x4 : Int32) (x5 : Int64) (x7 : Int32) (h : Hp), lX10_oddsOf_19   n x1 x2 x3 x4 x5 x7 h = some (r, hr) → J Z G 11 h 19 [(0, .ref (Z.2.1 206)), (1, .int x1), (2, .int x2), (3, .int x3), (4, .int x4), (5, .long x5), (7, .int x7)] [] := by
  intro n
  induction n with
  | zero => intro x1 x2 x3 x4 x5 x7 h hF; cases hF
  | succ n ih => intro x1 x2 x3 x4 x5 x7 h hF; exact BX10_oddsOf_19 X E hz  (lX10_oddsOf_19   n) ih x1 x2 x3 x4 x5 x7 h hF
def fX10_oddsOf (a1 : Int32) (a2 : Int32) (a3 : Int32) (h : Hp) : Option (Int64 × Hp) := lt (((1 : Int32) <<< ((h.1 108 6) &&& 31)) - 1) (fun v1 => lt 0 (fun v2 => lt 0 (fun v3 => lX10_oddsOf_19 FU a1 a2 a3 v1 v2 v3 h)))
set_option maxRecDepth 20000 in
theorem tX10_oddsOf (Z : ZT) (a1 : Int32) (a2 : Int32) (a3 : Int32) (hz : HZ Z) (h : Hp) (r : Int64) (hr : Hp) (hF : fX10_oddsOf a1 a2 a3 h = some (r, hr)) : MC Z yX10_oddsOf cX10_oddsOf 11 (some .long) 6 [.ref (Z.2.1 206), .int a1, .int a2, .int a3] h (some (.long r)) hr := by
  unfold fX10_oddsOf at hF
  refine mc_start (by decide) (Nat.le_of_ble_eq_true rfl) (fun G X E => ?_)
  refine j_iconst (pc := 0) 1 X dX10_oddsOf_0 rfl ?_
  refine j_aload_n (pc := 1) 0 X dX10_oddsOf_1 rfl ?_
  refine j_getr (pc := 2) X dX10_oddsOf_2 (hz _ sh_206) fl_X10_19 rfl ?_
  refine j_geti (pc := 5) X dX10_oddsOf_5 (hz _ sh_108) fl_X10_37 rfl ?_
  refine j_ishl (pc := 8) X dX10_oddsOf_8 ?_
  refine j_iconst (pc := 9) 1 X dX10_oddsOf_9 rfl ?_
  refine j_isub (pc := 10) X dX10_oddsOf_10 ?_
  refine j_istore (pc := 11) (fun y => [(4, .int y), (0, .ref (Z.2.1 206)), (1, .int a1), (2, .int a2), (3, .int a3)]) X dX10_oddsOf_11 (by decide) (fun _ => rfl) hF (fun v1 hF => ?_)
  refine j_lconst (pc := 13) 0 X dX10_oddsOf_13 rfl ?_
  refine j_lstore (pc := 14) (fun y => [(5, .long y), (4, .int v1), (0, .ref (Z.2.1 206)), (1, .int a1), (2, .int a2), (3, .int a3)]) X dX10_oddsOf_14 (by decide) (fun _ => rfl) hF (fun v2 hF => ?_)
  refine j_iconst (pc := 16) 0 X dX10_oddsOf_16 rfl ?_
  refine j_istore (pc := 17) (fun y => [(7, .int y), (5, .long v2), (4, .int v1), (0, .ref (Z.2.1 206)), (1, .int a1), (2, .int a2), (3, .int a3)]) X dX10_oddsOf_17 (by decide) (fun _ => rfl) hF (fun v3 hF => ?_)
  refine j_lv [(0, .ref (Z.2.1 206)), (1, .int a1), (2, .int a2), (3, .int a3), (4, .int v1), (5, .long v2), (7, .int v3)] [3, 4, 5, 6, 2, 1, 0] rfl ?_
  exact LX10_oddsOf_19 X E hz FU a1 a2 a3 v1 v2 v3 h hF
theorem dX11_isPerson_0 : decode cX11_isPerson 0 = .ok (.iload_n 1, 1) := by decide +kernel
theorem dX11_isPerson_1 : decode cX11_isPerson 1 = .ok (.iconst 0, 1) := by decide +kernel
theorem dX11_isPerson_2 : decode cX11_isPerson 2 = .ok (.aload_n 0, 1) := by decide +kernel
theorem dX11_isPerson_3 : decode cX11_isPerson 3 = .ok (.getfield 26, 3) := by decide +kernel
theorem dX11_isPerson_6 : decode cX11_isPerson 6 = .ok (.getfield 103, 3) := by decide +kernel
theorem dX11_isPerson_9 : decode cX11_isPerson 9 = .ok (.iconst 1, 1) := by decide +kernel
theorem dX11_isPerson_10 : decode cX11_isPerson 10 = .ok (.isub, 1) := by decide +kernel
theorem dX11_isPerson_11 : decode cX11_isPerson 11 = .ok (.invokestatic 106, 3) := by decide +kernel
theorem dX11_isPerson_14 : decode cX11_isPerson 14 = .ok (.ireturn, 1) := by decide +kernel
def fX11_isPerson (a1 : Int32) (h : Hp) : Option (Int32 × Hp) := bi (fX11_within a1 0 ((h.1 108 6) - 1) h) (fun w2 h1 => ck (zb w2) (some (w2, h1)))
set_option maxRecDepth 20000 in
theorem tX11_isPerson (Z : ZT) (a1 : Int32) (hz : HZ Z) (h : Hp) (r : Int32) (hr : Hp) (hF : fX11_isPerson a1 h = some (r, hr)) : MC Z yX11_isPerson cX11_isPerson 2 (some .boolean) 1 [.ref (Z.2.1 100), .int a1] h (some (.int r)) hr := by
  unfold fX11_isPerson at hF
  refine mc_start (by decide) (Nat.le_of_ble_eq_true rfl) (fun G X E => ?_)
  refine j_iload_n (pc := 0) 1 X dX11_isPerson_0 rfl ?_
  refine j_iconst (pc := 1) 0 X dX11_isPerson_1 rfl ?_
  refine j_aload_n (pc := 2) 0 X dX11_isPerson_2 rfl ?_
  refine j_getr (pc := 3) X dX11_isPerson_3 (hz _ sh_100) fl_X11_26 rfl ?_
  refine j_geti (pc := 6) X dX11_isPerson_6 (hz _ sh_108) fl_X11_103 rfl ?_
  refine j_iconst (pc := 9) 1 X dX11_isPerson_9 rfl ?_
  refine j_isub (pc := 10) X dX11_isPerson_10 ?_
  refine j_cSi (pc := 11) (As := [.int a1, .int 0, .int ((h.1 108 6) - 1)]) (rest := []) X dX11_isPerson_11 ml_X11_106 ck_X11_within sk_X11_within (Nat.le_of_ble_eq_true rfl) rfl (Nat.le_of_ble_eq_true rfl) rfl hF (tX11_within Z a1 0 ((h.1 108 6) - 1) trivial h) (fun w2 h1 hF => ?_)
  exact j_zret (pc := 14) X E dX11_isPerson_14 hF
theorem dX11_isLetter_0 : decode cX11_isLetter 0 = .ok (.iload_n 1, 1) := by decide +kernel
theorem dX11_isLetter_1 : decode cX11_isLetter 1 = .ok (.iconst 0, 1) := by decide +kernel
theorem dX11_isLetter_2 : decode cX11_isLetter 2 = .ok (.aload_n 0, 1) := by decide +kernel
theorem dX11_isLetter_3 : decode cX11_isLetter 3 = .ok (.getfield 26, 3) := by decide +kernel
theorem dX11_isLetter_6 : decode cX11_isLetter 6 = .ok (.getfield 110, 3) := by decide +kernel
theorem dX11_isLetter_9 : decode cX11_isLetter 9 = .ok (.iconst 1, 1) := by decide +kernel
theorem dX11_isLetter_10 : decode cX11_isLetter 10 = .ok (.isub, 1) := by decide +kernel
theorem dX11_isLetter_11 : decode cX11_isLetter 11 = .ok (.invokestatic 106, 3) := by decide +kernel
theorem dX11_isLetter_14 : decode cX11_isLetter 14 = .ok (.ireturn, 1) := by decide +kernel
def fX11_isLetter (a1 : Int32) (h : Hp) : Option (Int32 × Hp) := bi (fX11_within a1 0 ((h.1 108 9) - 1) h) (fun w2 h1 => ck (zb w2) (some (w2, h1)))
set_option maxRecDepth 20000 in
theorem tX11_isLetter (Z : ZT) (a1 : Int32) (hz : HZ Z) (h : Hp) (r : Int32) (hr : Hp) (hF : fX11_isLetter a1 h = some (r, hr)) : MC Z yX11_isLetter cX11_isLetter 2 (some .boolean) 1 [.ref (Z.2.1 100), .int a1] h (some (.int r)) hr := by
  unfold fX11_isLetter at hF
  refine mc_start (by decide) (Nat.le_of_ble_eq_true rfl) (fun G X E => ?_)
  refine j_iload_n (pc := 0) 1 X dX11_isLetter_0 rfl ?_
  refine j_iconst (pc := 1) 0 X dX11_isLetter_1 rfl ?_
  refine j_aload_n (pc := 2) 0 X dX11_isLetter_2 rfl ?_
  refine j_getr (pc := 3) X dX11_isLetter_3 (hz _ sh_100) fl_X11_26 rfl ?_
  refine j_geti (pc := 6) X dX11_isLetter_6 (hz _ sh_108) fl_X11_110 rfl ?_
  refine j_iconst (pc := 9) 1 X dX11_isLetter_9 rfl ?_
  refine j_isub (pc := 10) X dX11_isLetter_10 ?_
  refine j_cSi (pc := 11) (As := [.int a1, .int 0, .int ((h.1 108 9) - 1)]) (rest := []) X dX11_isLetter_11 ml_X11_106 ck_X11_within sk_X11_within (Nat.le_of_ble_eq_true rfl) rfl (Nat.le_of_ble_eq_true rfl) rfl hF (tX11_within Z a1 0 ((h.1 108 9) - 1) trivial h) (fun w2 h1 hF => ?_)
  exact j_zret (pc := 14) X E dX11_isLetter_14 hF
theorem dX11_isYear_0 : decode cX11_isYear 0 = .ok (.iload_n 1, 1) := by decide +kernel
theorem dX11_isYear_1 : decode cX11_isYear 1 = .ok (.iconst 0, 1) := by decide +kernel
theorem dX11_isYear_2 : decode cX11_isYear 2 = .ok (.bipush 59, 2) := by decide +kernel
theorem dX11_isYear_4 : decode cX11_isYear 4 = .ok (.invokestatic 106, 3) := by decide +kernel
theorem dX11_isYear_7 : decode cX11_isYear 7 = .ok (.ireturn, 1) := by decide +kernel
def fX11_isYear (a1 : Int32) (h : Hp) : Option (Int32 × Hp) := bi (fX11_within a1 0 59 h) (fun w2 h1 => ck (zb w2) (some (w2, h1)))
set_option maxRecDepth 20000 in
theorem tX11_isYear (Z : ZT) (a1 : Int32) (hz : HZ Z) (h : Hp) (r : Int32) (hr : Hp) (hF : fX11_isYear a1 h = some (r, hr)) : MC Z yX11_isYear cX11_isYear 2 (some .boolean) 1 [.ref (Z.2.1 100), .int a1] h (some (.int r)) hr := by
  unfold fX11_isYear at hF
  refine mc_start (by decide) (Nat.le_of_ble_eq_true rfl) (fun G X E => ?_)
  refine j_iload_n (pc := 0) 1 X dX11_isYear_0 rfl ?_
  refine j_iconst (pc := 1) 0 X dX11_isYear_1 rfl ?_
  refine j_bipush (pc := 2) 59 X dX11_isYear_2 rfl ?_
  refine j_cSi (pc := 4) (As := [.int a1, .int 0, .int 59]) (rest := []) X dX11_isYear_4 ml_X11_106 ck_X11_within sk_X11_within (Nat.le_of_ble_eq_true rfl) rfl (Nat.le_of_ble_eq_true rfl) rfl hF (tX11_within Z a1 0 59 trivial h) (fun w2 h1 hF => ?_)
  exact j_zret (pc := 7) X E dX11_isYear_7 hF
theorem dX11_isKnown_0 : decode cX11_isKnown 0 = .ok (.iload_n 1, 1) := by decide +kernel
theorem dX11_isKnown_1 : decode cX11_isKnown 1 = .ok (.iconst 0, 1) := by decide +kernel
theorem dX11_isKnown_2 : decode cX11_isKnown 2 = .ok (.aload_n 0, 1) := by decide +kernel
theorem dX11_isKnown_3 : decode cX11_isKnown 3 = .ok (.getfield 54, 3) := by decide +kernel
theorem dX11_isKnown_6 : decode cX11_isKnown 6 = .ok (.getfield 113, 3) := by decide +kernel
theorem dX11_isKnown_9 : decode cX11_isKnown 9 = .ok (.invokestatic 106, 3) := by decide +kernel
theorem dX11_isKnown_12 : decode cX11_isKnown 12 = .ok (.ireturn, 1) := by decide +kernel
def fX11_isKnown (a1 : Int32) (h : Hp) : Option (Int32 × Hp) := bi (fX11_within a1 0 (h.1 152 6) h) (fun w2 h1 => ck (zb w2) (some (w2, h1)))
set_option maxRecDepth 20000 in
theorem tX11_isKnown (Z : ZT) (a1 : Int32) (hz : HZ Z) (h : Hp) (r : Int32) (hr : Hp) (hF : fX11_isKnown a1 h = some (r, hr)) : MC Z yX11_isKnown cX11_isKnown 2 (some .boolean) 1 [.ref (Z.2.1 100), .int a1] h (some (.int r)) hr := by
  unfold fX11_isKnown at hF
  refine mc_start (by decide) (Nat.le_of_ble_eq_true rfl) (fun G X E => ?_)
  refine j_iload_n (pc := 0) 1 X dX11_isKnown_0 rfl ?_
  refine j_iconst (pc := 1) 0 X dX11_isKnown_1 rfl ?_
  refine j_aload_n (pc := 2) 0 X dX11_isKnown_2 rfl ?_
  refine j_getr (pc := 3) X dX11_isKnown_3 (hz _ sh_100) fl_X11_54 rfl ?_
  refine j_geti (pc := 6) X dX11_isKnown_6 (hz _ sh_152) fl_X11_113 rfl ?_
  refine j_cSi (pc := 9) (As := [.int a1, .int 0, .int (h.1 152 6)]) (rest := []) X dX11_isKnown_9 ml_X11_106 ck_X11_within sk_X11_within (Nat.le_of_ble_eq_true rfl) rfl (Nat.le_of_ble_eq_true rfl) rfl hF (tX11_within Z a1 0 (h.1 152 6) trivial h) (fun w2 h1 hF => ?_)
  exact j_zret (pc := 12) X E dX11_isKnown_12 hF
