theorem dX12_isYear_0 : decode cX12_isYear 0 = .ok (.iload_n 0, 1) := by decide +kernel
theorem dX12_isYear_1 : decode cX12_isYear 1 = .ok (.iconst 0, 1) := by decide +kernel
theorem dX12_isYear_2 : decode cX12_isYear 2 = .ok (.bipush 59, 2) := by decide +kernel
theorem dX12_isYear_4 : decode cX12_isYear 4 = .ok (.invokestatic 383, 3) := by decide +kernel
theorem dX12_isYear_7 : decode cX12_isYear 7 = .ok (.ireturn, 1) := by decide +kernel
def fX12_isYear (a1 : Int32) (h : Hp) : Option (Int32 × Hp) := bi (fX12_in a1 0 59 h) (fun w2 h1 => ck (zb w2) (some (w2, h1)))
set_option maxRecDepth 20000 in
theorem tX12_isYear (Z : ZT) (a1 : Int32) (hz : True) (h : Hp) (r : Int32) (hr : Hp) (hF : fX12_isYear a1 h = some (r, hr)) : MC Z yX12_isYear cX12_isYear 1 (some .boolean) 1 [.int a1] h (some (.int r)) hr := by
  unfold fX12_isYear at hF
  refine mc_start (by decide) (Nat.le_of_ble_eq_true rfl) (fun G X E => ?_)
  refine j_iload_n (pc := 0) 0 X dX12_isYear_0 rfl ?_
  refine j_iconst (pc := 1) 0 X dX12_isYear_1 rfl ?_
  refine j_bipush (pc := 2) 59 X dX12_isYear_2 rfl ?_
  refine j_cSi (pc := 4) (As := [.int a1, .int 0, .int 59]) (rest := []) X dX12_isYear_4 ml_X12_383 ck_X12_in sk_X12_in (Nat.le_of_ble_eq_true rfl) rfl (Nat.le_of_ble_eq_true rfl) rfl hF (tX12_in Z a1 0 59 trivial h) (fun w2 h1 hF => ?_)
  exact j_zret (pc := 7) X E dX12_isYear_7 hF
theorem dX12_writer_0 : decode cX12_writer 0 = .ok (.aload_n 0, 1) := by decide +kernel
theorem dX12_writer_1 : decode cX12_writer 1 = .ok (.getfield 70, 3) := by decide +kernel
theorem dX12_writer_4 : decode cX12_writer 4 = .ok (.bipush 10, 2) := by decide +kernel
theorem dX12_writer_6 : decode cX12_writer 6 = .ok (.aload_n 0, 1) := by decide +kernel
theorem dX12_writer_7 : decode cX12_writer 7 = .ok (.getfield 284, 3) := by decide +kernel
theorem dX12_writer_10 : decode cX12_writer 10 = .ok (.imul, 1) := by decide +kernel
theorem dX12_writer_11 : decode cX12_writer 11 = .ok (.iload_n 1, 1) := by decide +kernel
theorem dX12_writer_12 : decode cX12_writer 12 = .ok (.iadd, 1) := by decide +kernel
theorem dX12_writer_13 : decode cX12_writer 13 = .ok (.iaload, 1) := by decide +kernel
theorem dX12_writer_14 : decode cX12_writer 14 = .ok (.ireturn, 1) := by decide +kernel
def fX12_writer (a1 : Int32) (h : Hp) : Option (Int32 × Hp) := ck (inb (((10 : Int32) * (h.1 0 18)) + a1) 20) (some ((h.1 18 (ix (((10 : Int32) * (h.1 0 18)) + a1))), h))
set_option maxRecDepth 20000 in
theorem tX12_writer (Z : ZT) (a1 : Int32) (hz : HZM Z) (h : Hp) (r : Int32) (hr : Hp) (hF : fX12_writer a1 h = some (r, hr)) : MC Z yX12_writer cX12_writer 2 (some .int) 0 [.ref (Z.2.1 0), .int a1] h (some (.int r)) hr := by
  unfold fX12_writer at hF
  refine mc_start (by decide) (Nat.le_of_ble_eq_true rfl) (fun G X E => ?_)
  refine j_aload_n (pc := 0) 0 X dX12_writer_0 rfl ?_
  refine j_getr (pc := 1) X dX12_writer_1 (hz _ sh_0) fl_X12_70 rfl ?_
  refine j_bipush (pc := 4) 10 X dX12_writer_4 rfl ?_
  refine j_aload_n (pc := 6) 0 X dX12_writer_6 rfl ?_
  refine j_geti (pc := 7) X dX12_writer_7 (hz _ sh_0) fl_X12_284 rfl ?_
  refine j_imul (pc := 10) X dX12_writer_10 ?_
  refine j_iload_n (pc := 11) 1 X dX12_writer_11 rfl ?_
  refine j_iadd (pc := 12) X dX12_writer_12 ?_
  refine j_iald (pc := 13) X dX12_writer_13 (hz _ sh_18) hF (fun hF => ?_)
  exact j_iret (pc := 14) X E dX12_writer_14 hF
theorem dX12_reader_0 : decode cX12_reader 0 = .ok (.aload_n 0, 1) := by decide +kernel
theorem dX12_reader_1 : decode cX12_reader 1 = .ok (.getfield 73, 3) := by decide +kernel
theorem dX12_reader_4 : decode cX12_reader 4 = .ok (.bipush 10, 2) := by decide +kernel
theorem dX12_reader_6 : decode cX12_reader 6 = .ok (.aload_n 0, 1) := by decide +kernel
theorem dX12_reader_7 : decode cX12_reader 7 = .ok (.getfield 284, 3) := by decide +kernel
theorem dX12_reader_10 : decode cX12_reader 10 = .ok (.imul, 1) := by decide +kernel
theorem dX12_reader_11 : decode cX12_reader 11 = .ok (.iload_n 1, 1) := by decide +kernel
theorem dX12_reader_12 : decode cX12_reader 12 = .ok (.iadd, 1) := by decide +kernel
theorem dX12_reader_13 : decode cX12_reader 13 = .ok (.iaload, 1) := by decide +kernel
theorem dX12_reader_14 : decode cX12_reader 14 = .ok (.ireturn, 1) := by decide +kernel
def fX12_reader (a1 : Int32) (h : Hp) : Option (Int32 × Hp) := ck (inb (((10 : Int32) * (h.1 0 18)) + a1) 20) (some ((h.1 19 (ix (((10 : Int32) * (h.1 0 18)) + a1))), h))
set_option maxRecDepth 20000 in
theorem tX12_reader (Z : ZT) (a1 : Int32) (hz : HZM Z) (h : Hp) (r : Int32) (hr : Hp) (hF : fX12_reader a1 h = some (r, hr)) : MC Z yX12_reader cX12_reader 2 (some .int) 0 [.ref (Z.2.1 0), .int a1] h (some (.int r)) hr := by
  unfold fX12_reader at hF
  refine mc_start (by decide) (Nat.le_of_ble_eq_true rfl) (fun G X E => ?_)
  refine j_aload_n (pc := 0) 0 X dX12_reader_0 rfl ?_
  refine j_getr (pc := 1) X dX12_reader_1 (hz _ sh_0) fl_X12_73 rfl ?_
  refine j_bipush (pc := 4) 10 X dX12_reader_4 rfl ?_
  refine j_aload_n (pc := 6) 0 X dX12_reader_6 rfl ?_
  refine j_geti (pc := 7) X dX12_reader_7 (hz _ sh_0) fl_X12_284 rfl ?_
  refine j_imul (pc := 10) X dX12_reader_10 ?_
  refine j_iload_n (pc := 11) 1 X dX12_reader_11 rfl ?_
  refine j_iadd (pc := 12) X dX12_reader_12 ?_
  refine j_iald (pc := 13) X dX12_reader_13 (hz _ sh_19) hF (fun hF => ?_)
  exact j_iret (pc := 14) X E dX12_reader_14 hF
theorem dX12_says_0 : decode cX12_says 0 = .ok (.iconst 3, 1) := by decide +kernel
theorem dX12_says_1 : decode cX12_says 1 = .ok (.aload_n 0, 1) := by decide +kernel
theorem dX12_says_2 : decode cX12_says 2 = .ok (.getfield 284, 3) := by decide +kernel
theorem dX12_says_5 : decode cX12_says 5 = .ok (.imul, 1) := by decide +kernel
theorem dX12_says_6 : decode cX12_says 6 = .ok (.iload_n 1, 1) := by decide +kernel
theorem dX12_says_7 : decode cX12_says 7 = .ok (.iadd, 1) := by decide +kernel
theorem dX12_says_8 : decode cX12_says 8 = .ok (.istore 4, 2) := by decide +kernel
theorem dX12_says_10 : decode cX12_says 10 = .ok (.aload_n 0, 1) := by decide +kernel
theorem dX12_says_11 : decode cX12_says 11 = .ok (.getfield 94, 3) := by decide +kernel
theorem dX12_says_14 : decode cX12_says 14 = .ok (.iload 4, 2) := by decide +kernel
theorem dX12_says_16 : decode cX12_says 16 = .ok (.baload, 1) := by decide +kernel
theorem dX12_says_17 : decode cX12_says 17 = .ok (.ifCond .ne 5, 3) := by decide +kernel
theorem dX12_says_20 : decode cX12_says 20 = .ok (.iload_n 2, 1) := by decide +kernel
theorem dX12_says_21 : decode cX12_says 21 = .ok (.ireturn, 1) := by decide +kernel
theorem dX12_says_22 : decode cX12_says 22 = .ok (.aload_n 0, 1) := by decide +kernel
theorem dX12_says_23 : decode cX12_says 23 = .ok (.aload_n 0, 1) := by decide +kernel
theorem dX12_says_24 : decode cX12_says 24 = .ok (.getfield 98, 3) := by decide +kernel
theorem dX12_says_27 : decode cX12_says 27 = .ok (.iload 4, 2) := by decide +kernel
theorem dX12_says_29 : decode cX12_says 29 = .ok (.iaload, 1) := by decide +kernel
theorem dX12_says_30 : decode cX12_says 30 = .ok (.aload_n 0, 1) := by decide +kernel
theorem dX12_says_31 : decode cX12_says 31 = .ok (.getfield 101, 3) := by decide +kernel
theorem dX12_says_34 : decode cX12_says 34 = .ok (.iload 4, 2) := by decide +kernel
theorem dX12_says_36 : decode cX12_says 36 = .ok (.iaload, 1) := by decide +kernel
theorem dX12_says_37 : decode cX12_says 37 = .ok (.invokevirtual 377, 3) := by decide +kernel
theorem dX12_says_40 : decode cX12_says 40 = .ok (.istore 5, 2) := by decide +kernel
theorem dX12_says_42 : decode cX12_says 42 = .ok (.aload_n 0, 1) := by decide +kernel
theorem dX12_says_43 : decode cX12_says 43 = .ok (.getfield 367, 3) := by decide +kernel
theorem dX12_says_46 : decode cX12_says 46 = .ok (.ifCond .eq 7, 3) := by decide +kernel
theorem dX12_says_49 : decode cX12_says 49 = .ok (.iconst 0, 1) := by decide +kernel
theorem dX12_says_50 : decode cX12_says 50 = .ok (.goto 9, 3) := by decide +kernel
theorem dX12_says_53 : decode cX12_says 53 = .ok (.iload 5, 2) := by decide +kernel
theorem dX12_says_55 : decode cX12_says 55 = .ok (.iload_n 3, 1) := by decide +kernel
theorem dX12_says_56 : decode cX12_says 56 = .ok (.invokestatic 387, 3) := by decide +kernel
theorem dX12_says_59 : decode cX12_says 59 = .ok (.ireturn, 1) := by decide +kernel
def fX12_says (a1 : Int32) (a2 : Int32) (a3 : Int32) (h : Hp) : Option (Int32 × Hp) := lt (((3 : Int32) * (h.1 0 18)) + a1) (fun v1 => ck (inb v1 6) ((if (h.1 26 (ix v1)) = 0 then some (a2, h) else ck (inb v1 6) (ck (inb v1 6) (bi (fX12_termOf (h.1 27 (ix v1)) (h.1 28 (ix v1)) h) (fun w3 h2 => lt w3 (fun v4 => (if (h2.1 0 56) = 0 then bi (fX12_held v4 a3 h2) (fun w6 h5 => some (w6, h5)) else some (0, h2)))))))))
set_option maxRecDepth 20000 in
theorem tX12_says (Z : ZT) (a1 : Int32) (a2 : Int32) (a3 : Int32) (hz : HZM Z) (h : Hp) (r : Int32) (hr : Hp) (hF : fX12_says a1 a2 a3 h = some (r, hr)) : MC Z yX12_says cX12_says 6 (some .int) 1 [.ref (Z.2.1 0), .int a1, .int a2, .int a3] h (some (.int r)) hr := by
  unfold fX12_says at hF
  refine mc_start (by decide) (Nat.le_of_ble_eq_true rfl) (fun G X E => ?_)
  refine j_iconst (pc := 0) 3 X dX12_says_0 rfl ?_
  refine j_aload_n (pc := 1) 0 X dX12_says_1 rfl ?_
  refine j_geti (pc := 2) X dX12_says_2 (hz _ sh_0) fl_X12_284 rfl ?_
  refine j_imul (pc := 5) X dX12_says_5 ?_
  refine j_iload_n (pc := 6) 1 X dX12_says_6 rfl ?_
  refine j_iadd (pc := 7) X dX12_says_7 ?_
  refine j_istore (pc := 8) (fun y => [(4, .int y), (0, .ref (Z.2.1 0)), (1, .int a1), (2, .int a2), (3, .int a3)]) X dX12_says_8 (by decide) (fun _ => rfl) hF (fun v1 hF => ?_)
  refine j_aload_n (pc := 10) 1 X dX12_says_10 rfl ?_
  refine j_getr (pc := 11) X dX12_says_11 (hz _ sh_0) fl_X12_94 rfl ?_
  refine j_iload (pc := 14) 0 X dX12_says_14 rfl ?_
  refine j_zald (pc := 16) X dX12_says_16 (hz _ sh_26) hF (fun hF => ?_)
  refine j_if_ne (pc := 17) 22 X dX12_says_17 rfl hF (fun hF => ?_) (fun hF => ?_)
  · refine j_aload_n (pc := 22) 1 X dX12_says_22 rfl ?_
    refine j_aload_n (pc := 23) 1 X dX12_says_23 rfl ?_
    refine j_getr (pc := 24) X dX12_says_24 (hz _ sh_0) fl_X12_98 rfl ?_
    refine j_iload (pc := 27) 0 X dX12_says_27 rfl ?_
    refine j_iald (pc := 29) X dX12_says_29 (hz _ sh_27) hF (fun hF => ?_)
    refine j_aload_n (pc := 30) 1 X dX12_says_30 rfl ?_
    refine j_getr (pc := 31) X dX12_says_31 (hz _ sh_0) fl_X12_101 rfl ?_
    refine j_iload (pc := 34) 0 X dX12_says_34 rfl ?_
    refine j_iald (pc := 36) X dX12_says_36 (hz _ sh_28) hF (fun hF => ?_)
    refine j_cVi (pc := 37) (As := [.int (h.1 27 (ix v1)), .int (h.1 28 (ix v1))]) (rest := []) X dX12_says_37 ml_X12_377 ck_X12_termOf cv_X12_termOf (hz _ sh_0) rfl (Nat.le_of_ble_eq_true rfl) rfl (Nat.le_of_ble_eq_true rfl) rfl hF (tX12_termOf Z (h.1 27 (ix v1)) (h.1 28 (ix v1)) hz h) (fun w3 h2 hF => ?_)
    refine j_istore (pc := 40) (fun y => [(5, .int y), (4, .int v1), (0, .ref (Z.2.1 0)), (1, .int a1), (2, .int a2), (3, .int a3)]) X dX12_says_40 (by decide) (fun _ => rfl) hF (fun v4 hF => ?_)
    refine j_aload_n (pc := 42) 2 X dX12_says_42 rfl ?_
    refine j_geti (pc := 43) X dX12_says_43 (hz _ sh_0) fl_X12_367 rfl ?_
    refine j_if_eq (pc := 46) 53 X dX12_says_46 rfl hF (fun hF => ?_) (fun hF => ?_)
    · refine j_iload (pc := 53) 0 X dX12_says_53 rfl ?_
      refine j_iload_n (pc := 55) 5 X dX12_says_55 rfl ?_
      refine j_cSi (pc := 56) (As := [.int v4, .int a3]) (rest := []) X dX12_says_56 ml_X12_387 ck_X12_held sk_X12_held (Nat.le_of_ble_eq_true rfl) rfl (Nat.le_of_ble_eq_true rfl) rfl hF (tX12_held Z v4 a3 trivial h2) (fun w6 h5 hF => ?_)
      exact j_iret (pc := 59) X E dX12_says_59 hF
    · refine j_iconst (pc := 49) 0 X dX12_says_49 rfl ?_
      refine j_goto (pc := 50) 59 X dX12_says_50 rfl ?_
      exact j_iret (pc := 59) X E dX12_says_59 hF
  · refine j_iload_n (pc := 20) 3 X dX12_says_20 rfl ?_
    exact j_iret (pc := 21) X E dX12_says_21 hF
theorem dX12_sees_0 : decode cX12_sees 0 = .ok (.aload_n 0, 1) := by decide +kernel
theorem dX12_sees_1 : decode cX12_sees 1 = .ok (.getfield 131, 3) := by decide +kernel
theorem dX12_sees_4 : decode cX12_sees 4 = .ok (.iconst 0, 1) := by decide +kernel
theorem dX12_sees_5 : decode cX12_sees 5 = .ok (.iload_n 1, 1) := by decide +kernel
theorem dX12_sees_6 : decode cX12_sees 6 = .ok (.iastore, 1) := by decide +kernel
theorem dX12_sees_7 : decode cX12_sees 7 = .ok (.aload_n 0, 1) := by decide +kernel
theorem dX12_sees_8 : decode cX12_sees 8 = .ok (.getfield 131, 3) := by decide +kernel
theorem dX12_sees_11 : decode cX12_sees 11 = .ok (.iconst 1, 1) := by decide +kernel
theorem dX12_sees_12 : decode cX12_sees 12 = .ok (.iload_n 2, 1) := by decide +kernel
theorem dX12_sees_13 : decode cX12_sees 13 = .ok (.iastore, 1) := by decide +kernel
theorem dX12_sees_14 : decode cX12_sees 14 = .ok (.aload_n 0, 1) := by decide +kernel
theorem dX12_sees_15 : decode cX12_sees 15 = .ok (.getfield 131, 3) := by decide +kernel
theorem dX12_sees_18 : decode cX12_sees 18 = .ok (.iconst 2, 1) := by decide +kernel
theorem dX12_sees_19 : decode cX12_sees 19 = .ok (.iload_n 3, 1) := by decide +kernel
theorem dX12_sees_20 : decode cX12_sees 20 = .ok (.iastore, 1) := by decide +kernel
theorem dX12_sees_21 : decode cX12_sees 21 = .ok (.aload_n 0, 1) := by decide +kernel
theorem dX12_sees_22 : decode cX12_sees 22 = .ok (.getfield 131, 3) := by decide +kernel
theorem dX12_sees_25 : decode cX12_sees 25 = .ok (.iconst 3, 1) := by decide +kernel
theorem dX12_sees_26 : decode cX12_sees 26 = .ok (.iload 4, 2) := by decide +kernel
theorem dX12_sees_28 : decode cX12_sees 28 = .ok (.iastore, 1) := by decide +kernel
theorem dX12_sees_29 : decode cX12_sees 29 = .ok (.return_, 1) := by decide +kernel
def fX12_sees (a1 : Int32) (a2 : Int32) (a3 : Int32) (a4 : Int32) (h : Hp) : Option (Hp) := ck (inb 0 4) (lt (wI h 38 (ix 0) a1) (fun h1 => ck (inb 1 4) (lt (wI h1 38 (ix 1) a2) (fun h2 => ck (inb 2 4) (lt (wI h2 38 (ix 2) a3) (fun h3 => ck (inb 3 4) (lt (wI h3 38 (ix 3) a4) (fun h4 => some h4))))))))
set_option maxRecDepth 20000 in
theorem tX12_sees (Z : ZT) (a1 : Int32) (a2 : Int32) (a3 : Int32) (a4 : Int32) (hz : HZM Z) (h : Hp) (hr : Hp) (hF : fX12_sees a1 a2 a3 a4 h = some hr) : MC Z yX12_sees cX12_sees 5 none 0 [.ref (Z.2.1 0), .int a1, .int a2, .int a3, .int a4] h (none) hr := by
  unfold fX12_sees at hF
  refine mc_start (by decide) (Nat.le_of_ble_eq_true rfl) (fun G X E => ?_)
  refine j_aload_n (pc := 0) 0 X dX12_sees_0 rfl ?_
  refine j_getr (pc := 1) X dX12_sees_1 (hz _ sh_0) fl_X12_131 rfl ?_
  refine j_iconst (pc := 4) 0 X dX12_sees_4 rfl ?_
  refine j_iload_n (pc := 5) 1 X dX12_sees_5 rfl ?_
  refine j_iast (pc := 6) X dX12_sees_6 (hz _ sh_38) hF (fun h1 hF => ?_)
  refine j_aload_n (pc := 7) 0 X dX12_sees_7 rfl ?_
  refine j_getr (pc := 8) X dX12_sees_8 (hz _ sh_0) fl_X12_131 rfl ?_
  refine j_iconst (pc := 11) 1 X dX12_sees_11 rfl ?_
  refine j_iload_n (pc := 12) 2 X dX12_sees_12 rfl ?_
  refine j_iast (pc := 13) X dX12_sees_13 (hz _ sh_38) hF (fun h2 hF => ?_)
  refine j_aload_n (pc := 14) 0 X dX12_sees_14 rfl ?_
  refine j_getr (pc := 15) X dX12_sees_15 (hz _ sh_0) fl_X12_131 rfl ?_
  refine j_iconst (pc := 18) 2 X dX12_sees_18 rfl ?_
  refine j_iload_n (pc := 19) 3 X dX12_sees_19 rfl ?_
  refine j_iast (pc := 20) X dX12_sees_20 (hz _ sh_38) hF (fun h3 hF => ?_)
  refine j_aload_n (pc := 21) 0 X dX12_sees_21 rfl ?_
  refine j_getr (pc := 22) X dX12_sees_22 (hz _ sh_0) fl_X12_131 rfl ?_
  refine j_iconst (pc := 25) 3 X dX12_sees_25 rfl ?_
  refine j_iload (pc := 26) 4 X dX12_sees_26 rfl ?_
  refine j_iast (pc := 28) X dX12_sees_28 (hz _ sh_38) hF (fun h4 hF => ?_)
  exact j_vret (pc := 29) X E dX12_sees_29 hF
theorem dX12_diesBy_0 : decode cX12_diesBy 0 = .ok (.aload_n 0, 1) := by decide +kernel
theorem dX12_diesBy_1 : decode cX12_diesBy 1 = .ok (.iload_n 2, 1) := by decide +kernel
theorem dX12_diesBy_2 : decode cX12_diesBy 2 = .ok (.aload_n 0, 1) := by decide +kernel
theorem dX12_diesBy_3 : decode cX12_diesBy 3 = .ok (.getfield 52, 3) := by decide +kernel
theorem dX12_diesBy_6 : decode cX12_diesBy 6 = .ok (.bipush 10, 2) := by decide +kernel
theorem dX12_diesBy_8 : decode cX12_diesBy 8 = .ok (.aload_n 0, 1) := by decide +kernel
theorem dX12_diesBy_9 : decode cX12_diesBy 9 = .ok (.getfield 284, 3) := by decide +kernel
theorem dX12_diesBy_12 : decode cX12_diesBy 12 = .ok (.imul, 1) := by decide +kernel
theorem dX12_diesBy_13 : decode cX12_diesBy 13 = .ok (.iload_n 1, 1) := by decide +kernel
theorem dX12_diesBy_14 : decode cX12_diesBy 14 = .ok (.iadd, 1) := by decide +kernel
theorem dX12_diesBy_15 : decode cX12_diesBy 15 = .ok (.iaload, 1) := by decide +kernel
theorem dX12_diesBy_16 : decode cX12_diesBy 16 = .ok (.iload_n 2, 1) := by decide +kernel
theorem dX12_diesBy_17 : decode cX12_diesBy 17 = .ok (.iadd, 1) := by decide +kernel
theorem dX12_diesBy_18 : decode cX12_diesBy 18 = .ok (.iconst 0, 1) := by decide +kernel
theorem dX12_diesBy_19 : decode cX12_diesBy 19 = .ok (.iconst 0, 1) := by decide +kernel
theorem dX12_diesBy_20 : decode cX12_diesBy 20 = .ok (.invokevirtual 390, 3) := by decide +kernel
theorem dX12_diesBy_23 : decode cX12_diesBy 23 = .ok (.aload_n 0, 1) := by decide +kernel
theorem dX12_diesBy_24 : decode cX12_diesBy 24 = .ok (.iconst 0, 1) := by decide +kernel
theorem dX12_diesBy_25 : decode cX12_diesBy 25 = .ok (.iconst 0, 1) := by decide +kernel
theorem dX12_diesBy_26 : decode cX12_diesBy 26 = .ok (.bipush 100, 2) := by decide +kernel
theorem dX12_diesBy_28 : decode cX12_diesBy 28 = .ok (.invokevirtual 394, 3) := by decide +kernel
theorem dX12_diesBy_31 : decode cX12_diesBy 31 = .ok (.ireturn, 1) := by decide +kernel
def fX12_diesBy (a1 : Int32) (a2 : Int32) (h : Hp) : Option (Int32 × Hp) := ck (inb (((10 : Int32) * (h.1 0 18)) + a1) 20) (bv (fX12_sees a2 ((h.1 12 (ix (((10 : Int32) * (h.1 0 18)) + a1))) + a2) 0 0 h) (fun h1 => bi (fX12_says 0 0 100 h1) (fun w3 h2 => some (w3, h2))))
set_option maxRecDepth 20000 in
theorem tX12_diesBy (Z : ZT) (a1 : Int32) (a2 : Int32) (hz : HZM Z) (h : Hp) (r : Int32) (hr : Hp) (hF : fX12_diesBy a1 a2 h = some (r, hr)) : MC Z yX12_diesBy cX12_diesBy 3 (some .int) 2 [.ref (Z.2.1 0), .int a1, .int a2] h (some (.int r)) hr := by
  unfold fX12_diesBy at hF
  refine mc_start (by decide) (Nat.le_of_ble_eq_true rfl) (fun G X E => ?_)
  refine j_aload_n (pc := 0) 0 X dX12_diesBy_0 rfl ?_
  refine j_iload_n (pc := 1) 2 X dX12_diesBy_1 rfl ?_
  refine j_aload_n (pc := 2) 0 X dX12_diesBy_2 rfl ?_
  refine j_getr (pc := 3) X dX12_diesBy_3 (hz _ sh_0) fl_X12_52 rfl ?_
  refine j_bipush (pc := 6) 10 X dX12_diesBy_6 rfl ?_
  refine j_aload_n (pc := 8) 0 X dX12_diesBy_8 rfl ?_
  refine j_geti (pc := 9) X dX12_diesBy_9 (hz _ sh_0) fl_X12_284 rfl ?_
  refine j_imul (pc := 12) X dX12_diesBy_12 ?_
  refine j_iload_n (pc := 13) 1 X dX12_diesBy_13 rfl ?_
  refine j_iadd (pc := 14) X dX12_diesBy_14 ?_
  refine j_iald (pc := 15) X dX12_diesBy_15 (hz _ sh_12) hF (fun hF => ?_)
  refine j_iload_n (pc := 16) 2 X dX12_diesBy_16 rfl ?_
  refine j_iadd (pc := 17) X dX12_diesBy_17 ?_
  refine j_iconst (pc := 18) 0 X dX12_diesBy_18 rfl ?_
  refine j_iconst (pc := 19) 0 X dX12_diesBy_19 rfl ?_
  refine j_cVv (pc := 20) (As := [.int a2, .int ((h.1 12 (ix (((10 : Int32) * (h.1 0 18)) + a1))) + a2), .int 0, .int 0]) (rest := []) X dX12_diesBy_20 ml_X12_390 ck_X12_sees cv_X12_sees (hz _ sh_0) rfl (Nat.le_of_ble_eq_true rfl) rfl (Nat.le_of_ble_eq_true rfl) rfl hF (tX12_sees Z a2 ((h.1 12 (ix (((10 : Int32) * (h.1 0 18)) + a1))) + a2) 0 0 hz h) (fun h1 hF => ?_)
  refine j_aload_n (pc := 23) 0 X dX12_diesBy_23 rfl ?_
  refine j_iconst (pc := 24) 0 X dX12_diesBy_24 rfl ?_
  refine j_iconst (pc := 25) 0 X dX12_diesBy_25 rfl ?_
  refine j_bipush (pc := 26) 100 X dX12_diesBy_26 rfl ?_
  refine j_cVi (pc := 28) (As := [.int 0, .int 0, .int 100]) (rest := []) X dX12_diesBy_28 ml_X12_394 ck_X12_says cv_X12_says (hz _ sh_0) rfl (Nat.le_of_ble_eq_true rfl) rfl (Nat.le_of_ble_eq_true rfl) rfl hF (tX12_says Z 0 0 100 hz h1) (fun w3 h2 hF => ?_)
  exact j_iret (pc := 31) X E dX12_diesBy_31 hF
theorem dX12_feeOf_0 : decode cX12_feeOf 0 = .ok (.aload_n 0, 1) := by decide +kernel
theorem dX12_feeOf_1 : decode cX12_feeOf 1 = .ok (.iload_n 2, 1) := by decide +kernel
theorem dX12_feeOf_2 : decode cX12_feeOf 2 = .ok (.iconst 0, 1) := by decide +kernel
theorem dX12_feeOf_3 : decode cX12_feeOf 3 = .ok (.aload_n 0, 1) := by decide +kernel
theorem dX12_feeOf_4 : decode cX12_feeOf 4 = .ok (.getfield 76, 3) := by decide +kernel
theorem dX12_feeOf_7 : decode cX12_feeOf 7 = .ok (.bipush 10, 2) := by decide +kernel
theorem dX12_feeOf_9 : decode cX12_feeOf 9 = .ok (.aload_n 0, 1) := by decide +kernel
theorem dX12_feeOf_10 : decode cX12_feeOf 10 = .ok (.getfield 284, 3) := by decide +kernel
theorem dX12_feeOf_13 : decode cX12_feeOf 13 = .ok (.imul, 1) := by decide +kernel
theorem dX12_feeOf_14 : decode cX12_feeOf 14 = .ok (.iload_n 1, 1) := by decide +kernel
theorem dX12_feeOf_15 : decode cX12_feeOf 15 = .ok (.iadd, 1) := by decide +kernel
theorem dX12_feeOf_16 : decode cX12_feeOf 16 = .ok (.iaload, 1) := by decide +kernel
theorem dX12_feeOf_17 : decode cX12_feeOf 17 = .ok (.iconst 0, 1) := by decide +kernel
theorem dX12_feeOf_18 : decode cX12_feeOf 18 = .ok (.invokevirtual 390, 3) := by decide +kernel
theorem dX12_feeOf_21 : decode cX12_feeOf 21 = .ok (.aload_n 0, 1) := by decide +kernel
theorem dX12_feeOf_22 : decode cX12_feeOf 22 = .ok (.iconst 1, 1) := by decide +kernel
theorem dX12_feeOf_23 : decode cX12_feeOf 23 = .ok (.iconst 1, 1) := by decide +kernel
theorem dX12_feeOf_24 : decode cX12_feeOf 24 = .ok (.sipush 999, 3) := by decide +kernel
theorem dX12_feeOf_27 : decode cX12_feeOf 27 = .ok (.invokevirtual 394, 3) := by decide +kernel
theorem dX12_feeOf_30 : decode cX12_feeOf 30 = .ok (.ireturn, 1) := by decide +kernel
def fX12_feeOf (a1 : Int32) (a2 : Int32) (h : Hp) : Option (Int32 × Hp) := ck (inb (((10 : Int32) * (h.1 0 18)) + a1) 20) (bv (fX12_sees a2 0 (h.1 20 (ix (((10 : Int32) * (h.1 0 18)) + a1))) 0 h) (fun h1 => bi (fX12_says 1 1 999 h1) (fun w3 h2 => some (w3, h2))))
set_option maxRecDepth 20000 in
theorem tX12_feeOf (Z : ZT) (a1 : Int32) (a2 : Int32) (hz : HZM Z) (h : Hp) (r : Int32) (hr : Hp) (hF : fX12_feeOf a1 a2 h = some (r, hr)) : MC Z yX12_feeOf cX12_feeOf 3 (some .int) 2 [.ref (Z.2.1 0), .int a1, .int a2] h (some (.int r)) hr := by
  unfold fX12_feeOf at hF
  refine mc_start (by decide) (Nat.le_of_ble_eq_true rfl) (fun G X E => ?_)
  refine j_aload_n (pc := 0) 0 X dX12_feeOf_0 rfl ?_
  refine j_iload_n (pc := 1) 2 X dX12_feeOf_1 rfl ?_
  refine j_iconst (pc := 2) 0 X dX12_feeOf_2 rfl ?_
  refine j_aload_n (pc := 3) 0 X dX12_feeOf_3 rfl ?_
  refine j_getr (pc := 4) X dX12_feeOf_4 (hz _ sh_0) fl_X12_76 rfl ?_
  refine j_bipush (pc := 7) 10 X dX12_feeOf_7 rfl ?_
  refine j_aload_n (pc := 9) 0 X dX12_feeOf_9 rfl ?_
  refine j_geti (pc := 10) X dX12_feeOf_10 (hz _ sh_0) fl_X12_284 rfl ?_
  refine j_imul (pc := 13) X dX12_feeOf_13 ?_
  refine j_iload_n (pc := 14) 1 X dX12_feeOf_14 rfl ?_
  refine j_iadd (pc := 15) X dX12_feeOf_15 ?_
  refine j_iald (pc := 16) X dX12_feeOf_16 (hz _ sh_20) hF (fun hF => ?_)
  refine j_iconst (pc := 17) 0 X dX12_feeOf_17 rfl ?_
  refine j_cVv (pc := 18) (As := [.int a2, .int 0, .int (h.1 20 (ix (((10 : Int32) * (h.1 0 18)) + a1))), .int 0]) (rest := []) X dX12_feeOf_18 ml_X12_390 ck_X12_sees cv_X12_sees (hz _ sh_0) rfl (Nat.le_of_ble_eq_true rfl) rfl (Nat.le_of_ble_eq_true rfl) rfl hF (tX12_sees Z a2 0 (h.1 20 (ix (((10 : Int32) * (h.1 0 18)) + a1))) 0 hz h) (fun h1 hF => ?_)
  refine j_aload_n (pc := 21) 0 X dX12_feeOf_21 rfl ?_
  refine j_iconst (pc := 22) 1 X dX12_feeOf_22 rfl ?_
  refine j_iconst (pc := 23) 1 X dX12_feeOf_23 rfl ?_
  refine j_sipush (pc := 24) 999 X dX12_feeOf_24 rfl ?_
  refine j_cVi (pc := 27) (As := [.int 1, .int 1, .int 999]) (rest := []) X dX12_feeOf_27 ml_X12_394 ck_X12_says cv_X12_says (hz _ sh_0) rfl (Nat.le_of_ble_eq_true rfl) rfl (Nat.le_of_ble_eq_true rfl) rfl hF (tX12_says Z 1 1 999 hz h1) (fun w3 h2 hF => ?_)
  exact j_iret (pc := 30) X E dX12_feeOf_30 hF
theorem dX12_goodOf_0 : decode cX12_goodOf 0 = .ok (.aload_n 0, 1) := by decide +kernel
theorem dX12_goodOf_1 : decode cX12_goodOf 1 = .ok (.iload_n 2, 1) := by decide +kernel
theorem dX12_goodOf_2 : decode cX12_goodOf 2 = .ok (.iconst 0, 1) := by decide +kernel
theorem dX12_goodOf_3 : decode cX12_goodOf 3 = .ok (.aload_n 0, 1) := by decide +kernel
theorem dX12_goodOf_4 : decode cX12_goodOf 4 = .ok (.getfield 76, 3) := by decide +kernel
theorem dX12_goodOf_7 : decode cX12_goodOf 7 = .ok (.bipush 10, 2) := by decide +kernel
theorem dX12_goodOf_9 : decode cX12_goodOf 9 = .ok (.aload_n 0, 1) := by decide +kernel
theorem dX12_goodOf_10 : decode cX12_goodOf 10 = .ok (.getfield 284, 3) := by decide +kernel
theorem dX12_goodOf_13 : decode cX12_goodOf 13 = .ok (.imul, 1) := by decide +kernel
theorem dX12_goodOf_14 : decode cX12_goodOf 14 = .ok (.iload_n 1, 1) := by decide +kernel
theorem dX12_goodOf_15 : decode cX12_goodOf 15 = .ok (.iadd, 1) := by decide +kernel
theorem dX12_goodOf_16 : decode cX12_goodOf 16 = .ok (.iaload, 1) := by decide +kernel
theorem dX12_goodOf_17 : decode cX12_goodOf 17 = .ok (.iload_n 3, 1) := by decide +kernel
theorem dX12_goodOf_18 : decode cX12_goodOf 18 = .ok (.invokevirtual 390, 3) := by decide +kernel
theorem dX12_goodOf_21 : decode cX12_goodOf 21 = .ok (.aload_n 0, 1) := by decide +kernel
theorem dX12_goodOf_22 : decode cX12_goodOf 22 = .ok (.iconst 2, 1) := by decide +kernel
theorem dX12_goodOf_23 : decode cX12_goodOf 23 = .ok (.iconst 0, 1) := by decide +kernel
theorem dX12_goodOf_24 : decode cX12_goodOf 24 = .ok (.sipush 999, 3) := by decide +kernel
theorem dX12_goodOf_27 : decode cX12_goodOf 27 = .ok (.invokevirtual 394, 3) := by decide +kernel
theorem dX12_goodOf_30 : decode cX12_goodOf 30 = .ok (.ireturn, 1) := by decide +kernel
def fX12_goodOf (a1 : Int32) (a2 : Int32) (a3 : Int32) (h : Hp) : Option (Int32 × Hp) := ck (inb (((10 : Int32) * (h.1 0 18)) + a1) 20) (bv (fX12_sees a2 0 (h.1 20 (ix (((10 : Int32) * (h.1 0 18)) + a1))) a3 h) (fun h1 => bi (fX12_says 2 0 999 h1) (fun w3 h2 => some (w3, h2))))
set_option maxRecDepth 20000 in
theorem tX12_goodOf (Z : ZT) (a1 : Int32) (a2 : Int32) (a3 : Int32) (hz : HZM Z) (h : Hp) (r : Int32) (hr : Hp) (hF : fX12_goodOf a1 a2 a3 h = some (r, hr)) : MC Z yX12_goodOf cX12_goodOf 4 (some .int) 2 [.ref (Z.2.1 0), .int a1, .int a2, .int a3] h (some (.int r)) hr := by
  unfold fX12_goodOf at hF
  refine mc_start (by decide) (Nat.le_of_ble_eq_true rfl) (fun G X E => ?_)
  refine j_aload_n (pc := 0) 0 X dX12_goodOf_0 rfl ?_
  refine j_iload_n (pc := 1) 2 X dX12_goodOf_1 rfl ?_
  refine j_iconst (pc := 2) 0 X dX12_goodOf_2 rfl ?_
  refine j_aload_n (pc := 3) 0 X dX12_goodOf_3 rfl ?_
  refine j_getr (pc := 4) X dX12_goodOf_4 (hz _ sh_0) fl_X12_76 rfl ?_
  refine j_bipush (pc := 7) 10 X dX12_goodOf_7 rfl ?_
  refine j_aload_n (pc := 9) 0 X dX12_goodOf_9 rfl ?_
  refine j_geti (pc := 10) X dX12_goodOf_10 (hz _ sh_0) fl_X12_284 rfl ?_
  refine j_imul (pc := 13) X dX12_goodOf_13 ?_
  refine j_iload_n (pc := 14) 1 X dX12_goodOf_14 rfl ?_
  refine j_iadd (pc := 15) X dX12_goodOf_15 ?_
  refine j_iald (pc := 16) X dX12_goodOf_16 (hz _ sh_20) hF (fun hF => ?_)
  refine j_iload_n (pc := 17) 3 X dX12_goodOf_17 rfl ?_
  refine j_cVv (pc := 18) (As := [.int a2, .int 0, .int (h.1 20 (ix (((10 : Int32) * (h.1 0 18)) + a1))), .int a3]) (rest := []) X dX12_goodOf_18 ml_X12_390 ck_X12_sees cv_X12_sees (hz _ sh_0) rfl (Nat.le_of_ble_eq_true rfl) rfl (Nat.le_of_ble_eq_true rfl) rfl hF (tX12_sees Z a2 0 (h.1 20 (ix (((10 : Int32) * (h.1 0 18)) + a1))) a3 hz h) (fun h1 hF => ?_)
  refine j_aload_n (pc := 21) 0 X dX12_goodOf_21 rfl ?_
  refine j_iconst (pc := 22) 2 X dX12_goodOf_22 rfl ?_
  refine j_iconst (pc := 23) 0 X dX12_goodOf_23 rfl ?_
  refine j_sipush (pc := 24) 999 X dX12_goodOf_24 rfl ?_
  refine j_cVi (pc := 27) (As := [.int 2, .int 0, .int 999]) (rest := []) X dX12_goodOf_27 ml_X12_394 ck_X12_says cv_X12_says (hz _ sh_0) rfl (Nat.le_of_ble_eq_true rfl) rfl (Nat.le_of_ble_eq_true rfl) rfl hF (tX12_says Z 2 0 999 hz h1) (fun w3 h2 hF => ?_)
  exact j_iret (pc := 30) X E dX12_goodOf_30 hF
theorem dX12_holdsFor_0 : decode cX12_holdsFor 0 = .ok (.bipush 10, 2) := by decide +kernel
theorem dX12_holdsFor_2 : decode cX12_holdsFor 2 = .ok (.aload_n 0, 1) := by decide +kernel
theorem dX12_holdsFor_3 : decode cX12_holdsFor 3 = .ok (.getfield 284, 3) := by decide +kernel
theorem dX12_holdsFor_6 : decode cX12_holdsFor 6 = .ok (.imul, 1) := by decide +kernel
theorem dX12_holdsFor_7 : decode cX12_holdsFor 7 = .ok (.iload_n 1, 1) := by decide +kernel
theorem dX12_holdsFor_8 : decode cX12_holdsFor 8 = .ok (.iadd, 1) := by decide +kernel
theorem dX12_holdsFor_9 : decode cX12_holdsFor 9 = .ok (.istore 5, 2) := by decide +kernel
theorem dX12_holdsFor_11 : decode cX12_holdsFor 11 = .ok (.aload_n 0, 1) := by decide +kernel
theorem dX12_holdsFor_12 : decode cX12_holdsFor 12 = .ok (.getfield 85, 3) := by decide +kernel
theorem dX12_holdsFor_15 : decode cX12_holdsFor 15 = .ok (.iload 5, 2) := by decide +kernel
theorem dX12_holdsFor_17 : decode cX12_holdsFor 17 = .ok (.iaload, 1) := by decide +kernel
theorem dX12_holdsFor_18 : decode cX12_holdsFor 18 = .ok (.aload_n 0, 1) := by decide +kernel
theorem dX12_holdsFor_19 : decode cX12_holdsFor 19 = .ok (.getfield 88, 3) := by decide +kernel
theorem dX12_holdsFor_22 : decode cX12_holdsFor 22 = .ok (.iload 5, 2) := by decide +kernel
theorem dX12_holdsFor_24 : decode cX12_holdsFor 24 = .ok (.iaload, 1) := by decide +kernel
theorem dX12_holdsFor_25 : decode cX12_holdsFor 25 = .ok (.if_icmp .ne 5, 3) := by decide +kernel
theorem dX12_holdsFor_28 : decode cX12_holdsFor 28 = .ok (.iconst 1, 1) := by decide +kernel
theorem dX12_holdsFor_29 : decode cX12_holdsFor 29 = .ok (.ireturn, 1) := by decide +kernel
theorem dX12_holdsFor_30 : decode cX12_holdsFor 30 = .ok (.aload_n 0, 1) := by decide +kernel
theorem dX12_holdsFor_31 : decode cX12_holdsFor 31 = .ok (.iload_n 2, 1) := by decide +kernel
theorem dX12_holdsFor_32 : decode cX12_holdsFor 32 = .ok (.iconst 0, 1) := by decide +kernel
theorem dX12_holdsFor_33 : decode cX12_holdsFor 33 = .ok (.iconst 0, 1) := by decide +kernel
theorem dX12_holdsFor_34 : decode cX12_holdsFor 34 = .ok (.iconst 0, 1) := by decide +kernel
theorem dX12_holdsFor_35 : decode cX12_holdsFor 35 = .ok (.invokevirtual 390, 3) := by decide +kernel
theorem dX12_holdsFor_38 : decode cX12_holdsFor 38 = .ok (.aload_n 0, 1) := by decide +kernel
theorem dX12_holdsFor_39 : decode cX12_holdsFor 39 = .ok (.iload_n 3, 1) := by decide +kernel
theorem dX12_holdsFor_40 : decode cX12_holdsFor 40 = .ok (.putfield 371, 3) := by decide +kernel
theorem dX12_holdsFor_43 : decode cX12_holdsFor 43 = .ok (.aload_n 0, 1) := by decide +kernel
theorem dX12_holdsFor_44 : decode cX12_holdsFor 44 = .ok (.iload 4, 2) := by decide +kernel
theorem dX12_holdsFor_46 : decode cX12_holdsFor 46 = .ok (.putfield 374, 3) := by decide +kernel
theorem dX12_holdsFor_49 : decode cX12_holdsFor 49 = .ok (.aload_n 0, 1) := by decide +kernel
theorem dX12_holdsFor_50 : decode cX12_holdsFor 50 = .ok (.iload 5, 2) := by decide +kernel
theorem dX12_holdsFor_52 : decode cX12_holdsFor 52 = .ok (.invokevirtual 397, 3) := by decide +kernel
theorem dX12_holdsFor_55 : decode cX12_holdsFor 55 = .ok (.ireturn, 1) := by decide +kernel
def fX12_holdsFor (a1 : Int32) (a2 : Int32) (a3 : Int32) (a4 : Int32) (h : Hp) : Option (Int32 × Hp) := lt (((10 : Int32) * (h.1 0 18)) + a1) (fun v1 => ck (inb v1 20) (ck (inb v1 20) ((if (h.1 23 (ix v1)) = (h.1 24 (ix v1)) then ck (zb 1) (some (1, h)) else bv (fX12_sees a2 0 0 0 h) (fun h2 => lt (wI h2 0 57 a3) (fun h3 => lt (wI h3 0 58 a4) (fun h4 => bi (fX12_holdsRule v1 h4) (fun w6 h5 => ck (zb w6) (some (w6, h5))))))))))
set_option maxRecDepth 20000 in
theorem tX12_holdsFor (Z : ZT) (a1 : Int32) (a2 : Int32) (a3 : Int32) (a4 : Int32) (hz : HZM Z) (h : Hp) (r : Int32) (hr : Hp) (hF : fX12_holdsFor a1 a2 a3 a4 h = some (r, hr)) : MC Z yX12_holdsFor cX12_holdsFor 6 (some .boolean) 3 [.ref (Z.2.1 0), .int a1, .int a2, .int a3, .int a4] h (some (.int r)) hr := by
  unfold fX12_holdsFor at hF
  refine mc_start (by decide) (Nat.le_of_ble_eq_true rfl) (fun G X E => ?_)
  refine j_bipush (pc := 0) 10 X dX12_holdsFor_0 rfl ?_
  refine j_aload_n (pc := 2) 0 X dX12_holdsFor_2 rfl ?_
  refine j_geti (pc := 3) X dX12_holdsFor_3 (hz _ sh_0) fl_X12_284 rfl ?_
  refine j_imul (pc := 6) X dX12_holdsFor_6 ?_
  refine j_iload_n (pc := 7) 1 X dX12_holdsFor_7 rfl ?_
  refine j_iadd (pc := 8) X dX12_holdsFor_8 ?_
  refine j_istore (pc := 9) (fun y => [(5, .int y), (0, .ref (Z.2.1 0)), (1, .int a1), (2, .int a2), (3, .int a3), (4, .int a4)]) X dX12_holdsFor_9 (by decide) (fun _ => rfl) hF (fun v1 hF => ?_)
  refine j_aload_n (pc := 11) 1 X dX12_holdsFor_11 rfl ?_
  refine j_getr (pc := 12) X dX12_holdsFor_12 (hz _ sh_0) fl_X12_85 rfl ?_
  refine j_iload (pc := 15) 0 X dX12_holdsFor_15 rfl ?_
  refine j_iald (pc := 17) X dX12_holdsFor_17 (hz _ sh_23) hF (fun hF => ?_)
  refine j_aload_n (pc := 18) 1 X dX12_holdsFor_18 rfl ?_
  refine j_getr (pc := 19) X dX12_holdsFor_19 (hz _ sh_0) fl_X12_88 rfl ?_
  refine j_iload (pc := 22) 0 X dX12_holdsFor_22 rfl ?_
  refine j_iald (pc := 24) X dX12_holdsFor_24 (hz _ sh_24) hF (fun hF => ?_)
  refine j_icmp_ne (pc := 25) 30 X dX12_holdsFor_25 rfl hF (fun hF => ?_) (fun hF => ?_)
  · refine j_aload_n (pc := 30) 1 X dX12_holdsFor_30 rfl ?_
    refine j_iload_n (pc := 31) 3 X dX12_holdsFor_31 rfl ?_
    refine j_iconst (pc := 32) 0 X dX12_holdsFor_32 rfl ?_
    refine j_iconst (pc := 33) 0 X dX12_holdsFor_33 rfl ?_
    refine j_iconst (pc := 34) 0 X dX12_holdsFor_34 rfl ?_
    refine j_cVv (pc := 35) (As := [.int a2, .int 0, .int 0, .int 0]) (rest := []) X dX12_holdsFor_35 ml_X12_390 ck_X12_sees cv_X12_sees (hz _ sh_0) rfl (Nat.le_of_ble_eq_true rfl) rfl (Nat.le_of_ble_eq_true rfl) rfl hF (tX12_sees Z a2 0 0 0 hz h) (fun h2 hF => ?_)
    refine j_aload_n (pc := 38) 1 X dX12_holdsFor_38 rfl ?_
    refine j_iload_n (pc := 39) 4 X dX12_holdsFor_39 rfl ?_
    refine j_puti (pc := 40) X dX12_holdsFor_40 (hz _ sh_0) fp_X12_371 rfl hF (fun h3 hF => ?_)
    refine j_aload_n (pc := 43) 1 X dX12_holdsFor_43 rfl ?_
    refine j_iload (pc := 44) 5 X dX12_holdsFor_44 rfl ?_
    refine j_puti (pc := 46) X dX12_holdsFor_46 (hz _ sh_0) fp_X12_374 rfl hF (fun h4 hF => ?_)
    refine j_aload_n (pc := 49) 1 X dX12_holdsFor_49 rfl ?_
    refine j_iload (pc := 50) 0 X dX12_holdsFor_50 rfl ?_
    refine j_cVi (pc := 52) (As := [.int v1]) (rest := []) X dX12_holdsFor_52 ml_X12_397 ck_X12_holdsRule cv_X12_holdsRule (hz _ sh_0) rfl (Nat.le_of_ble_eq_true rfl) rfl (Nat.le_of_ble_eq_true rfl) rfl hF (tX12_holdsRule Z v1 hz h4) (fun w6 h5 hF => ?_)
    exact j_zret (pc := 55) X E dX12_holdsFor_55 hF
  · refine j_iconst (pc := 28) 1 X dX12_holdsFor_28 rfl ?_
    exact j_zret (pc := 29) X E dX12_holdsFor_29 hF
theorem dX12_letter_0 : decode cX12_letter 0 = .ok (.aload_n 0, 1) := by decide +kernel
theorem dX12_letter_1 : decode cX12_letter 1 = .ok (.iload_n 1, 1) := by decide +kernel
theorem dX12_letter_2 : decode cX12_letter 2 = .ok (.invokevirtual 400, 3) := by decide +kernel
theorem dX12_letter_5 : decode cX12_letter 5 = .ok (.ifCond .ne 5, 3) := by decide +kernel
theorem dX12_letter_8 : decode cX12_letter 8 = .ok (.iconst (-1), 1) := by decide +kernel
theorem dX12_letter_9 : decode cX12_letter 9 = .ok (.ireturn, 1) := by decide +kernel
theorem dX12_letter_10 : decode cX12_letter 10 = .ok (.iload_n 2, 1) := by decide +kernel
theorem dX12_letter_11 : decode cX12_letter 11 = .ok (.tableswitch 90 0 4 #[33, 39, 45, 60, 75], 33) := by decide +kernel
theorem dX12_letter_44 : decode cX12_letter 44 = .ok (.aload_n 0, 1) := by decide +kernel
theorem dX12_letter_45 : decode cX12_letter 45 = .ok (.iload_n 1, 1) := by decide +kernel
theorem dX12_letter_46 : decode cX12_letter 46 = .ok (.invokevirtual 403, 3) := by decide +kernel
theorem dX12_letter_49 : decode cX12_letter 49 = .ok (.ireturn, 1) := by decide +kernel
theorem dX12_letter_50 : decode cX12_letter 50 = .ok (.aload_n 0, 1) := by decide +kernel
theorem dX12_letter_51 : decode cX12_letter 51 = .ok (.iload_n 1, 1) := by decide +kernel
theorem dX12_letter_52 : decode cX12_letter 52 = .ok (.invokevirtual 406, 3) := by decide +kernel
theorem dX12_letter_55 : decode cX12_letter 55 = .ok (.ireturn, 1) := by decide +kernel
theorem dX12_letter_56 : decode cX12_letter 56 = .ok (.aload_n 0, 1) := by decide +kernel
theorem dX12_letter_57 : decode cX12_letter 57 = .ok (.getfield 76, 3) := by decide +kernel
theorem dX12_letter_60 : decode cX12_letter 60 = .ok (.bipush 10, 2) := by decide +kernel
theorem dX12_letter_62 : decode cX12_letter 62 = .ok (.aload_n 0, 1) := by decide +kernel
theorem dX12_letter_63 : decode cX12_letter 63 = .ok (.getfield 284, 3) := by decide +kernel
theorem dX12_letter_66 : decode cX12_letter 66 = .ok (.imul, 1) := by decide +kernel
theorem dX12_letter_67 : decode cX12_letter 67 = .ok (.iload_n 1, 1) := by decide +kernel
theorem dX12_letter_68 : decode cX12_letter 68 = .ok (.iadd, 1) := by decide +kernel
theorem dX12_letter_69 : decode cX12_letter 69 = .ok (.iaload, 1) := by decide +kernel
theorem dX12_letter_70 : decode cX12_letter 70 = .ok (.ireturn, 1) := by decide +kernel
theorem dX12_letter_71 : decode cX12_letter 71 = .ok (.aload_n 0, 1) := by decide +kernel
theorem dX12_letter_72 : decode cX12_letter 72 = .ok (.getfield 79, 3) := by decide +kernel
theorem dX12_letter_75 : decode cX12_letter 75 = .ok (.bipush 10, 2) := by decide +kernel
theorem dX12_letter_77 : decode cX12_letter 77 = .ok (.aload_n 0, 1) := by decide +kernel
theorem dX12_letter_78 : decode cX12_letter 78 = .ok (.getfield 284, 3) := by decide +kernel
theorem dX12_letter_81 : decode cX12_letter 81 = .ok (.imul, 1) := by decide +kernel
theorem dX12_letter_82 : decode cX12_letter 82 = .ok (.iload_n 1, 1) := by decide +kernel
theorem dX12_letter_83 : decode cX12_letter 83 = .ok (.iadd, 1) := by decide +kernel
theorem dX12_letter_84 : decode cX12_letter 84 = .ok (.iaload, 1) := by decide +kernel
theorem dX12_letter_85 : decode cX12_letter 85 = .ok (.ireturn, 1) := by decide +kernel
theorem dX12_letter_86 : decode cX12_letter 86 = .ok (.aload_n 0, 1) := by decide +kernel
theorem dX12_letter_87 : decode cX12_letter 87 = .ok (.getfield 82, 3) := by decide +kernel
theorem dX12_letter_90 : decode cX12_letter 90 = .ok (.bipush 10, 2) := by decide +kernel
theorem dX12_letter_92 : decode cX12_letter 92 = .ok (.aload_n 0, 1) := by decide +kernel
theorem dX12_letter_93 : decode cX12_letter 93 = .ok (.getfield 284, 3) := by decide +kernel
theorem dX12_letter_96 : decode cX12_letter 96 = .ok (.imul, 1) := by decide +kernel
theorem dX12_letter_97 : decode cX12_letter 97 = .ok (.iload_n 1, 1) := by decide +kernel
theorem dX12_letter_98 : decode cX12_letter 98 = .ok (.iadd, 1) := by decide +kernel
theorem dX12_letter_99 : decode cX12_letter 99 = .ok (.iaload, 1) := by decide +kernel
theorem dX12_letter_100 : decode cX12_letter 100 = .ok (.ireturn, 1) := by decide +kernel
theorem dX12_letter_101 : decode cX12_letter 101 = .ok (.iconst (-1), 1) := by decide +kernel
theorem dX12_letter_102 : decode cX12_letter 102 = .ok (.ireturn, 1) := by decide +kernel
def fX12_letter (a1 : Int32) (a2 : Int32) (h : Hp) : Option (Int32 × Hp) := bi (fX12_hasLetter a1 h) (fun w2 h1 => (if w2 = 0 then some ((-1), h1) else (if a2.toInt < 0 ∨ 4 < a2.toInt then some ((-1), h1) else if a2 = 0 then bi (fX12_writer a1 h1) (fun w4 h3 => some (w4, h3)) else if a2 = 1 then bi (fX12_reader a1 h1) (fun w6 h5 => some (w6, h5)) else if a2 = 2 then ck (inb (((10 : Int32) * (h1.1 0 18)) + a1) 20) (some ((h1.1 20 (ix (((10 : Int32) * (h1.1 0 18)) + a1))), h1)) else if a2 = 3 then ck (inb (((10 : Int32) * (h1.1 0 18)) + a1) 20) (some ((h1.1 21 (ix (((10 : Int32) * (h1.1 0 18)) + a1))), h1)) else if a2 = 4 then ck (inb (((10 : Int32) * (h1.1 0 18)) + a1) 20) (some ((h1.1 22 (ix (((10 : Int32) * (h1.1 0 18)) + a1))), h1)) else none)))
set_option maxRecDepth 20000 in
theorem tX12_letter (Z : ZT) (a1 : Int32) (a2 : Int32) (hz : HZM Z) (h : Hp) (r : Int32) (hr : Hp) (hF : fX12_letter a1 a2 h = some (r, hr)) : MC Z yX12_letter cX12_letter 3 (some .int) 2 [.ref (Z.2.1 0), .int a1, .int a2] h (some (.int r)) hr := by
  unfold fX12_letter at hF
  refine mc_start (by decide) (Nat.le_of_ble_eq_true rfl) (fun G X E => ?_)
  refine j_aload_n (pc := 0) 0 X dX12_letter_0 rfl ?_
  refine j_iload_n (pc := 1) 1 X dX12_letter_1 rfl ?_
  refine j_cVi (pc := 2) (As := [.int a1]) (rest := []) X dX12_letter_2 ml_X12_400 ck_X12_hasLetter cv_X12_hasLetter (hz _ sh_0) rfl (Nat.le_of_ble_eq_true rfl) rfl (Nat.le_of_ble_eq_true rfl) rfl hF (tX12_hasLetter Z a1 hz h) (fun w2 h1 hF => ?_)
  refine j_if_ne (pc := 5) 10 X dX12_letter_5 rfl hF (fun hF => ?_) (fun hF => ?_)
  · refine j_iload_n (pc := 10) 2 X dX12_letter_10 rfl ?_
    refine j_tab (pc := 11) (tgt := 101) X dX12_letter_11 rfl hF (fun hF => ?_) (fun hF => ?_)
    · refine j_iconst (pc := 101) (-1) X dX12_letter_101 rfl ?_
      exact j_iret (pc := 102) X E dX12_letter_102 hF
    refine j_tabi (pc := 11) (v := 0) (tgt := 44) X dX12_letter_11 rfl rfl rfl rfl hF (fun hF => ?_) (fun hF => ?_)
    · refine j_aload_n (pc := 44) 0 X dX12_letter_44 rfl ?_
      refine j_iload_n (pc := 45) 1 X dX12_letter_45 rfl ?_
      refine j_cVi (pc := 46) (As := [.int a1]) (rest := []) X dX12_letter_46 ml_X12_403 ck_X12_writer cv_X12_writer (hz _ sh_0) rfl (Nat.le_of_ble_eq_true rfl) rfl (Nat.le_of_ble_eq_true rfl) rfl hF (tX12_writer Z a1 hz h1) (fun w4 h3 hF => ?_)
      exact j_iret (pc := 49) X E dX12_letter_49 hF
    refine j_tabi (pc := 11) (v := 1) (tgt := 50) X dX12_letter_11 rfl rfl rfl rfl hF (fun hF => ?_) (fun hF => ?_)
    · refine j_aload_n (pc := 50) 0 X dX12_letter_50 rfl ?_
      refine j_iload_n (pc := 51) 1 X dX12_letter_51 rfl ?_
      refine j_cVi (pc := 52) (As := [.int a1]) (rest := []) X dX12_letter_52 ml_X12_406 ck_X12_reader cv_X12_reader (hz _ sh_0) rfl (Nat.le_of_ble_eq_true rfl) rfl (Nat.le_of_ble_eq_true rfl) rfl hF (tX12_reader Z a1 hz h1) (fun w6 h5 hF => ?_)
      exact j_iret (pc := 55) X E dX12_letter_55 hF
    refine j_tabi (pc := 11) (v := 2) (tgt := 56) X dX12_letter_11 rfl rfl rfl rfl hF (fun hF => ?_) (fun hF => ?_)
    · refine j_aload_n (pc := 56) 0 X dX12_letter_56 rfl ?_
      refine j_getr (pc := 57) X dX12_letter_57 (hz _ sh_0) fl_X12_76 rfl ?_
      refine j_bipush (pc := 60) 10 X dX12_letter_60 rfl ?_
      refine j_aload_n (pc := 62) 0 X dX12_letter_62 rfl ?_
      refine j_geti (pc := 63) X dX12_letter_63 (hz _ sh_0) fl_X12_284 rfl ?_
      refine j_imul (pc := 66) X dX12_letter_66 ?_
      refine j_iload_n (pc := 67) 1 X dX12_letter_67 rfl ?_
      refine j_iadd (pc := 68) X dX12_letter_68 ?_
      refine j_iald (pc := 69) X dX12_letter_69 (hz _ sh_20) hF (fun hF => ?_)
      exact j_iret (pc := 70) X E dX12_letter_70 hF
    refine j_tabi (pc := 11) (v := 3) (tgt := 71) X dX12_letter_11 rfl rfl rfl rfl hF (fun hF => ?_) (fun hF => ?_)
    · refine j_aload_n (pc := 71) 0 X dX12_letter_71 rfl ?_
      refine j_getr (pc := 72) X dX12_letter_72 (hz _ sh_0) fl_X12_79 rfl ?_
      refine j_bipush (pc := 75) 10 X dX12_letter_75 rfl ?_
      refine j_aload_n (pc := 77) 0 X dX12_letter_77 rfl ?_
      refine j_geti (pc := 78) X dX12_letter_78 (hz _ sh_0) fl_X12_284 rfl ?_
      refine j_imul (pc := 81) X dX12_letter_81 ?_
      refine j_iload_n (pc := 82) 1 X dX12_letter_82 rfl ?_
      refine j_iadd (pc := 83) X dX12_letter_83 ?_
      refine j_iald (pc := 84) X dX12_letter_84 (hz _ sh_21) hF (fun hF => ?_)
      exact j_iret (pc := 85) X E dX12_letter_85 hF
    refine j_tabi (pc := 11) (v := 4) (tgt := 86) X dX12_letter_11 rfl rfl rfl rfl hF (fun hF => ?_) (fun hF => ?_)
    · refine j_aload_n (pc := 86) 0 X dX12_letter_86 rfl ?_
      refine j_getr (pc := 87) X dX12_letter_87 (hz _ sh_0) fl_X12_82 rfl ?_
      refine j_bipush (pc := 90) 10 X dX12_letter_90 rfl ?_
      refine j_aload_n (pc := 92) 0 X dX12_letter_92 rfl ?_
      refine j_geti (pc := 93) X dX12_letter_93 (hz _ sh_0) fl_X12_284 rfl ?_
      refine j_imul (pc := 96) X dX12_letter_96 ?_
      refine j_iload_n (pc := 97) 1 X dX12_letter_97 rfl ?_
      refine j_iadd (pc := 98) X dX12_letter_98 ?_
      refine j_iald (pc := 99) X dX12_letter_99 (hz _ sh_22) hF (fun hF => ?_)
      exact j_iret (pc := 100) X E dX12_letter_100 hF
    cases hF
  · refine j_iconst (pc := 8) (-1) X dX12_letter_8 rfl ?_
    exact j_iret (pc := 9) X E dX12_letter_9 hF
theorem dX12_dies_0 : decode cX12_dies 0 = .ok (.aload_n 0, 1) := by decide +kernel
theorem dX12_dies_1 : decode cX12_dies 1 = .ok (.iload_n 1, 1) := by decide +kernel
theorem dX12_dies_2 : decode cX12_dies 2 = .ok (.invokevirtual 409, 3) := by decide +kernel
theorem dX12_dies_5 : decode cX12_dies 5 = .ok (.ifCond .eq 19, 3) := by decide +kernel
theorem dX12_dies_8 : decode cX12_dies 8 = .ok (.iload_n 2, 1) := by decide +kernel
theorem dX12_dies_9 : decode cX12_dies 9 = .ok (.invokestatic 412, 3) := by decide +kernel
theorem dX12_dies_12 : decode cX12_dies 12 = .ok (.ifCond .eq 12, 3) := by decide +kernel
theorem dX12_dies_15 : decode cX12_dies 15 = .ok (.aload_n 0, 1) := by decide +kernel
theorem dX12_dies_16 : decode cX12_dies 16 = .ok (.iload_n 1, 1) := by decide +kernel
theorem dX12_dies_17 : decode cX12_dies 17 = .ok (.iload_n 2, 1) := by decide +kernel
theorem dX12_dies_18 : decode cX12_dies 18 = .ok (.invokevirtual 415, 3) := by decide +kernel
theorem dX12_dies_21 : decode cX12_dies 21 = .ok (.goto 4, 3) := by decide +kernel
theorem dX12_dies_24 : decode cX12_dies 24 = .ok (.iconst (-1), 1) := by decide +kernel
theorem dX12_dies_25 : decode cX12_dies 25 = .ok (.ireturn, 1) := by decide +kernel
def fX12_dies (a1 : Int32) (a2 : Int32) (h : Hp) : Option (Int32 × Hp) := bi (fX12_isPerson a1 h) (fun w2 h1 => (if w2 = 0 then some ((-1), h1) else bi (fX12_isYear a2 h1) (fun w4 h3 => (if w4 = 0 then some ((-1), h3) else bi (fX12_diesBy a1 a2 h3) (fun w6 h5 => some (w6, h5))))))
set_option maxRecDepth 20000 in
theorem tX12_dies (Z : ZT) (a1 : Int32) (a2 : Int32) (hz : HZM Z) (h : Hp) (r : Int32) (hr : Hp) (hF : fX12_dies a1 a2 h = some (r, hr)) : MC Z yX12_dies cX12_dies 3 (some .int) 3 [.ref (Z.2.1 0), .int a1, .int a2] h (some (.int r)) hr := by
  unfold fX12_dies at hF
  refine mc_start (by decide) (Nat.le_of_ble_eq_true rfl) (fun G X E => ?_)
  refine j_aload_n (pc := 0) 0 X dX12_dies_0 rfl ?_
  refine j_iload_n (pc := 1) 1 X dX12_dies_1 rfl ?_
  refine j_cVi (pc := 2) (As := [.int a1]) (rest := []) X dX12_dies_2 ml_X12_409 ck_X12_isPerson cv_X12_isPerson (hz _ sh_0) rfl (Nat.le_of_ble_eq_true rfl) rfl (Nat.le_of_ble_eq_true rfl) rfl hF (tX12_isPerson Z a1 hz h) (fun w2 h1 hF => ?_)
  refine j_if_eq (pc := 5) 24 X dX12_dies_5 rfl hF (fun hF => ?_) (fun hF => ?_)
  · refine j_iconst (pc := 24) (-1) X dX12_dies_24 rfl ?_
    exact j_iret (pc := 25) X E dX12_dies_25 hF
  · refine j_iload_n (pc := 8) 2 X dX12_dies_8 rfl ?_
    refine j_cSi (pc := 9) (As := [.int a2]) (rest := []) X dX12_dies_9 ml_X12_412 ck_X12_isYear sk_X12_isYear (Nat.le_of_ble_eq_true rfl) rfl (Nat.le_of_ble_eq_true rfl) rfl hF (tX12_isYear Z a2 trivial h1) (fun w4 h3 hF => ?_)
    refine j_if_eq (pc := 12) 24 X dX12_dies_12 rfl hF (fun hF => ?_) (fun hF => ?_)
    · refine j_iconst (pc := 24) (-1) X dX12_dies_24 rfl ?_
      exact j_iret (pc := 25) X E dX12_dies_25 hF
    · refine j_aload_n (pc := 15) 0 X dX12_dies_15 rfl ?_
      refine j_iload_n (pc := 16) 1 X dX12_dies_16 rfl ?_
      refine j_iload_n (pc := 17) 2 X dX12_dies_17 rfl ?_
      refine j_cVi (pc := 18) (As := [.int a1, .int a2]) (rest := []) X dX12_dies_18 ml_X12_415 ck_X12_diesBy cv_X12_diesBy (hz _ sh_0) rfl (Nat.le_of_ble_eq_true rfl) rfl (Nat.le_of_ble_eq_true rfl) rfl hF (tX12_diesBy Z a1 a2 hz h3) (fun w6 h5 hF => ?_)
      refine j_goto (pc := 21) 25 X dX12_dies_21 rfl ?_
      exact j_iret (pc := 25) X E dX12_dies_25 hF
theorem dX12_fee_0 : decode cX12_fee 0 = .ok (.aload_n 0, 1) := by decide +kernel
theorem dX12_fee_1 : decode cX12_fee 1 = .ok (.iload_n 1, 1) := by decide +kernel
theorem dX12_fee_2 : decode cX12_fee 2 = .ok (.invokevirtual 400, 3) := by decide +kernel
theorem dX12_fee_5 : decode cX12_fee 5 = .ok (.ifCond .eq 19, 3) := by decide +kernel
theorem dX12_fee_8 : decode cX12_fee 8 = .ok (.iload_n 2, 1) := by decide +kernel
theorem dX12_fee_9 : decode cX12_fee 9 = .ok (.invokestatic 412, 3) := by decide +kernel
theorem dX12_fee_12 : decode cX12_fee 12 = .ok (.ifCond .eq 12, 3) := by decide +kernel
theorem dX12_fee_15 : decode cX12_fee 15 = .ok (.aload_n 0, 1) := by decide +kernel
theorem dX12_fee_16 : decode cX12_fee 16 = .ok (.iload_n 1, 1) := by decide +kernel
theorem dX12_fee_17 : decode cX12_fee 17 = .ok (.iload_n 2, 1) := by decide +kernel
theorem dX12_fee_18 : decode cX12_fee 18 = .ok (.invokevirtual 418, 3) := by decide +kernel
theorem dX12_fee_21 : decode cX12_fee 21 = .ok (.goto 4, 3) := by decide +kernel
theorem dX12_fee_24 : decode cX12_fee 24 = .ok (.iconst (-1), 1) := by decide +kernel
theorem dX12_fee_25 : decode cX12_fee 25 = .ok (.ireturn, 1) := by decide +kernel
def fX12_fee (a1 : Int32) (a2 : Int32) (h : Hp) : Option (Int32 × Hp) := bi (fX12_hasLetter a1 h) (fun w2 h1 => (if w2 = 0 then some ((-1), h1) else bi (fX12_isYear a2 h1) (fun w4 h3 => (if w4 = 0 then some ((-1), h3) else bi (fX12_feeOf a1 a2 h3) (fun w6 h5 => some (w6, h5))))))
set_option maxRecDepth 20000 in
theorem tX12_fee (Z : ZT) (a1 : Int32) (a2 : Int32) (hz : HZM Z) (h : Hp) (r : Int32) (hr : Hp) (hF : fX12_fee a1 a2 h = some (r, hr)) : MC Z yX12_fee cX12_fee 3 (some .int) 3 [.ref (Z.2.1 0), .int a1, .int a2] h (some (.int r)) hr := by
  unfold fX12_fee at hF
  refine mc_start (by decide) (Nat.le_of_ble_eq_true rfl) (fun G X E => ?_)
  refine j_aload_n (pc := 0) 0 X dX12_fee_0 rfl ?_
  refine j_iload_n (pc := 1) 1 X dX12_fee_1 rfl ?_
  refine j_cVi (pc := 2) (As := [.int a1]) (rest := []) X dX12_fee_2 ml_X12_400 ck_X12_hasLetter cv_X12_hasLetter (hz _ sh_0) rfl (Nat.le_of_ble_eq_true rfl) rfl (Nat.le_of_ble_eq_true rfl) rfl hF (tX12_hasLetter Z a1 hz h) (fun w2 h1 hF => ?_)
  refine j_if_eq (pc := 5) 24 X dX12_fee_5 rfl hF (fun hF => ?_) (fun hF => ?_)
  · refine j_iconst (pc := 24) (-1) X dX12_fee_24 rfl ?_
    exact j_iret (pc := 25) X E dX12_fee_25 hF
  · refine j_iload_n (pc := 8) 2 X dX12_fee_8 rfl ?_
    refine j_cSi (pc := 9) (As := [.int a2]) (rest := []) X dX12_fee_9 ml_X12_412 ck_X12_isYear sk_X12_isYear (Nat.le_of_ble_eq_true rfl) rfl (Nat.le_of_ble_eq_true rfl) rfl hF (tX12_isYear Z a2 trivial h1) (fun w4 h3 hF => ?_)
    refine j_if_eq (pc := 12) 24 X dX12_fee_12 rfl hF (fun hF => ?_) (fun hF => ?_)
    · refine j_iconst (pc := 24) (-1) X dX12_fee_24 rfl ?_
      exact j_iret (pc := 25) X E dX12_fee_25 hF
    · refine j_aload_n (pc := 15) 0 X dX12_fee_15 rfl ?_
      refine j_iload_n (pc := 16) 1 X dX12_fee_16 rfl ?_
      refine j_iload_n (pc := 17) 2 X dX12_fee_17 rfl ?_
      refine j_cVi (pc := 18) (As := [.int a1, .int a2]) (rest := []) X dX12_fee_18 ml_X12_418 ck_X12_feeOf cv_X12_feeOf (hz _ sh_0) rfl (Nat.le_of_ble_eq_true rfl) rfl (Nat.le_of_ble_eq_true rfl) rfl hF (tX12_feeOf Z a1 a2 hz h3) (fun w6 h5 hF => ?_)
      refine j_goto (pc := 21) 25 X dX12_fee_21 rfl ?_
      exact j_iret (pc := 25) X E dX12_fee_25 hF
theorem dX12_clerk_0 : decode cX12_clerk 0 = .ok (.iload_n 1, 1) := by decide +kernel
theorem dX12_clerk_1 : decode cX12_clerk 1 = .ok (.invokestatic 412, 3) := by decide +kernel
theorem dX12_clerk_4 : decode cX12_clerk 4 = .ok (.ifCond .ne 7, 3) := by decide +kernel
theorem dX12_clerk_7 : decode cX12_clerk 7 = .ok (.iconst (-1), 1) := by decide +kernel
theorem dX12_clerk_8 : decode cX12_clerk 8 = .ok (.goto 31, 3) := by decide +kernel
theorem dX12_clerk_11 : decode cX12_clerk 11 = .ok (.aload_n 0, 1) := by decide +kernel
theorem dX12_clerk_12 : decode cX12_clerk 12 = .ok (.getfield 55, 3) := by decide +kernel
theorem dX12_clerk_15 : decode cX12_clerk 15 = .ok (.aload_n 0, 1) := by decide +kernel
theorem dX12_clerk_16 : decode cX12_clerk 16 = .ok (.getfield 284, 3) := by decide +kernel
theorem dX12_clerk_19 : decode cX12_clerk 19 = .ok (.iaload, 1) := by decide +kernel
theorem dX12_clerk_20 : decode cX12_clerk 20 = .ok (.ifCond .ne 8, 3) := by decide +kernel
theorem dX12_clerk_23 : decode cX12_clerk 23 = .ok (.bipush (-2), 2) := by decide +kernel
theorem dX12_clerk_25 : decode cX12_clerk 25 = .ok (.goto 14, 3) := by decide +kernel
theorem dX12_clerk_28 : decode cX12_clerk 28 = .ok (.iload_n 1, 1) := by decide +kernel
theorem dX12_clerk_29 : decode cX12_clerk 29 = .ok (.aload_n 0, 1) := by decide +kernel
theorem dX12_clerk_30 : decode cX12_clerk 30 = .ok (.getfield 55, 3) := by decide +kernel
theorem dX12_clerk_33 : decode cX12_clerk 33 = .ok (.aload_n 0, 1) := by decide +kernel
theorem dX12_clerk_34 : decode cX12_clerk 34 = .ok (.getfield 284, 3) := by decide +kernel
theorem dX12_clerk_37 : decode cX12_clerk 37 = .ok (.iaload, 1) := by decide +kernel
theorem dX12_clerk_38 : decode cX12_clerk 38 = .ok (.irem, 1) := by decide +kernel
theorem dX12_clerk_39 : decode cX12_clerk 39 = .ok (.ireturn, 1) := by decide +kernel
def fX12_clerk (a1 : Int32) (h : Hp) : Option (Int32 × Hp) := bi (fX12_isYear a1 h) (fun w2 h1 => (if w2 = 0 then some ((-1), h1) else ck (inb (h1.1 0 18) 2) ((if (h1.1 13 (ix (h1.1 0 18))) = 0 then some ((-2), h1) else ck (inb (h1.1 0 18) 2) (ck (nz (h1.1 13 (ix (h1.1 0 18)))) (some ((a1 - a1 / (h1.1 13 (ix (h1.1 0 18))) * (h1.1 13 (ix (h1.1 0 18)))), h1)))))))
set_option maxRecDepth 20000 in
theorem tX12_clerk (Z : ZT) (a1 : Int32) (hz : HZM Z) (h : Hp) (r : Int32) (hr : Hp) (hF : fX12_clerk a1 h = some (r, hr)) : MC Z yX12_clerk cX12_clerk 2 (some .int) 2 [.ref (Z.2.1 0), .int a1] h (some (.int r)) hr := by
  unfold fX12_clerk at hF
  refine mc_start (by decide) (Nat.le_of_ble_eq_true rfl) (fun G X E => ?_)
  refine j_iload_n (pc := 0) 1 X dX12_clerk_0 rfl ?_
  refine j_cSi (pc := 1) (As := [.int a1]) (rest := []) X dX12_clerk_1 ml_X12_412 ck_X12_isYear sk_X12_isYear (Nat.le_of_ble_eq_true rfl) rfl (Nat.le_of_ble_eq_true rfl) rfl hF (tX12_isYear Z a1 trivial h) (fun w2 h1 hF => ?_)
  refine j_if_ne (pc := 4) 11 X dX12_clerk_4 rfl hF (fun hF => ?_) (fun hF => ?_)
  · refine j_aload_n (pc := 11) 0 X dX12_clerk_11 rfl ?_
    refine j_getr (pc := 12) X dX12_clerk_12 (hz _ sh_0) fl_X12_55 rfl ?_
    refine j_aload_n (pc := 15) 0 X dX12_clerk_15 rfl ?_
    refine j_geti (pc := 16) X dX12_clerk_16 (hz _ sh_0) fl_X12_284 rfl ?_
    refine j_iald (pc := 19) X dX12_clerk_19 (hz _ sh_13) hF (fun hF => ?_)
    refine j_if_ne (pc := 20) 28 X dX12_clerk_20 rfl hF (fun hF => ?_) (fun hF => ?_)
    · refine j_iload_n (pc := 28) 1 X dX12_clerk_28 rfl ?_
      refine j_aload_n (pc := 29) 0 X dX12_clerk_29 rfl ?_
      refine j_getr (pc := 30) X dX12_clerk_30 (hz _ sh_0) fl_X12_55 rfl ?_
      refine j_aload_n (pc := 33) 0 X dX12_clerk_33 rfl ?_
      refine j_geti (pc := 34) X dX12_clerk_34 (hz _ sh_0) fl_X12_284 rfl ?_
      refine j_iald (pc := 37) X dX12_clerk_37 (hz _ sh_13) hF (fun hF => ?_)
      refine j_irem (pc := 38) X dX12_clerk_38 hF (fun hF => ?_)
      exact j_iret (pc := 39) X E dX12_clerk_39 hF
    · refine j_bipush (pc := 23) (-2) X dX12_clerk_23 rfl ?_
      refine j_goto (pc := 25) 39 X dX12_clerk_25 rfl ?_
      exact j_iret (pc := 39) X E dX12_clerk_39 hF
  · refine j_iconst (pc := 7) (-1) X dX12_clerk_7 rfl ?_
    refine j_goto (pc := 8) 39 X dX12_clerk_8 rfl ?_
    exact j_iret (pc := 39) X E dX12_clerk_39 hF
theorem dX12_isBarred_0 : decode cX12_isBarred 0 = .ok (.iconst 0, 1) := by decide +kernel
theorem dX12_isBarred_1 : decode cX12_isBarred 1 = .ok (.istore_n 3, 1) := by decide +kernel
theorem dX12_isBarred_2 : decode cX12_isBarred 2 = .ok (.iload_n 3, 1) := by decide +kernel
theorem dX12_isBarred_3 : decode cX12_isBarred 3 = .ok (.aload_n 0, 1) := by decide +kernel
theorem dX12_isBarred_4 : decode cX12_isBarred 4 = .ok (.getfield 58, 3) := by decide +kernel
theorem dX12_isBarred_7 : decode cX12_isBarred 7 = .ok (.aload_n 0, 1) := by decide +kernel
theorem dX12_isBarred_8 : decode cX12_isBarred 8 = .ok (.getfield 284, 3) := by decide +kernel
theorem dX12_isBarred_11 : decode cX12_isBarred 11 = .ok (.iaload, 1) := by decide +kernel
theorem dX12_isBarred_12 : decode cX12_isBarred 12 = .ok (.if_icmp .ge 47, 3) := by decide +kernel
theorem dX12_isBarred_15 : decode cX12_isBarred 15 = .ok (.aload_n 0, 1) := by decide +kernel
theorem dX12_isBarred_16 : decode cX12_isBarred 16 = .ok (.getfield 61, 3) := by decide +kernel
theorem dX12_isBarred_19 : decode cX12_isBarred 19 = .ok (.bipush 12, 2) := by decide +kernel
theorem dX12_isBarred_21 : decode cX12_isBarred 21 = .ok (.aload_n 0, 1) := by decide +kernel
theorem dX12_isBarred_22 : decode cX12_isBarred 22 = .ok (.getfield 284, 3) := by decide +kernel
theorem dX12_isBarred_25 : decode cX12_isBarred 25 = .ok (.imul, 1) := by decide +kernel
theorem dX12_isBarred_26 : decode cX12_isBarred 26 = .ok (.iload_n 3, 1) := by decide +kernel
theorem dX12_isBarred_27 : decode cX12_isBarred 27 = .ok (.iadd, 1) := by decide +kernel
theorem dX12_isBarred_28 : decode cX12_isBarred 28 = .ok (.iaload, 1) := by decide +kernel
theorem dX12_isBarred_29 : decode cX12_isBarred 29 = .ok (.iload_n 1, 1) := by decide +kernel
theorem dX12_isBarred_30 : decode cX12_isBarred 30 = .ok (.if_icmp .ne 23, 3) := by decide +kernel
theorem dX12_isBarred_33 : decode cX12_isBarred 33 = .ok (.aload_n 0, 1) := by decide +kernel
theorem dX12_isBarred_34 : decode cX12_isBarred 34 = .ok (.getfield 64, 3) := by decide +kernel
theorem dX12_isBarred_37 : decode cX12_isBarred 37 = .ok (.bipush 12, 2) := by decide +kernel
theorem dX12_isBarred_39 : decode cX12_isBarred 39 = .ok (.aload_n 0, 1) := by decide +kernel
theorem dX12_isBarred_40 : decode cX12_isBarred 40 = .ok (.getfield 284, 3) := by decide +kernel
theorem dX12_isBarred_43 : decode cX12_isBarred 43 = .ok (.imul, 1) := by decide +kernel
theorem dX12_isBarred_44 : decode cX12_isBarred 44 = .ok (.iload_n 3, 1) := by decide +kernel
theorem dX12_isBarred_45 : decode cX12_isBarred 45 = .ok (.iadd, 1) := by decide +kernel
theorem dX12_isBarred_46 : decode cX12_isBarred 46 = .ok (.iaload, 1) := by decide +kernel
theorem dX12_isBarred_47 : decode cX12_isBarred 47 = .ok (.iload_n 2, 1) := by decide +kernel
theorem dX12_isBarred_48 : decode cX12_isBarred 48 = .ok (.if_icmp .ne 5, 3) := by decide +kernel
theorem dX12_isBarred_51 : decode cX12_isBarred 51 = .ok (.iconst 1, 1) := by decide +kernel
theorem dX12_isBarred_52 : decode cX12_isBarred 52 = .ok (.ireturn, 1) := by decide +kernel
theorem dX12_isBarred_53 : decode cX12_isBarred 53 = .ok (.iinc 3 1, 3) := by decide +kernel
theorem dX12_isBarred_56 : decode cX12_isBarred 56 = .ok (.goto (-54), 3) := by decide +kernel
theorem dX12_isBarred_59 : decode cX12_isBarred 59 = .ok (.iconst 0, 1) := by decide +kernel
theorem dX12_isBarred_60 : decode cX12_isBarred 60 = .ok (.ireturn, 1) := by decide +kernel
def bX12_isBarred_53  (r2 : Int32 → Int32 → Int32 → Hp → Option (Int32 × Hp)) (x1 : Int32) (x2 : Int32) (x3 : Int32) (h : Hp) : Option (Int32 × Hp) := lt (x3 + 1) (fun v1 => r2 x1 x2 v1 h)
set_option maxRecDepth 20000 in
theorem BX12_isBarred_53 {Z : ZT} {G : GT} {r : Int32} {hr : Hp} (X : CX Z G cX12_isBarred RX12 4 0) (E : RX Z G (some .boolean) (some (.int r)) hr) (hz : HZM Z) (r2 : Int32 → Int32 → Int32 → Hp → Option (Int32 × Hp)) (hr2 : ∀ (x1 : Int32) (x2 : Int32) (x3 : Int32) (h : Hp), r2 x1 x2 x3 h = some (r, hr) → J Z G 4 h 2 [(0, .ref (Z.2.1 0)), (1, .int x1), (2, .int x2), (3, .int x3)] []) (x1 : Int32) (x2 : Int32) (x3 : Int32) (h : Hp) (hF : bX12_isBarred_53  r2 x1 x2 x3 h = some (r, hr)) : J Z G 4 h 53 [(0, .ref (Z.2.1 0)), (1, .int x1), (2, .int x2), (3, .int x3)] [] := by
  unfold bX12_isBarred_53 at hF
  refine j_iinc (pc := 53) 3 (x3 + 1) (fun y => [(3, .int y), (0, .ref (Z.2.1 0)), (1, .int x1), (2, .int x2)]) X dX12_isBarred_53 rfl rfl (by decide) (fun _ => rfl) hF (fun v1 hF => ?_)
  refine j_goto (pc := 56) 2 X dX12_isBarred_56 rfl ?_
  refine j_lv [(0, .ref (Z.2.1 0)), (1, .int x1), (2, .int x2), (3, .int v1)] [1, 2, 3, 0] rfl ?_
  exact hr2 x1 x2 v1 h hF
def bX12_isBarred_2   (r2 : Int32 → Int32 → Int32 → Hp → Option (Int32 × Hp)) (x1 : Int32) (x2 : Int32) (x3 : Int32) (h : Hp) : Option (Int32 × Hp) := ck (inb (h.1 0 18) 2) ((if (h.1 14 (ix (h.1 0 18))) ≤ x3 then ck (zb 0) (some (0, h)) else ck (inb (((12 : Int32) * (h.1 0 18)) + x3) 24) ((if (h.1 15 (ix (((12 : Int32) * (h.1 0 18)) + x3))) = x1 then ck (inb (((12 : Int32) * (h.1 0 18)) + x3) 24) ((if (h.1 16 (ix (((12 : Int32) * (h.1 0 18)) + x3))) = x2 then ck (zb 1) (some (1, h)) else bX12_isBarred_53 r2 x1 x2 x3 h)) else bX12_isBarred_53 r2 x1 x2 x3 h))))
def lX12_isBarred_2   : Nat → Int32 → Int32 → Int32 → Hp → Option (Int32 × Hp)
  | 0 => fun _ _ _ _ => none
  | n + 1 => bX12_isBarred_2   (lX12_isBarred_2   n)
set_option maxRecDepth 20000 in
theorem BX12_isBarred_2 {Z : ZT} {G : GT} {r : Int32} {hr : Hp} (X : CX Z G cX12_isBarred RX12 4 0) (E : RX Z G (some .boolean) (some (.int r)) hr) (hz : HZM Z)  (r2 : Int32 → Int32 → Int32 → Hp → Option (Int32 × Hp)) (hr2 : ∀ (x1 : Int32) (x2 : Int32) (x3 : Int32) (h : Hp), r2 x1 x2 x3 h = some (r, hr) → J Z G 4 h 2 [(0, .ref (Z.2.1 0)), (1, .int x1), (2, .int x2), (3, .int x3)] []) (x1 : Int32) (x2 : Int32) (x3 : Int32) (h : Hp) (hF : bX12_isBarred_2   r2 x1 x2 x3 h = some (r, hr)) : J Z G 4 h 2 [(0, .ref (Z.2.1 0)), (1, .int x1), (2, .int x2), (3, .int x3)] [] := by
  unfold bX12_isBarred_2 at hF
  refine j_iload_n (pc := 2) 3 X dX12_isBarred_2 rfl ?_
  refine j_aload_n (pc := 3) 0 X dX12_isBarred_3 rfl ?_
  refine j_getr (pc := 4) X dX12_isBarred_4 (hz _ sh_0) fl_X12_58 rfl ?_
  refine j_aload_n (pc := 7) 0 X dX12_isBarred_7 rfl ?_
  refine j_geti (pc := 8) X dX12_isBarred_8 (hz _ sh_0) fl_X12_284 rfl ?_
  refine j_iald (pc := 11) X dX12_isBarred_11 (hz _ sh_14) hF (fun hF => ?_)
  refine j_icmp_ge (pc := 12) 59 X dX12_isBarred_12 rfl hF (fun hF => ?_) (fun hF => ?_)
  · refine j_iconst (pc := 59) 0 X dX12_isBarred_59 rfl ?_
    exact j_zret (pc := 60) X E dX12_isBarred_60 hF
  · refine j_aload_n (pc := 15) 0 X dX12_isBarred_15 rfl ?_
    refine j_getr (pc := 16) X dX12_isBarred_16 (hz _ sh_0) fl_X12_61 rfl ?_
    refine j_bipush (pc := 19) 12 X dX12_isBarred_19 rfl ?_
    refine j_aload_n (pc := 21) 0 X dX12_isBarred_21 rfl ?_
    refine j_geti (pc := 22) X dX12_isBarred_22 (hz _ sh_0) fl_X12_284 rfl ?_
    refine j_imul (pc := 25) X dX12_isBarred_25 ?_
    refine j_iload_n (pc := 26) 3 X dX12_isBarred_26 rfl ?_
    refine j_iadd (pc := 27) X dX12_isBarred_27 ?_
    refine j_iald (pc := 28) X dX12_isBarred_28 (hz _ sh_15) hF (fun hF => ?_)
    refine j_iload_n (pc := 29) 1 X dX12_isBarred_29 rfl ?_
    refine j_icmp_ne (pc := 30) 53 X dX12_isBarred_30 rfl hF (fun hF => ?_) (fun hF => ?_)
    · exact BX12_isBarred_53 X E hz r2 hr2 x1 x2 x3 h hF
    · refine j_aload_n (pc := 33) 0 X dX12_isBarred_33 rfl ?_
      refine j_getr (pc := 34) X dX12_isBarred_34 (hz _ sh_0) fl_X12_64 rfl ?_
      refine j_bipush (pc := 37) 12 X dX12_isBarred_37 rfl ?_
      refine j_aload_n (pc := 39) 0 X dX12_isBarred_39 rfl ?_
      refine j_geti (pc := 40) X dX12_isBarred_40 (hz _ sh_0) fl_X12_284 rfl ?_
      refine j_imul (pc := 43) X dX12_isBarred_43 ?_
      refine j_iload_n (pc := 44) 3 X dX12_isBarred_44 rfl ?_
      refine j_iadd (pc := 45) X dX12_isBarred_45 ?_
      refine j_iald (pc := 46) X dX12_isBarred_46 (hz _ sh_16) hF (fun hF => ?_)
      refine j_iload_n (pc := 47) 2 X dX12_isBarred_47 rfl ?_
      refine j_icmp_ne (pc := 48) 53 X dX12_isBarred_48 rfl hF (fun hF => ?_) (fun hF => ?_)
      · exact BX12_isBarred_53 X E hz r2 hr2 x1 x2 x3 h hF
      · refine j_iconst (pc := 51) 1 X dX12_isBarred_51 rfl ?_
        exact j_zret (pc := 52) X E dX12_isBarred_52 hF
theorem LX12_isBarred_2 {Z : ZT} {G : GT} {r : Int32} {hr : Hp} (X : CX Z G cX12_isBarred RX12 4 0) (E : RX Z G (some .boolean) (some (.int r)) hr) (hz : HZM Z)  : ∀ (n : Nat) (x1 : Int32) (x2 : Int32) (x3 : Int32) (h : Hp), lX12_isBarred_2   n x1 x2 x3 h = some (r, hr) → J Z G 4 h 2 [(0, .ref (Z.2.1 0)), (1, .int x1), (2, .int x2), (3, .int x3)] [] := by
  intro n
  induction n with
  | zero => intro x1 x2 x3 h hF; cases hF
  | succ n ih => intro x1 x2 x3 h hF; exact BX12_isBarred_2 X E hz  (lX12_isBarred_2   n) ih x1 x2 x3 h hF
def fX12_isBarred (a1 : Int32) (a2 : Int32) (h : Hp) : Option (Int32 × Hp) := lt 0 (fun v1 => lX12_isBarred_2 FU a1 a2 v1 h)
set_option maxRecDepth 20000 in
theorem tX12_isBarred (Z : ZT) (a1 : Int32) (a2 : Int32) (hz : HZM Z) (h : Hp) (r : Int32) (hr : Hp) (hF : fX12_isBarred a1 a2 h = some (r, hr)) : MC Z yX12_isBarred cX12_isBarred 4 (some .boolean) 0 [.ref (Z.2.1 0), .int a1, .int a2] h (some (.int r)) hr := by
  unfold fX12_isBarred at hF
  refine mc_start (by decide) (Nat.le_of_ble_eq_true rfl) (fun G X E => ?_)
  refine j_iconst (pc := 0) 0 X dX12_isBarred_0 rfl ?_
  refine j_istore_n (pc := 1) (fun y => [(3, .int y), (0, .ref (Z.2.1 0)), (1, .int a1), (2, .int a2)]) X dX12_isBarred_1 (by decide) (fun _ => rfl) hF (fun v1 hF => ?_)
  refine j_lv [(0, .ref (Z.2.1 0)), (1, .int a1), (2, .int a2), (3, .int v1)] [1, 2, 3, 0] rfl ?_
  exact LX12_isBarred_2 X E hz FU a1 a2 v1 h hF
theorem dX12_barred_0 : decode cX12_barred 0 = .ok (.iload_n 1, 1) := by decide +kernel
theorem dX12_barred_1 : decode cX12_barred 1 = .ok (.iconst 0, 1) := by decide +kernel
theorem dX12_barred_2 : decode cX12_barred 2 = .ok (.aload_n 0, 1) := by decide +kernel
theorem dX12_barred_3 : decode cX12_barred 3 = .ok (.getfield 55, 3) := by decide +kernel
theorem dX12_barred_6 : decode cX12_barred 6 = .ok (.aload_n 0, 1) := by decide +kernel
theorem dX12_barred_7 : decode cX12_barred 7 = .ok (.getfield 284, 3) := by decide +kernel
theorem dX12_barred_10 : decode cX12_barred 10 = .ok (.iaload, 1) := by decide +kernel
theorem dX12_barred_11 : decode cX12_barred 11 = .ok (.iconst 1, 1) := by decide +kernel
theorem dX12_barred_12 : decode cX12_barred 12 = .ok (.isub, 1) := by decide +kernel
theorem dX12_barred_13 : decode cX12_barred 13 = .ok (.invokestatic 383, 3) := by decide +kernel
theorem dX12_barred_16 : decode cX12_barred 16 = .ok (.ifCond .eq 28, 3) := by decide +kernel
theorem dX12_barred_19 : decode cX12_barred 19 = .ok (.aload_n 0, 1) := by decide +kernel
theorem dX12_barred_20 : decode cX12_barred 20 = .ok (.iload_n 2, 1) := by decide +kernel
theorem dX12_barred_21 : decode cX12_barred 21 = .ok (.invokevirtual 409, 3) := by decide +kernel
theorem dX12_barred_24 : decode cX12_barred 24 = .ok (.ifCond .eq 20, 3) := by decide +kernel
theorem dX12_barred_27 : decode cX12_barred 27 = .ok (.aload_n 0, 1) := by decide +kernel
theorem dX12_barred_28 : decode cX12_barred 28 = .ok (.iload_n 1, 1) := by decide +kernel
theorem dX12_barred_29 : decode cX12_barred 29 = .ok (.iload_n 2, 1) := by decide +kernel
theorem dX12_barred_30 : decode cX12_barred 30 = .ok (.invokevirtual 421, 3) := by decide +kernel
theorem dX12_barred_33 : decode cX12_barred 33 = .ok (.ifCond .eq 7, 3) := by decide +kernel
theorem dX12_barred_36 : decode cX12_barred 36 = .ok (.iconst 1, 1) := by decide +kernel
theorem dX12_barred_37 : decode cX12_barred 37 = .ok (.goto 8, 3) := by decide +kernel
theorem dX12_barred_40 : decode cX12_barred 40 = .ok (.iconst 0, 1) := by decide +kernel
theorem dX12_barred_41 : decode cX12_barred 41 = .ok (.goto 4, 3) := by decide +kernel
theorem dX12_barred_44 : decode cX12_barred 44 = .ok (.iconst (-1), 1) := by decide +kernel
theorem dX12_barred_45 : decode cX12_barred 45 = .ok (.ireturn, 1) := by decide +kernel
def fX12_barred (a1 : Int32) (a2 : Int32) (h : Hp) : Option (Int32 × Hp) := ck (inb (h.1 0 18) 2) (bi (fX12_in a1 0 ((h.1 13 (ix (h.1 0 18))) - 1) h) (fun w2 h1 => (if w2 = 0 then some ((-1), h1) else bi (fX12_isPerson a2 h1) (fun w4 h3 => (if w4 = 0 then some ((-1), h3) else bi (fX12_isBarred a1 a2 h3) (fun w6 h5 => (if w6 = 0 then some (0, h5) else some (1, h5))))))))
set_option maxRecDepth 20000 in
theorem tX12_barred (Z : ZT) (a1 : Int32) (a2 : Int32) (hz : HZM Z) (h : Hp) (r : Int32) (hr : Hp) (hF : fX12_barred a1 a2 h = some (r, hr)) : MC Z yX12_barred cX12_barred 3 (some .int) 2 [.ref (Z.2.1 0), .int a1, .int a2] h (some (.int r)) hr := by
  unfold fX12_barred at hF
  refine mc_start (by decide) (Nat.le_of_ble_eq_true rfl) (fun G X E => ?_)
  refine j_iload_n (pc := 0) 1 X dX12_barred_0 rfl ?_
  refine j_iconst (pc := 1) 0 X dX12_barred_1 rfl ?_
  refine j_aload_n (pc := 2) 0 X dX12_barred_2 rfl ?_
  refine j_getr (pc := 3) X dX12_barred_3 (hz _ sh_0) fl_X12_55 rfl ?_
  refine j_aload_n (pc := 6) 0 X dX12_barred_6 rfl ?_
  refine j_geti (pc := 7) X dX12_barred_7 (hz _ sh_0) fl_X12_284 rfl ?_
  refine j_iald (pc := 10) X dX12_barred_10 (hz _ sh_13) hF (fun hF => ?_)
  refine j_iconst (pc := 11) 1 X dX12_barred_11 rfl ?_
  refine j_isub (pc := 12) X dX12_barred_12 ?_
  refine j_cSi (pc := 13) (As := [.int a1, .int 0, .int ((h.1 13 (ix (h.1 0 18))) - 1)]) (rest := []) X dX12_barred_13 ml_X12_383 ck_X12_in sk_X12_in (Nat.le_of_ble_eq_true rfl) rfl (Nat.le_of_ble_eq_true rfl) rfl hF (tX12_in Z a1 0 ((h.1 13 (ix (h.1 0 18))) - 1) trivial h) (fun w2 h1 hF => ?_)
  refine j_if_eq (pc := 16) 44 X dX12_barred_16 rfl hF (fun hF => ?_) (fun hF => ?_)
  · refine j_iconst (pc := 44) (-1) X dX12_barred_44 rfl ?_
    exact j_iret (pc := 45) X E dX12_barred_45 hF
  · refine j_aload_n (pc := 19) 0 X dX12_barred_19 rfl ?_
    refine j_iload_n (pc := 20) 2 X dX12_barred_20 rfl ?_
    refine j_cVi (pc := 21) (As := [.int a2]) (rest := []) X dX12_barred_21 ml_X12_409 ck_X12_isPerson cv_X12_isPerson (hz _ sh_0) rfl (Nat.le_of_ble_eq_true rfl) rfl (Nat.le_of_ble_eq_true rfl) rfl hF (tX12_isPerson Z a2 hz h1) (fun w4 h3 hF => ?_)
    refine j_if_eq (pc := 24) 44 X dX12_barred_24 rfl hF (fun hF => ?_) (fun hF => ?_)
    · refine j_iconst (pc := 44) (-1) X dX12_barred_44 rfl ?_
      exact j_iret (pc := 45) X E dX12_barred_45 hF
    · refine j_aload_n (pc := 27) 0 X dX12_barred_27 rfl ?_
      refine j_iload_n (pc := 28) 1 X dX12_barred_28 rfl ?_
      refine j_iload_n (pc := 29) 2 X dX12_barred_29 rfl ?_
      refine j_cVi (pc := 30) (As := [.int a1, .int a2]) (rest := []) X dX12_barred_30 ml_X12_421 ck_X12_isBarred cv_X12_isBarred (hz _ sh_0) rfl (Nat.le_of_ble_eq_true rfl) rfl (Nat.le_of_ble_eq_true rfl) rfl hF (tX12_isBarred Z a1 a2 hz h3) (fun w6 h5 hF => ?_)
      refine j_if_eq (pc := 33) 40 X dX12_barred_33 rfl hF (fun hF => ?_) (fun hF => ?_)
      · refine j_iconst (pc := 40) 0 X dX12_barred_40 rfl ?_
        refine j_goto (pc := 41) 45 X dX12_barred_41 rfl ?_
        exact j_iret (pc := 45) X E dX12_barred_45 hF
      · refine j_iconst (pc := 36) 1 X dX12_barred_36 rfl ?_
        refine j_goto (pc := 37) 45 X dX12_barred_37 rfl ?_
        exact j_iret (pc := 45) X E dX12_barred_45 hF
theorem dX12_isClerkBarred_0 : decode cX12_isClerkBarred 0 = .ok (.aload_n 0, 1) := by decide +kernel
theorem dX12_isClerkBarred_1 : decode cX12_isClerkBarred 1 = .ok (.getfield 55, 3) := by decide +kernel
theorem dX12_isClerkBarred_4 : decode cX12_isClerkBarred 4 = .ok (.aload_n 0, 1) := by decide +kernel
theorem dX12_isClerkBarred_5 : decode cX12_isClerkBarred 5 = .ok (.getfield 284, 3) := by decide +kernel
theorem dX12_isClerkBarred_8 : decode cX12_isClerkBarred 8 = .ok (.iaload, 1) := by decide +kernel
theorem dX12_isClerkBarred_9 : decode cX12_isClerkBarred 9 = .ok (.ifCond .le 30, 3) := by decide +kernel
theorem dX12_isClerkBarred_12 : decode cX12_isClerkBarred 12 = .ok (.aload_n 0, 1) := by decide +kernel
theorem dX12_isClerkBarred_13 : decode cX12_isClerkBarred 13 = .ok (.iload_n 2, 1) := by decide +kernel
theorem dX12_isClerkBarred_14 : decode cX12_isClerkBarred 14 = .ok (.aload_n 0, 1) := by decide +kernel
theorem dX12_isClerkBarred_15 : decode cX12_isClerkBarred 15 = .ok (.getfield 55, 3) := by decide +kernel
theorem dX12_isClerkBarred_18 : decode cX12_isClerkBarred 18 = .ok (.aload_n 0, 1) := by decide +kernel
theorem dX12_isClerkBarred_19 : decode cX12_isClerkBarred 19 = .ok (.getfield 284, 3) := by decide +kernel
theorem dX12_isClerkBarred_22 : decode cX12_isClerkBarred 22 = .ok (.iaload, 1) := by decide +kernel
theorem dX12_isClerkBarred_23 : decode cX12_isClerkBarred 23 = .ok (.irem, 1) := by decide +kernel
theorem dX12_isClerkBarred_24 : decode cX12_isClerkBarred 24 = .ok (.aload_n 0, 1) := by decide +kernel
theorem dX12_isClerkBarred_25 : decode cX12_isClerkBarred 25 = .ok (.iload_n 1, 1) := by decide +kernel
theorem dX12_isClerkBarred_26 : decode cX12_isClerkBarred 26 = .ok (.invokevirtual 406, 3) := by decide +kernel
theorem dX12_isClerkBarred_29 : decode cX12_isClerkBarred 29 = .ok (.invokevirtual 421, 3) := by decide +kernel
theorem dX12_isClerkBarred_32 : decode cX12_isClerkBarred 32 = .ok (.ifCond .eq 7, 3) := by decide +kernel
theorem dX12_isClerkBarred_35 : decode cX12_isClerkBarred 35 = .ok (.iconst 1, 1) := by decide +kernel
theorem dX12_isClerkBarred_36 : decode cX12_isClerkBarred 36 = .ok (.goto 4, 3) := by decide +kernel
theorem dX12_isClerkBarred_39 : decode cX12_isClerkBarred 39 = .ok (.iconst 0, 1) := by decide +kernel
theorem dX12_isClerkBarred_40 : decode cX12_isClerkBarred 40 = .ok (.ireturn, 1) := by decide +kernel
def fX12_isClerkBarred (a1 : Int32) (a2 : Int32) (h : Hp) : Option (Int32 × Hp) := ck (inb (h.1 0 18) 2) ((if (h.1 13 (ix (h.1 0 18))) ≤ 0 then ck (zb 0) (some (0, h)) else ck (inb (h.1 0 18) 2) (ck (nz (h.1 13 (ix (h.1 0 18)))) (bi (fX12_reader a1 h) (fun w2 h1 => bi (fX12_isBarred (a2 - a2 / (h.1 13 (ix (h.1 0 18))) * (h.1 13 (ix (h.1 0 18)))) w2 h1) (fun w4 h3 => (if w4 = 0 then ck (zb 0) (some (0, h3)) else ck (zb 1) (some (1, h3)))))))))
set_option maxRecDepth 20000 in
theorem tX12_isClerkBarred (Z : ZT) (a1 : Int32) (a2 : Int32) (hz : HZM Z) (h : Hp) (r : Int32) (hr : Hp) (hF : fX12_isClerkBarred a1 a2 h = some (r, hr)) : MC Z yX12_isClerkBarred cX12_isClerkBarred 3 (some .boolean) 1 [.ref (Z.2.1 0), .int a1, .int a2] h (some (.int r)) hr := by
  unfold fX12_isClerkBarred at hF
  refine mc_start (by decide) (Nat.le_of_ble_eq_true rfl) (fun G X E => ?_)
  refine j_aload_n (pc := 0) 0 X dX12_isClerkBarred_0 rfl ?_
  refine j_getr (pc := 1) X dX12_isClerkBarred_1 (hz _ sh_0) fl_X12_55 rfl ?_
  refine j_aload_n (pc := 4) 0 X dX12_isClerkBarred_4 rfl ?_
  refine j_geti (pc := 5) X dX12_isClerkBarred_5 (hz _ sh_0) fl_X12_284 rfl ?_
  refine j_iald (pc := 8) X dX12_isClerkBarred_8 (hz _ sh_13) hF (fun hF => ?_)
  refine j_if_le (pc := 9) 39 X dX12_isClerkBarred_9 rfl hF (fun hF => ?_) (fun hF => ?_)
  · refine j_iconst (pc := 39) 0 X dX12_isClerkBarred_39 rfl ?_
    exact j_zret (pc := 40) X E dX12_isClerkBarred_40 hF
  · refine j_aload_n (pc := 12) 0 X dX12_isClerkBarred_12 rfl ?_
    refine j_iload_n (pc := 13) 2 X dX12_isClerkBarred_13 rfl ?_
    refine j_aload_n (pc := 14) 0 X dX12_isClerkBarred_14 rfl ?_
    refine j_getr (pc := 15) X dX12_isClerkBarred_15 (hz _ sh_0) fl_X12_55 rfl ?_
    refine j_aload_n (pc := 18) 0 X dX12_isClerkBarred_18 rfl ?_
    refine j_geti (pc := 19) X dX12_isClerkBarred_19 (hz _ sh_0) fl_X12_284 rfl ?_
    refine j_iald (pc := 22) X dX12_isClerkBarred_22 (hz _ sh_13) hF (fun hF => ?_)
    refine j_irem (pc := 23) X dX12_isClerkBarred_23 hF (fun hF => ?_)
    refine j_aload_n (pc := 24) 0 X dX12_isClerkBarred_24 rfl ?_
    refine j_iload_n (pc := 25) 1 X dX12_isClerkBarred_25 rfl ?_
    refine j_cVi (pc := 26) (As := [.int a1]) (rest := [.int (a2 - a2 / (h.1 13 (ix (h.1 0 18))) * (h.1 13 (ix (h.1 0 18)))), .ref (Z.2.1 0)]) X dX12_isClerkBarred_26 ml_X12_406 ck_X12_reader cv_X12_reader (hz _ sh_0) rfl (Nat.le_of_ble_eq_true rfl) rfl (Nat.le_of_ble_eq_true rfl) rfl hF (tX12_reader Z a1 hz h) (fun w2 h1 hF => ?_)
    refine j_cVi (pc := 29) (As := [.int (a2 - a2 / (h.1 13 (ix (h.1 0 18))) * (h.1 13 (ix (h.1 0 18)))), .int w2]) (rest := []) X dX12_isClerkBarred_29 ml_X12_421 ck_X12_isBarred cv_X12_isBarred (hz _ sh_0) rfl (Nat.le_of_ble_eq_true rfl) rfl (Nat.le_of_ble_eq_true rfl) rfl hF (tX12_isBarred Z (a2 - a2 / (h.1 13 (ix (h.1 0 18))) * (h.1 13 (ix (h.1 0 18)))) w2 hz h1) (fun w4 h3 hF => ?_)
    refine j_if_eq (pc := 32) 39 X dX12_isClerkBarred_32 rfl hF (fun hF => ?_) (fun hF => ?_)
    · refine j_iconst (pc := 39) 0 X dX12_isClerkBarred_39 rfl ?_
      exact j_zret (pc := 40) X E dX12_isClerkBarred_40 hF
    · refine j_iconst (pc := 35) 1 X dX12_isClerkBarred_35 rfl ?_
      refine j_goto (pc := 36) 40 X dX12_isClerkBarred_36 rfl ?_
      exact j_zret (pc := 40) X E dX12_isClerkBarred_40 hF
theorem dX12_comes_0 : decode cX12_comes 0 = .ok (.aload_n 0, 1) := by decide +kernel
theorem dX12_comes_1 : decode cX12_comes 1 = .ok (.getfield 137, 3) := by decide +kernel
theorem dX12_comes_4 : decode cX12_comes 4 = .ok (.aload_n 0, 1) := by decide +kernel
theorem dX12_comes_5 : decode cX12_comes 5 = .ok (.getfield 305, 3) := by decide +kernel
theorem dX12_comes_8 : decode cX12_comes 8 = .ok (.iload_n 1, 1) := by decide +kernel
theorem dX12_comes_9 : decode cX12_comes 9 = .ok (.iastore, 1) := by decide +kernel
theorem dX12_comes_10 : decode cX12_comes 10 = .ok (.aload_n 0, 1) := by decide +kernel
theorem dX12_comes_11 : decode cX12_comes 11 = .ok (.getfield 140, 3) := by decide +kernel
theorem dX12_comes_14 : decode cX12_comes 14 = .ok (.aload_n 0, 1) := by decide +kernel
theorem dX12_comes_15 : decode cX12_comes 15 = .ok (.getfield 305, 3) := by decide +kernel
theorem dX12_comes_18 : decode cX12_comes 18 = .ok (.iload_n 2, 1) := by decide +kernel
theorem dX12_comes_19 : decode cX12_comes 19 = .ok (.iastore, 1) := by decide +kernel
theorem dX12_comes_20 : decode cX12_comes 20 = .ok (.aload_n 0, 1) := by decide +kernel
theorem dX12_comes_21 : decode cX12_comes 21 = .ok (.getfield 143, 3) := by decide +kernel
theorem dX12_comes_24 : decode cX12_comes 24 = .ok (.aload_n 0, 1) := by decide +kernel
theorem dX12_comes_25 : decode cX12_comes 25 = .ok (.getfield 305, 3) := by decide +kernel
theorem dX12_comes_28 : decode cX12_comes 28 = .ok (.iload_n 3, 1) := by decide +kernel
theorem dX12_comes_29 : decode cX12_comes 29 = .ok (.iastore, 1) := by decide +kernel
theorem dX12_comes_30 : decode cX12_comes 30 = .ok (.aload_n 0, 1) := by decide +kernel
theorem dX12_comes_31 : decode cX12_comes 31 = .ok (.getfield 146, 3) := by decide +kernel
theorem dX12_comes_34 : decode cX12_comes 34 = .ok (.aload_n 0, 1) := by decide +kernel
theorem dX12_comes_35 : decode cX12_comes 35 = .ok (.getfield 305, 3) := by decide +kernel
theorem dX12_comes_38 : decode cX12_comes 38 = .ok (.iload 4, 2) := by decide +kernel
theorem dX12_comes_40 : decode cX12_comes 40 = .ok (.iastore, 1) := by decide +kernel
theorem dX12_comes_41 : decode cX12_comes 41 = .ok (.aload_n 0, 1) := by decide +kernel
theorem dX12_comes_42 : decode cX12_comes 42 = .ok (.dup, 1) := by decide +kernel
theorem dX12_comes_43 : decode cX12_comes 43 = .ok (.getfield 305, 3) := by decide +kernel
theorem dX12_comes_46 : decode cX12_comes 46 = .ok (.iconst 1, 1) := by decide +kernel
theorem dX12_comes_47 : decode cX12_comes 47 = .ok (.iadd, 1) := by decide +kernel
theorem dX12_comes_48 : decode cX12_comes 48 = .ok (.putfield 305, 3) := by decide +kernel
theorem dX12_comes_51 : decode cX12_comes 51 = .ok (.aload_n 0, 1) := by decide +kernel
theorem dX12_comes_52 : decode cX12_comes 52 = .ok (.getfield 305, 3) := by decide +kernel
theorem dX12_comes_55 : decode cX12_comes 55 = .ok (.iconst 1, 1) := by decide +kernel
theorem dX12_comes_56 : decode cX12_comes 56 = .ok (.isub, 1) := by decide +kernel
theorem dX12_comes_57 : decode cX12_comes 57 = .ok (.ireturn, 1) := by decide +kernel
def fX12_comes (a1 : Int32) (a2 : Int32) (a3 : Int32) (a4 : Int32) (h : Hp) : Option (Int32 × Hp) := ck (inb (h.1 0 59) 60) (lt (wI h 40 (ix (h.1 0 59)) a1) (fun h1 => ck (inb (h1.1 0 59) 60) (lt (wI h1 41 (ix (h1.1 0 59)) a2) (fun h2 => ck (inb (h2.1 0 59) 60) (lt (wI h2 42 (ix (h2.1 0 59)) a3) (fun h3 => ck (inb (h3.1 0 59) 60) (lt (wI h3 43 (ix (h3.1 0 59)) a4) (fun h4 => lt (wI h4 0 59 ((h4.1 0 59) + 1)) (fun h5 => some (((h5.1 0 59) - 1), h5))))))))))
set_option maxRecDepth 20000 in
theorem tX12_comes (Z : ZT) (a1 : Int32) (a2 : Int32) (a3 : Int32) (a4 : Int32) (hz : HZM Z) (h : Hp) (r : Int32) (hr : Hp) (hF : fX12_comes a1 a2 a3 a4 h = some (r, hr)) : MC Z yX12_comes cX12_comes 5 (some .int) 0 [.ref (Z.2.1 0), .int a1, .int a2, .int a3, .int a4] h (some (.int r)) hr := by
  unfold fX12_comes at hF
  refine mc_start (by decide) (Nat.le_of_ble_eq_true rfl) (fun G X E => ?_)
  refine j_aload_n (pc := 0) 0 X dX12_comes_0 rfl ?_
  refine j_getr (pc := 1) X dX12_comes_1 (hz _ sh_0) fl_X12_137 rfl ?_
  refine j_aload_n (pc := 4) 0 X dX12_comes_4 rfl ?_
  refine j_geti (pc := 5) X dX12_comes_5 (hz _ sh_0) fl_X12_305 rfl ?_
  refine j_iload_n (pc := 8) 1 X dX12_comes_8 rfl ?_
  refine j_iast (pc := 9) X dX12_comes_9 (hz _ sh_40) hF (fun h1 hF => ?_)
  refine j_aload_n (pc := 10) 0 X dX12_comes_10 rfl ?_
  refine j_getr (pc := 11) X dX12_comes_11 (hz _ sh_0) fl_X12_140 rfl ?_
  refine j_aload_n (pc := 14) 0 X dX12_comes_14 rfl ?_
  refine j_geti (pc := 15) X dX12_comes_15 (hz _ sh_0) fl_X12_305 rfl ?_
  refine j_iload_n (pc := 18) 2 X dX12_comes_18 rfl ?_
  refine j_iast (pc := 19) X dX12_comes_19 (hz _ sh_41) hF (fun h2 hF => ?_)
  refine j_aload_n (pc := 20) 0 X dX12_comes_20 rfl ?_
  refine j_getr (pc := 21) X dX12_comes_21 (hz _ sh_0) fl_X12_143 rfl ?_
  refine j_aload_n (pc := 24) 0 X dX12_comes_24 rfl ?_
  refine j_geti (pc := 25) X dX12_comes_25 (hz _ sh_0) fl_X12_305 rfl ?_
  refine j_iload_n (pc := 28) 3 X dX12_comes_28 rfl ?_
  refine j_iast (pc := 29) X dX12_comes_29 (hz _ sh_42) hF (fun h3 hF => ?_)
  refine j_aload_n (pc := 30) 0 X dX12_comes_30 rfl ?_
  refine j_getr (pc := 31) X dX12_comes_31 (hz _ sh_0) fl_X12_146 rfl ?_
  refine j_aload_n (pc := 34) 0 X dX12_comes_34 rfl ?_
  refine j_geti (pc := 35) X dX12_comes_35 (hz _ sh_0) fl_X12_305 rfl ?_
  refine j_iload (pc := 38) 4 X dX12_comes_38 rfl ?_
  refine j_iast (pc := 40) X dX12_comes_40 (hz _ sh_43) hF (fun h4 hF => ?_)
  refine j_aload_n (pc := 41) 0 X dX12_comes_41 rfl ?_
  refine j_dup (pc := 42) X dX12_comes_42 rfl ?_
  refine j_geti (pc := 43) X dX12_comes_43 (hz _ sh_0) fl_X12_305 rfl ?_
  refine j_iconst (pc := 46) 1 X dX12_comes_46 rfl ?_
  refine j_iadd (pc := 47) X dX12_comes_47 ?_
  refine j_puti (pc := 48) X dX12_comes_48 (hz _ sh_0) fp_X12_305 rfl hF (fun h5 hF => ?_)
  refine j_aload_n (pc := 51) 0 X dX12_comes_51 rfl ?_
  refine j_geti (pc := 52) X dX12_comes_52 (hz _ sh_0) fl_X12_305 rfl ?_
  refine j_iconst (pc := 55) 1 X dX12_comes_55 rfl ?_
  refine j_isub (pc := 56) X dX12_comes_56 ?_
  exact j_iret (pc := 57) X E dX12_comes_57 hF
theorem dX12_canCome_0 : decode cX12_canCome 0 = .ok (.aload_n 0, 1) := by decide +kernel
theorem dX12_canCome_1 : decode cX12_canCome 1 = .ok (.getfield 305, 3) := by decide +kernel
theorem dX12_canCome_4 : decode cX12_canCome 4 = .ok (.bipush 60, 2) := by decide +kernel
theorem dX12_canCome_6 : decode cX12_canCome 6 = .ok (.if_icmp .ge 14, 3) := by decide +kernel
theorem dX12_canCome_9 : decode cX12_canCome 9 = .ok (.iload_n 1, 1) := by decide +kernel
theorem dX12_canCome_10 : decode cX12_canCome 10 = .ok (.invokestatic 412, 3) := by decide +kernel
theorem dX12_canCome_13 : decode cX12_canCome 13 = .ok (.ifCond .eq 7, 3) := by decide +kernel
theorem dX12_canCome_16 : decode cX12_canCome 16 = .ok (.iconst 1, 1) := by decide +kernel
theorem dX12_canCome_17 : decode cX12_canCome 17 = .ok (.goto 4, 3) := by decide +kernel
theorem dX12_canCome_20 : decode cX12_canCome 20 = .ok (.iconst 0, 1) := by decide +kernel
theorem dX12_canCome_21 : decode cX12_canCome 21 = .ok (.ireturn, 1) := by decide +kernel
def fX12_canCome (a1 : Int32) (h : Hp) : Option (Int32 × Hp) := (if 60 ≤ (h.1 0 59) then ck (zb 0) (some (0, h)) else bi (fX12_isYear a1 h) (fun w2 h1 => (if w2 = 0 then ck (zb 0) (some (0, h1)) else ck (zb 1) (some (1, h1)))))
set_option maxRecDepth 20000 in
theorem tX12_canCome (Z : ZT) (a1 : Int32) (hz : HZM Z) (h : Hp) (r : Int32) (hr : Hp) (hF : fX12_canCome a1 h = some (r, hr)) : MC Z yX12_canCome cX12_canCome 2 (some .boolean) 2 [.ref (Z.2.1 0), .int a1] h (some (.int r)) hr := by
  unfold fX12_canCome at hF
  refine mc_start (by decide) (Nat.le_of_ble_eq_true rfl) (fun G X E => ?_)
  refine j_aload_n (pc := 0) 0 X dX12_canCome_0 rfl ?_
  refine j_geti (pc := 1) X dX12_canCome_1 (hz _ sh_0) fl_X12_305 rfl ?_
  refine j_bipush (pc := 4) 60 X dX12_canCome_4 rfl ?_
  refine j_icmp_ge (pc := 6) 20 X dX12_canCome_6 rfl hF (fun hF => ?_) (fun hF => ?_)
  · refine j_iconst (pc := 20) 0 X dX12_canCome_20 rfl ?_
    exact j_zret (pc := 21) X E dX12_canCome_21 hF
  · refine j_iload_n (pc := 9) 1 X dX12_canCome_9 rfl ?_
    refine j_cSi (pc := 10) (As := [.int a1]) (rest := []) X dX12_canCome_10 ml_X12_412 ck_X12_isYear sk_X12_isYear (Nat.le_of_ble_eq_true rfl) rfl (Nat.le_of_ble_eq_true rfl) rfl hF (tX12_isYear Z a1 trivial h) (fun w2 h1 hF => ?_)
    refine j_if_eq (pc := 13) 20 X dX12_canCome_13 rfl hF (fun hF => ?_) (fun hF => ?_)
    · refine j_iconst (pc := 20) 0 X dX12_canCome_20 rfl ?_
      exact j_zret (pc := 21) X E dX12_canCome_21 hF
    · refine j_iconst (pc := 16) 1 X dX12_canCome_16 rfl ?_
      refine j_goto (pc := 17) 21 X dX12_canCome_17 rfl ?_
      exact j_zret (pc := 21) X E dX12_canCome_21 hF
theorem dX12_rumour_0 : decode cX12_rumour 0 = .ok (.aload_n 0, 1) := by decide +kernel
theorem dX12_rumour_1 : decode cX12_rumour 1 = .ok (.iload_n 1, 1) := by decide +kernel
theorem dX12_rumour_2 : decode cX12_rumour 2 = .ok (.invokevirtual 425, 3) := by decide +kernel
theorem dX12_rumour_5 : decode cX12_rumour 5 = .ok (.ifCond .eq 32, 3) := by decide +kernel
theorem dX12_rumour_8 : decode cX12_rumour 8 = .ok (.aload_n 0, 1) := by decide +kernel
theorem dX12_rumour_9 : decode cX12_rumour 9 = .ok (.iload_n 2, 1) := by decide +kernel
theorem dX12_rumour_10 : decode cX12_rumour 10 = .ok (.invokevirtual 409, 3) := by decide +kernel
theorem dX12_rumour_13 : decode cX12_rumour 13 = .ok (.ifCond .eq 24, 3) := by decide +kernel
theorem dX12_rumour_16 : decode cX12_rumour 16 = .ok (.iload_n 3, 1) := by decide +kernel
theorem dX12_rumour_17 : decode cX12_rumour 17 = .ok (.iconst 1, 1) := by decide +kernel
theorem dX12_rumour_18 : decode cX12_rumour 18 = .ok (.bipush 20, 2) := by decide +kernel
theorem dX12_rumour_20 : decode cX12_rumour 20 = .ok (.invokestatic 383, 3) := by decide +kernel
theorem dX12_rumour_23 : decode cX12_rumour 23 = .ok (.ifCond .eq 14, 3) := by decide +kernel
theorem dX12_rumour_26 : decode cX12_rumour 26 = .ok (.aload_n 0, 1) := by decide +kernel
theorem dX12_rumour_27 : decode cX12_rumour 27 = .ok (.iconst 0, 1) := by decide +kernel
theorem dX12_rumour_28 : decode cX12_rumour 28 = .ok (.iload_n 1, 1) := by decide +kernel
theorem dX12_rumour_29 : decode cX12_rumour 29 = .ok (.iload_n 2, 1) := by decide +kernel
theorem dX12_rumour_30 : decode cX12_rumour 30 = .ok (.iload_n 3, 1) := by decide +kernel
theorem dX12_rumour_31 : decode cX12_rumour 31 = .ok (.invokevirtual 428, 3) := by decide +kernel
theorem dX12_rumour_34 : decode cX12_rumour 34 = .ok (.goto 4, 3) := by decide +kernel
theorem dX12_rumour_37 : decode cX12_rumour 37 = .ok (.iconst (-1), 1) := by decide +kernel
theorem dX12_rumour_38 : decode cX12_rumour 38 = .ok (.ireturn, 1) := by decide +kernel
def fX12_rumour (a1 : Int32) (a2 : Int32) (a3 : Int32) (h : Hp) : Option (Int32 × Hp) := bi (fX12_canCome a1 h) (fun w2 h1 => (if w2 = 0 then some ((-1), h1) else bi (fX12_isPerson a2 h1) (fun w4 h3 => (if w4 = 0 then some ((-1), h3) else bi (fX12_in a3 1 20 h3) (fun w6 h5 => (if w6 = 0 then some ((-1), h5) else bi (fX12_comes 0 a1 a2 a3 h5) (fun w8 h7 => some (w8, h7))))))))
set_option maxRecDepth 20000 in
theorem tX12_rumour (Z : ZT) (a1 : Int32) (a2 : Int32) (a3 : Int32) (hz : HZM Z) (h : Hp) (r : Int32) (hr : Hp) (hF : fX12_rumour a1 a2 a3 h = some (r, hr)) : MC Z yX12_rumour cX12_rumour 4 (some .int) 3 [.ref (Z.2.1 0), .int a1, .int a2, .int a3] h (some (.int r)) hr := by
  unfold fX12_rumour at hF
  refine mc_start (by decide) (Nat.le_of_ble_eq_true rfl) (fun G X E => ?_)
  refine j_aload_n (pc := 0) 0 X dX12_rumour_0 rfl ?_
  refine j_iload_n (pc := 1) 1 X dX12_rumour_1 rfl ?_
  refine j_cVi (pc := 2) (As := [.int a1]) (rest := []) X dX12_rumour_2 ml_X12_425 ck_X12_canCome cv_X12_canCome (hz _ sh_0) rfl (Nat.le_of_ble_eq_true rfl) rfl (Nat.le_of_ble_eq_true rfl) rfl hF (tX12_canCome Z a1 hz h) (fun w2 h1 hF => ?_)
  refine j_if_eq (pc := 5) 37 X dX12_rumour_5 rfl hF (fun hF => ?_) (fun hF => ?_)
  · refine j_iconst (pc := 37) (-1) X dX12_rumour_37 rfl ?_
    exact j_iret (pc := 38) X E dX12_rumour_38 hF
  · refine j_aload_n (pc := 8) 0 X dX12_rumour_8 rfl ?_
    refine j_iload_n (pc := 9) 2 X dX12_rumour_9 rfl ?_
    refine j_cVi (pc := 10) (As := [.int a2]) (rest := []) X dX12_rumour_10 ml_X12_409 ck_X12_isPerson cv_X12_isPerson (hz _ sh_0) rfl (Nat.le_of_ble_eq_true rfl) rfl (Nat.le_of_ble_eq_true rfl) rfl hF (tX12_isPerson Z a2 hz h1) (fun w4 h3 hF => ?_)
    refine j_if_eq (pc := 13) 37 X dX12_rumour_13 rfl hF (fun hF => ?_) (fun hF => ?_)
    · refine j_iconst (pc := 37) (-1) X dX12_rumour_37 rfl ?_
      exact j_iret (pc := 38) X E dX12_rumour_38 hF
    · refine j_iload_n (pc := 16) 3 X dX12_rumour_16 rfl ?_
      refine j_iconst (pc := 17) 1 X dX12_rumour_17 rfl ?_
      refine j_bipush (pc := 18) 20 X dX12_rumour_18 rfl ?_
      refine j_cSi (pc := 20) (As := [.int a3, .int 1, .int 20]) (rest := []) X dX12_rumour_20 ml_X12_383 ck_X12_in sk_X12_in (Nat.le_of_ble_eq_true rfl) rfl (Nat.le_of_ble_eq_true rfl) rfl hF (tX12_in Z a3 1 20 trivial h3) (fun w6 h5 hF => ?_)
      refine j_if_eq (pc := 23) 37 X dX12_rumour_23 rfl hF (fun hF => ?_) (fun hF => ?_)
      · refine j_iconst (pc := 37) (-1) X dX12_rumour_37 rfl ?_
        exact j_iret (pc := 38) X E dX12_rumour_38 hF
      · refine j_aload_n (pc := 26) 0 X dX12_rumour_26 rfl ?_
        refine j_iconst (pc := 27) 0 X dX12_rumour_27 rfl ?_
        refine j_iload_n (pc := 28) 1 X dX12_rumour_28 rfl ?_
        refine j_iload_n (pc := 29) 2 X dX12_rumour_29 rfl ?_
        refine j_iload_n (pc := 30) 3 X dX12_rumour_30 rfl ?_
        refine j_cVi (pc := 31) (As := [.int 0, .int a1, .int a2, .int a3]) (rest := []) X dX12_rumour_31 ml_X12_428 ck_X12_comes cv_X12_comes (hz _ sh_0) rfl (Nat.le_of_ble_eq_true rfl) rfl (Nat.le_of_ble_eq_true rfl) rfl hF (tX12_comes Z 0 a1 a2 a3 hz h5) (fun w8 h7 hF => ?_)
        refine j_goto (pc := 34) 38 X dX12_rumour_34 rfl ?_
        exact j_iret (pc := 38) X E dX12_rumour_38 hF
theorem dX12_death_0 : decode cX12_death 0 = .ok (.aload_n 0, 1) := by decide +kernel
theorem dX12_death_1 : decode cX12_death 1 = .ok (.iload_n 1, 1) := by decide +kernel
theorem dX12_death_2 : decode cX12_death 2 = .ok (.invokevirtual 425, 3) := by decide +kernel
theorem dX12_death_5 : decode cX12_death 5 = .ok (.ifCond .eq 22, 3) := by decide +kernel
theorem dX12_death_8 : decode cX12_death 8 = .ok (.aload_n 0, 1) := by decide +kernel
theorem dX12_death_9 : decode cX12_death 9 = .ok (.iload_n 2, 1) := by decide +kernel
theorem dX12_death_10 : decode cX12_death 10 = .ok (.invokevirtual 409, 3) := by decide +kernel
theorem dX12_death_13 : decode cX12_death 13 = .ok (.ifCond .eq 14, 3) := by decide +kernel
theorem dX12_death_16 : decode cX12_death 16 = .ok (.aload_n 0, 1) := by decide +kernel
theorem dX12_death_17 : decode cX12_death 17 = .ok (.iconst 1, 1) := by decide +kernel
theorem dX12_death_18 : decode cX12_death 18 = .ok (.iload_n 1, 1) := by decide +kernel
theorem dX12_death_19 : decode cX12_death 19 = .ok (.iload_n 2, 1) := by decide +kernel
theorem dX12_death_20 : decode cX12_death 20 = .ok (.iconst (-1), 1) := by decide +kernel
theorem dX12_death_21 : decode cX12_death 21 = .ok (.invokevirtual 428, 3) := by decide +kernel
theorem dX12_death_24 : decode cX12_death 24 = .ok (.goto 4, 3) := by decide +kernel
theorem dX12_death_27 : decode cX12_death 27 = .ok (.iconst (-1), 1) := by decide +kernel
theorem dX12_death_28 : decode cX12_death 28 = .ok (.ireturn, 1) := by decide +kernel
def fX12_death (a1 : Int32) (a2 : Int32) (h : Hp) : Option (Int32 × Hp) := bi (fX12_canCome a1 h) (fun w2 h1 => (if w2 = 0 then some ((-1), h1) else bi (fX12_isPerson a2 h1) (fun w4 h3 => (if w4 = 0 then some ((-1), h3) else bi (fX12_comes 1 a1 a2 (-1) h3) (fun w6 h5 => some (w6, h5))))))
set_option maxRecDepth 20000 in
theorem tX12_death (Z : ZT) (a1 : Int32) (a2 : Int32) (hz : HZM Z) (h : Hp) (r : Int32) (hr : Hp) (hF : fX12_death a1 a2 h = some (r, hr)) : MC Z yX12_death cX12_death 3 (some .int) 3 [.ref (Z.2.1 0), .int a1, .int a2] h (some (.int r)) hr := by
  unfold fX12_death at hF
  refine mc_start (by decide) (Nat.le_of_ble_eq_true rfl) (fun G X E => ?_)
  refine j_aload_n (pc := 0) 0 X dX12_death_0 rfl ?_
  refine j_iload_n (pc := 1) 1 X dX12_death_1 rfl ?_
  refine j_cVi (pc := 2) (As := [.int a1]) (rest := []) X dX12_death_2 ml_X12_425 ck_X12_canCome cv_X12_canCome (hz _ sh_0) rfl (Nat.le_of_ble_eq_true rfl) rfl (Nat.le_of_ble_eq_true rfl) rfl hF (tX12_canCome Z a1 hz h) (fun w2 h1 hF => ?_)
  refine j_if_eq (pc := 5) 27 X dX12_death_5 rfl hF (fun hF => ?_) (fun hF => ?_)
  · refine j_iconst (pc := 27) (-1) X dX12_death_27 rfl ?_
    exact j_iret (pc := 28) X E dX12_death_28 hF
  · refine j_aload_n (pc := 8) 0 X dX12_death_8 rfl ?_
    refine j_iload_n (pc := 9) 2 X dX12_death_9 rfl ?_
    refine j_cVi (pc := 10) (As := [.int a2]) (rest := []) X dX12_death_10 ml_X12_409 ck_X12_isPerson cv_X12_isPerson (hz _ sh_0) rfl (Nat.le_of_ble_eq_true rfl) rfl (Nat.le_of_ble_eq_true rfl) rfl hF (tX12_isPerson Z a2 hz h1) (fun w4 h3 hF => ?_)
    refine j_if_eq (pc := 13) 27 X dX12_death_13 rfl hF (fun hF => ?_) (fun hF => ?_)
    · refine j_iconst (pc := 27) (-1) X dX12_death_27 rfl ?_
      exact j_iret (pc := 28) X E dX12_death_28 hF
    · refine j_aload_n (pc := 16) 0 X dX12_death_16 rfl ?_
      refine j_iconst (pc := 17) 1 X dX12_death_17 rfl ?_
      refine j_iload_n (pc := 18) 1 X dX12_death_18 rfl ?_
      refine j_iload_n (pc := 19) 2 X dX12_death_19 rfl ?_
      refine j_iconst (pc := 20) (-1) X dX12_death_20 rfl ?_
      refine j_cVi (pc := 21) (As := [.int 1, .int a1, .int a2, .int (-1)]) (rest := []) X dX12_death_21 ml_X12_428 ck_X12_comes cv_X12_comes (hz _ sh_0) rfl (Nat.le_of_ble_eq_true rfl) rfl (Nat.le_of_ble_eq_true rfl) rfl hF (tX12_comes Z 1 a1 a2 (-1) hz h3) (fun w6 h5 hF => ?_)
      refine j_goto (pc := 24) 28 X dX12_death_24 rfl ?_
      exact j_iret (pc := 28) X E dX12_death_28 hF
theorem dX12_takeBack_0 : decode cX12_takeBack 0 = .ok (.aload_n 0, 1) := by decide +kernel
theorem dX12_takeBack_1 : decode cX12_takeBack 1 = .ok (.iload_n 1, 1) := by decide +kernel
theorem dX12_takeBack_2 : decode cX12_takeBack 2 = .ok (.invokevirtual 425, 3) := by decide +kernel
theorem dX12_takeBack_5 : decode cX12_takeBack 5 = .ok (.ifCond .eq 22, 3) := by decide +kernel
theorem dX12_takeBack_8 : decode cX12_takeBack 8 = .ok (.aload_n 0, 1) := by decide +kernel
theorem dX12_takeBack_9 : decode cX12_takeBack 9 = .ok (.iload_n 2, 1) := by decide +kernel
theorem dX12_takeBack_10 : decode cX12_takeBack 10 = .ok (.invokevirtual 400, 3) := by decide +kernel
theorem dX12_takeBack_13 : decode cX12_takeBack 13 = .ok (.ifCond .eq 14, 3) := by decide +kernel
theorem dX12_takeBack_16 : decode cX12_takeBack 16 = .ok (.aload_n 0, 1) := by decide +kernel
theorem dX12_takeBack_17 : decode cX12_takeBack 17 = .ok (.iconst 2, 1) := by decide +kernel
theorem dX12_takeBack_18 : decode cX12_takeBack 18 = .ok (.iload_n 1, 1) := by decide +kernel
theorem dX12_takeBack_19 : decode cX12_takeBack 19 = .ok (.iload_n 2, 1) := by decide +kernel
theorem dX12_takeBack_20 : decode cX12_takeBack 20 = .ok (.iconst (-1), 1) := by decide +kernel
theorem dX12_takeBack_21 : decode cX12_takeBack 21 = .ok (.invokevirtual 428, 3) := by decide +kernel
theorem dX12_takeBack_24 : decode cX12_takeBack 24 = .ok (.goto 4, 3) := by decide +kernel
theorem dX12_takeBack_27 : decode cX12_takeBack 27 = .ok (.iconst (-1), 1) := by decide +kernel
theorem dX12_takeBack_28 : decode cX12_takeBack 28 = .ok (.ireturn, 1) := by decide +kernel
def fX12_takeBack (a1 : Int32) (a2 : Int32) (h : Hp) : Option (Int32 × Hp) := bi (fX12_canCome a1 h) (fun w2 h1 => (if w2 = 0 then some ((-1), h1) else bi (fX12_hasLetter a2 h1) (fun w4 h3 => (if w4 = 0 then some ((-1), h3) else bi (fX12_comes 2 a1 a2 (-1) h3) (fun w6 h5 => some (w6, h5))))))
set_option maxRecDepth 20000 in
theorem tX12_takeBack (Z : ZT) (a1 : Int32) (a2 : Int32) (hz : HZM Z) (h : Hp) (r : Int32) (hr : Hp) (hF : fX12_takeBack a1 a2 h = some (r, hr)) : MC Z yX12_takeBack cX12_takeBack 3 (some .int) 3 [.ref (Z.2.1 0), .int a1, .int a2] h (some (.int r)) hr := by
  unfold fX12_takeBack at hF
  refine mc_start (by decide) (Nat.le_of_ble_eq_true rfl) (fun G X E => ?_)
  refine j_aload_n (pc := 0) 0 X dX12_takeBack_0 rfl ?_
  refine j_iload_n (pc := 1) 1 X dX12_takeBack_1 rfl ?_
  refine j_cVi (pc := 2) (As := [.int a1]) (rest := []) X dX12_takeBack_2 ml_X12_425 ck_X12_canCome cv_X12_canCome (hz _ sh_0) rfl (Nat.le_of_ble_eq_true rfl) rfl (Nat.le_of_ble_eq_true rfl) rfl hF (tX12_canCome Z a1 hz h) (fun w2 h1 hF => ?_)
  refine j_if_eq (pc := 5) 27 X dX12_takeBack_5 rfl hF (fun hF => ?_) (fun hF => ?_)
  · refine j_iconst (pc := 27) (-1) X dX12_takeBack_27 rfl ?_
    exact j_iret (pc := 28) X E dX12_takeBack_28 hF
  · refine j_aload_n (pc := 8) 0 X dX12_takeBack_8 rfl ?_
    refine j_iload_n (pc := 9) 2 X dX12_takeBack_9 rfl ?_
    refine j_cVi (pc := 10) (As := [.int a2]) (rest := []) X dX12_takeBack_10 ml_X12_400 ck_X12_hasLetter cv_X12_hasLetter (hz _ sh_0) rfl (Nat.le_of_ble_eq_true rfl) rfl (Nat.le_of_ble_eq_true rfl) rfl hF (tX12_hasLetter Z a2 hz h1) (fun w4 h3 hF => ?_)
    refine j_if_eq (pc := 13) 27 X dX12_takeBack_13 rfl hF (fun hF => ?_) (fun hF => ?_)
    · refine j_iconst (pc := 27) (-1) X dX12_takeBack_27 rfl ?_
      exact j_iret (pc := 28) X E dX12_takeBack_28 hF
    · refine j_aload_n (pc := 16) 0 X dX12_takeBack_16 rfl ?_
      refine j_iconst (pc := 17) 2 X dX12_takeBack_17 rfl ?_
      refine j_iload_n (pc := 18) 1 X dX12_takeBack_18 rfl ?_
      refine j_iload_n (pc := 19) 2 X dX12_takeBack_19 rfl ?_
      refine j_iconst (pc := 20) (-1) X dX12_takeBack_20 rfl ?_
      refine j_cVi (pc := 21) (As := [.int 2, .int a1, .int a2, .int (-1)]) (rest := []) X dX12_takeBack_21 ml_X12_428 ck_X12_comes cv_X12_comes (hz _ sh_0) rfl (Nat.le_of_ble_eq_true rfl) rfl (Nat.le_of_ble_eq_true rfl) rfl hF (tX12_comes Z 2 a1 a2 (-1) hz h3) (fun w6 h5 hF => ?_)
      refine j_goto (pc := 24) 28 X dX12_takeBack_24 rfl ?_
      exact j_iret (pc := 28) X E dX12_takeBack_28 hF
theorem dX12_early_0 : decode cX12_early 0 = .ok (.aload_n 0, 1) := by decide +kernel
theorem dX12_early_1 : decode cX12_early 1 = .ok (.iload_n 1, 1) := by decide +kernel
theorem dX12_early_2 : decode cX12_early 2 = .ok (.invokevirtual 425, 3) := by decide +kernel
theorem dX12_early_5 : decode cX12_early 5 = .ok (.ifCond .eq 22, 3) := by decide +kernel
theorem dX12_early_8 : decode cX12_early 8 = .ok (.aload_n 0, 1) := by decide +kernel
theorem dX12_early_9 : decode cX12_early 9 = .ok (.iload_n 2, 1) := by decide +kernel
theorem dX12_early_10 : decode cX12_early 10 = .ok (.invokevirtual 400, 3) := by decide +kernel
theorem dX12_early_13 : decode cX12_early 13 = .ok (.ifCond .eq 14, 3) := by decide +kernel
theorem dX12_early_16 : decode cX12_early 16 = .ok (.aload_n 0, 1) := by decide +kernel
theorem dX12_early_17 : decode cX12_early 17 = .ok (.iconst 3, 1) := by decide +kernel
theorem dX12_early_18 : decode cX12_early 18 = .ok (.iload_n 1, 1) := by decide +kernel
theorem dX12_early_19 : decode cX12_early 19 = .ok (.iload_n 2, 1) := by decide +kernel
theorem dX12_early_20 : decode cX12_early 20 = .ok (.iconst (-1), 1) := by decide +kernel
theorem dX12_early_21 : decode cX12_early 21 = .ok (.invokevirtual 428, 3) := by decide +kernel
theorem dX12_early_24 : decode cX12_early 24 = .ok (.goto 4, 3) := by decide +kernel
theorem dX12_early_27 : decode cX12_early 27 = .ok (.iconst (-1), 1) := by decide +kernel
theorem dX12_early_28 : decode cX12_early 28 = .ok (.ireturn, 1) := by decide +kernel
def fX12_early (a1 : Int32) (a2 : Int32) (h : Hp) : Option (Int32 × Hp) := bi (fX12_canCome a1 h) (fun w2 h1 => (if w2 = 0 then some ((-1), h1) else bi (fX12_hasLetter a2 h1) (fun w4 h3 => (if w4 = 0 then some ((-1), h3) else bi (fX12_comes 3 a1 a2 (-1) h3) (fun w6 h5 => some (w6, h5))))))
set_option maxRecDepth 20000 in
theorem tX12_early (Z : ZT) (a1 : Int32) (a2 : Int32) (hz : HZM Z) (h : Hp) (r : Int32) (hr : Hp) (hF : fX12_early a1 a2 h = some (r, hr)) : MC Z yX12_early cX12_early 3 (some .int) 3 [.ref (Z.2.1 0), .int a1, .int a2] h (some (.int r)) hr := by
  unfold fX12_early at hF
  refine mc_start (by decide) (Nat.le_of_ble_eq_true rfl) (fun G X E => ?_)
  refine j_aload_n (pc := 0) 0 X dX12_early_0 rfl ?_
  refine j_iload_n (pc := 1) 1 X dX12_early_1 rfl ?_
  refine j_cVi (pc := 2) (As := [.int a1]) (rest := []) X dX12_early_2 ml_X12_425 ck_X12_canCome cv_X12_canCome (hz _ sh_0) rfl (Nat.le_of_ble_eq_true rfl) rfl (Nat.le_of_ble_eq_true rfl) rfl hF (tX12_canCome Z a1 hz h) (fun w2 h1 hF => ?_)
  refine j_if_eq (pc := 5) 27 X dX12_early_5 rfl hF (fun hF => ?_) (fun hF => ?_)
  · refine j_iconst (pc := 27) (-1) X dX12_early_27 rfl ?_
    exact j_iret (pc := 28) X E dX12_early_28 hF
  · refine j_aload_n (pc := 8) 0 X dX12_early_8 rfl ?_
    refine j_iload_n (pc := 9) 2 X dX12_early_9 rfl ?_
    refine j_cVi (pc := 10) (As := [.int a2]) (rest := []) X dX12_early_10 ml_X12_400 ck_X12_hasLetter cv_X12_hasLetter (hz _ sh_0) rfl (Nat.le_of_ble_eq_true rfl) rfl (Nat.le_of_ble_eq_true rfl) rfl hF (tX12_hasLetter Z a2 hz h1) (fun w4 h3 hF => ?_)
    refine j_if_eq (pc := 13) 27 X dX12_early_13 rfl hF (fun hF => ?_) (fun hF => ?_)
    · refine j_iconst (pc := 27) (-1) X dX12_early_27 rfl ?_
      exact j_iret (pc := 28) X E dX12_early_28 hF
    · refine j_aload_n (pc := 16) 0 X dX12_early_16 rfl ?_
      refine j_iconst (pc := 17) 3 X dX12_early_17 rfl ?_
      refine j_iload_n (pc := 18) 1 X dX12_early_18 rfl ?_
      refine j_iload_n (pc := 19) 2 X dX12_early_19 rfl ?_
      refine j_iconst (pc := 20) (-1) X dX12_early_20 rfl ?_
      refine j_cVi (pc := 21) (As := [.int 3, .int a1, .int a2, .int (-1)]) (rest := []) X dX12_early_21 ml_X12_428 ck_X12_comes cv_X12_comes (hz _ sh_0) rfl (Nat.le_of_ble_eq_true rfl) rfl (Nat.le_of_ble_eq_true rfl) rfl hF (tX12_comes Z 3 a1 a2 (-1) hz h3) (fun w6 h5 hF => ?_)
      refine j_goto (pc := 24) 28 X dX12_early_24 rfl ?_
      exact j_iret (pc := 28) X E dX12_early_28 hF
theorem dX12_date_0 : decode cX12_date 0 = .ok (.aload_n 0, 1) := by decide +kernel
theorem dX12_date_1 : decode cX12_date 1 = .ok (.iload_n 1, 1) := by decide +kernel
theorem dX12_date_2 : decode cX12_date 2 = .ok (.invokevirtual 425, 3) := by decide +kernel
theorem dX12_date_5 : decode cX12_date 5 = .ok (.ifCond .eq 29, 3) := by decide +kernel
theorem dX12_date_8 : decode cX12_date 8 = .ok (.aload_n 0, 1) := by decide +kernel
theorem dX12_date_9 : decode cX12_date 9 = .ok (.iload_n 2, 1) := by decide +kernel
theorem dX12_date_10 : decode cX12_date 10 = .ok (.invokevirtual 400, 3) := by decide +kernel
theorem dX12_date_13 : decode cX12_date 13 = .ok (.ifCond .eq 21, 3) := by decide +kernel
theorem dX12_date_16 : decode cX12_date 16 = .ok (.iload_n 3, 1) := by decide +kernel
theorem dX12_date_17 : decode cX12_date 17 = .ok (.invokestatic 412, 3) := by decide +kernel
theorem dX12_date_20 : decode cX12_date 20 = .ok (.ifCond .eq 14, 3) := by decide +kernel
theorem dX12_date_23 : decode cX12_date 23 = .ok (.aload_n 0, 1) := by decide +kernel
theorem dX12_date_24 : decode cX12_date 24 = .ok (.iconst 4, 1) := by decide +kernel
theorem dX12_date_25 : decode cX12_date 25 = .ok (.iload_n 1, 1) := by decide +kernel
theorem dX12_date_26 : decode cX12_date 26 = .ok (.iload_n 2, 1) := by decide +kernel
theorem dX12_date_27 : decode cX12_date 27 = .ok (.iload_n 3, 1) := by decide +kernel
theorem dX12_date_28 : decode cX12_date 28 = .ok (.invokevirtual 428, 3) := by decide +kernel
theorem dX12_date_31 : decode cX12_date 31 = .ok (.goto 4, 3) := by decide +kernel
theorem dX12_date_34 : decode cX12_date 34 = .ok (.iconst (-1), 1) := by decide +kernel
theorem dX12_date_35 : decode cX12_date 35 = .ok (.ireturn, 1) := by decide +kernel
def fX12_date (a1 : Int32) (a2 : Int32) (a3 : Int32) (h : Hp) : Option (Int32 × Hp) := bi (fX12_canCome a1 h) (fun w2 h1 => (if w2 = 0 then some ((-1), h1) else bi (fX12_hasLetter a2 h1) (fun w4 h3 => (if w4 = 0 then some ((-1), h3) else bi (fX12_isYear a3 h3) (fun w6 h5 => (if w6 = 0 then some ((-1), h5) else bi (fX12_comes 4 a1 a2 a3 h5) (fun w8 h7 => some (w8, h7))))))))
set_option maxRecDepth 20000 in
theorem tX12_date (Z : ZT) (a1 : Int32) (a2 : Int32) (a3 : Int32) (hz : HZM Z) (h : Hp) (r : Int32) (hr : Hp) (hF : fX12_date a1 a2 a3 h = some (r, hr)) : MC Z yX12_date cX12_date 4 (some .int) 3 [.ref (Z.2.1 0), .int a1, .int a2, .int a3] h (some (.int r)) hr := by
  unfold fX12_date at hF
  refine mc_start (by decide) (Nat.le_of_ble_eq_true rfl) (fun G X E => ?_)
  refine j_aload_n (pc := 0) 0 X dX12_date_0 rfl ?_
  refine j_iload_n (pc := 1) 1 X dX12_date_1 rfl ?_
  refine j_cVi (pc := 2) (As := [.int a1]) (rest := []) X dX12_date_2 ml_X12_425 ck_X12_canCome cv_X12_canCome (hz _ sh_0) rfl (Nat.le_of_ble_eq_true rfl) rfl (Nat.le_of_ble_eq_true rfl) rfl hF (tX12_canCome Z a1 hz h) (fun w2 h1 hF => ?_)
  refine j_if_eq (pc := 5) 34 X dX12_date_5 rfl hF (fun hF => ?_) (fun hF => ?_)
  · refine j_iconst (pc := 34) (-1) X dX12_date_34 rfl ?_
    exact j_iret (pc := 35) X E dX12_date_35 hF
  · refine j_aload_n (pc := 8) 0 X dX12_date_8 rfl ?_
    refine j_iload_n (pc := 9) 2 X dX12_date_9 rfl ?_
    refine j_cVi (pc := 10) (As := [.int a2]) (rest := []) X dX12_date_10 ml_X12_400 ck_X12_hasLetter cv_X12_hasLetter (hz _ sh_0) rfl (Nat.le_of_ble_eq_true rfl) rfl (Nat.le_of_ble_eq_true rfl) rfl hF (tX12_hasLetter Z a2 hz h1) (fun w4 h3 hF => ?_)
    refine j_if_eq (pc := 13) 34 X dX12_date_13 rfl hF (fun hF => ?_) (fun hF => ?_)
    · refine j_iconst (pc := 34) (-1) X dX12_date_34 rfl ?_
      exact j_iret (pc := 35) X E dX12_date_35 hF
    · refine j_iload_n (pc := 16) 3 X dX12_date_16 rfl ?_
      refine j_cSi (pc := 17) (As := [.int a3]) (rest := []) X dX12_date_17 ml_X12_412 ck_X12_isYear sk_X12_isYear (Nat.le_of_ble_eq_true rfl) rfl (Nat.le_of_ble_eq_true rfl) rfl hF (tX12_isYear Z a3 trivial h3) (fun w6 h5 hF => ?_)
      refine j_if_eq (pc := 20) 34 X dX12_date_20 rfl hF (fun hF => ?_) (fun hF => ?_)
      · refine j_iconst (pc := 34) (-1) X dX12_date_34 rfl ?_
        exact j_iret (pc := 35) X E dX12_date_35 hF
      · refine j_aload_n (pc := 23) 0 X dX12_date_23 rfl ?_
        refine j_iconst (pc := 24) 4 X dX12_date_24 rfl ?_
        refine j_iload_n (pc := 25) 1 X dX12_date_25 rfl ?_
        refine j_iload_n (pc := 26) 2 X dX12_date_26 rfl ?_
        refine j_iload_n (pc := 27) 3 X dX12_date_27 rfl ?_
        refine j_cVi (pc := 28) (As := [.int 4, .int a1, .int a2, .int a3]) (rest := []) X dX12_date_28 ml_X12_428 ck_X12_comes cv_X12_comes (hz _ sh_0) rfl (Nat.le_of_ble_eq_true rfl) rfl (Nat.le_of_ble_eq_true rfl) rfl hF (tX12_comes Z 4 a1 a2 a3 hz h5) (fun w8 h7 hF => ?_)
        refine j_goto (pc := 31) 35 X dX12_date_31 rfl ?_
        exact j_iret (pc := 35) X E dX12_date_35 hF
theorem dX12_flood_0 : decode cX12_flood 0 = .ok (.aload_n 0, 1) := by decide +kernel
theorem dX12_flood_1 : decode cX12_flood 1 = .ok (.iload_n 1, 1) := by decide +kernel
theorem dX12_flood_2 : decode cX12_flood 2 = .ok (.invokevirtual 425, 3) := by decide +kernel
theorem dX12_flood_5 : decode cX12_flood 5 = .ok (.ifCond .eq 23, 3) := by decide +kernel
theorem dX12_flood_8 : decode cX12_flood 8 = .ok (.iload_n 2, 1) := by decide +kernel
theorem dX12_flood_9 : decode cX12_flood 9 = .ok (.iconst 0, 1) := by decide +kernel
theorem dX12_flood_10 : decode cX12_flood 10 = .ok (.iconst 3, 1) := by decide +kernel
theorem dX12_flood_11 : decode cX12_flood 11 = .ok (.invokestatic 383, 3) := by decide +kernel
theorem dX12_flood_14 : decode cX12_flood 14 = .ok (.ifCond .eq 14, 3) := by decide +kernel
theorem dX12_flood_17 : decode cX12_flood 17 = .ok (.aload_n 0, 1) := by decide +kernel
theorem dX12_flood_18 : decode cX12_flood 18 = .ok (.iconst 5, 1) := by decide +kernel
theorem dX12_flood_19 : decode cX12_flood 19 = .ok (.iload_n 1, 1) := by decide +kernel
theorem dX12_flood_20 : decode cX12_flood 20 = .ok (.iload_n 2, 1) := by decide +kernel
theorem dX12_flood_21 : decode cX12_flood 21 = .ok (.iconst (-1), 1) := by decide +kernel
theorem dX12_flood_22 : decode cX12_flood 22 = .ok (.invokevirtual 428, 3) := by decide +kernel
theorem dX12_flood_25 : decode cX12_flood 25 = .ok (.goto 4, 3) := by decide +kernel
theorem dX12_flood_28 : decode cX12_flood 28 = .ok (.iconst (-1), 1) := by decide +kernel
theorem dX12_flood_29 : decode cX12_flood 29 = .ok (.ireturn, 1) := by decide +kernel
def fX12_flood (a1 : Int32) (a2 : Int32) (h : Hp) : Option (Int32 × Hp) := bi (fX12_canCome a1 h) (fun w2 h1 => (if w2 = 0 then some ((-1), h1) else bi (fX12_in a2 0 3 h1) (fun w4 h3 => (if w4 = 0 then some ((-1), h3) else bi (fX12_comes 5 a1 a2 (-1) h3) (fun w6 h5 => some (w6, h5))))))
set_option maxRecDepth 20000 in
theorem tX12_flood (Z : ZT) (a1 : Int32) (a2 : Int32) (hz : HZM Z) (h : Hp) (r : Int32) (hr : Hp) (hF : fX12_flood a1 a2 h = some (r, hr)) : MC Z yX12_flood cX12_flood 3 (some .int) 3 [.ref (Z.2.1 0), .int a1, .int a2] h (some (.int r)) hr := by
  unfold fX12_flood at hF
  refine mc_start (by decide) (Nat.le_of_ble_eq_true rfl) (fun G X E => ?_)
  refine j_aload_n (pc := 0) 0 X dX12_flood_0 rfl ?_
  refine j_iload_n (pc := 1) 1 X dX12_flood_1 rfl ?_
  refine j_cVi (pc := 2) (As := [.int a1]) (rest := []) X dX12_flood_2 ml_X12_425 ck_X12_canCome cv_X12_canCome (hz _ sh_0) rfl (Nat.le_of_ble_eq_true rfl) rfl (Nat.le_of_ble_eq_true rfl) rfl hF (tX12_canCome Z a1 hz h) (fun w2 h1 hF => ?_)
  refine j_if_eq (pc := 5) 28 X dX12_flood_5 rfl hF (fun hF => ?_) (fun hF => ?_)
  · refine j_iconst (pc := 28) (-1) X dX12_flood_28 rfl ?_
    exact j_iret (pc := 29) X E dX12_flood_29 hF
  · refine j_iload_n (pc := 8) 2 X dX12_flood_8 rfl ?_
    refine j_iconst (pc := 9) 0 X dX12_flood_9 rfl ?_
    refine j_iconst (pc := 10) 3 X dX12_flood_10 rfl ?_
    refine j_cSi (pc := 11) (As := [.int a2, .int 0, .int 3]) (rest := []) X dX12_flood_11 ml_X12_383 ck_X12_in sk_X12_in (Nat.le_of_ble_eq_true rfl) rfl (Nat.le_of_ble_eq_true rfl) rfl hF (tX12_in Z a2 0 3 trivial h1) (fun w4 h3 hF => ?_)
    refine j_if_eq (pc := 14) 28 X dX12_flood_14 rfl hF (fun hF => ?_) (fun hF => ?_)
    · refine j_iconst (pc := 28) (-1) X dX12_flood_28 rfl ?_
      exact j_iret (pc := 29) X E dX12_flood_29 hF
    · refine j_aload_n (pc := 17) 0 X dX12_flood_17 rfl ?_
      refine j_iconst (pc := 18) 5 X dX12_flood_18 rfl ?_
      refine j_iload_n (pc := 19) 1 X dX12_flood_19 rfl ?_
      refine j_iload_n (pc := 20) 2 X dX12_flood_20 rfl ?_
      refine j_iconst (pc := 21) (-1) X dX12_flood_21 rfl ?_
      refine j_cVi (pc := 22) (As := [.int 5, .int a1, .int a2, .int (-1)]) (rest := []) X dX12_flood_22 ml_X12_428 ck_X12_comes cv_X12_comes (hz _ sh_0) rfl (Nat.le_of_ble_eq_true rfl) rfl (Nat.le_of_ble_eq_true rfl) rfl hF (tX12_comes Z 5 a1 a2 (-1) hz h3) (fun w6 h5 hF => ?_)
      refine j_goto (pc := 25) 29 X dX12_flood_25 rfl ?_
      exact j_iret (pc := 29) X E dX12_flood_29 hF
theorem dX12_annul_0 : decode cX12_annul 0 = .ok (.aload_n 0, 1) := by decide +kernel
theorem dX12_annul_1 : decode cX12_annul 1 = .ok (.getfield 305, 3) := by decide +kernel
theorem dX12_annul_4 : decode cX12_annul 4 = .ok (.bipush 60, 2) := by decide +kernel
theorem dX12_annul_6 : decode cX12_annul 6 = .ok (.if_icmp .eq 28, 3) := by decide +kernel
theorem dX12_annul_9 : decode cX12_annul 9 = .ok (.iload_n 1, 1) := by decide +kernel
theorem dX12_annul_10 : decode cX12_annul 10 = .ok (.iconst 0, 1) := by decide +kernel
theorem dX12_annul_11 : decode cX12_annul 11 = .ok (.aload_n 0, 1) := by decide +kernel
theorem dX12_annul_12 : decode cX12_annul 12 = .ok (.getfield 305, 3) := by decide +kernel
theorem dX12_annul_15 : decode cX12_annul 15 = .ok (.iconst 1, 1) := by decide +kernel
theorem dX12_annul_16 : decode cX12_annul 16 = .ok (.isub, 1) := by decide +kernel
theorem dX12_annul_17 : decode cX12_annul 17 = .ok (.invokestatic 383, 3) := by decide +kernel
theorem dX12_annul_20 : decode cX12_annul 20 = .ok (.ifCond .eq 14, 3) := by decide +kernel
theorem dX12_annul_23 : decode cX12_annul 23 = .ok (.aload_n 0, 1) := by decide +kernel
theorem dX12_annul_24 : decode cX12_annul 24 = .ok (.getfield 137, 3) := by decide +kernel
theorem dX12_annul_27 : decode cX12_annul 27 = .ok (.iload_n 1, 1) := by decide +kernel
theorem dX12_annul_28 : decode cX12_annul 28 = .ok (.iaload, 1) := by decide +kernel
theorem dX12_annul_29 : decode cX12_annul 29 = .ok (.bipush 6, 2) := by decide +kernel
theorem dX12_annul_31 : decode cX12_annul 31 = .ok (.if_icmp .ne 7, 3) := by decide +kernel
theorem dX12_annul_34 : decode cX12_annul 34 = .ok (.iconst (-1), 1) := by decide +kernel
theorem dX12_annul_35 : decode cX12_annul 35 = .ok (.goto 12, 3) := by decide +kernel
theorem dX12_annul_38 : decode cX12_annul 38 = .ok (.aload_n 0, 1) := by decide +kernel
theorem dX12_annul_39 : decode cX12_annul 39 = .ok (.bipush 6, 2) := by decide +kernel
theorem dX12_annul_41 : decode cX12_annul 41 = .ok (.iconst (-1), 1) := by decide +kernel
theorem dX12_annul_42 : decode cX12_annul 42 = .ok (.iload_n 1, 1) := by decide +kernel
theorem dX12_annul_43 : decode cX12_annul 43 = .ok (.iconst (-1), 1) := by decide +kernel
theorem dX12_annul_44 : decode cX12_annul 44 = .ok (.invokevirtual 428, 3) := by decide +kernel
theorem dX12_annul_47 : decode cX12_annul 47 = .ok (.ireturn, 1) := by decide +kernel
def fX12_annul (a1 : Int32) (h : Hp) : Option (Int32 × Hp) := (if (h.1 0 59) = 60 then some ((-1), h) else bi (fX12_in a1 0 ((h.1 0 59) - 1) h) (fun w2 h1 => (if w2 = 0 then some ((-1), h1) else ck (inb a1 60) ((if (h1.1 40 (ix a1)) = 6 then some ((-1), h1) else bi (fX12_comes 6 (-1) a1 (-1) h1) (fun w4 h3 => some (w4, h3)))))))
set_option maxRecDepth 20000 in
theorem tX12_annul (Z : ZT) (a1 : Int32) (hz : HZM Z) (h : Hp) (r : Int32) (hr : Hp) (hF : fX12_annul a1 h = some (r, hr)) : MC Z yX12_annul cX12_annul 2 (some .int) 1 [.ref (Z.2.1 0), .int a1] h (some (.int r)) hr := by
  unfold fX12_annul at hF
  refine mc_start (by decide) (Nat.le_of_ble_eq_true rfl) (fun G X E => ?_)
  refine j_aload_n (pc := 0) 0 X dX12_annul_0 rfl ?_
  refine j_geti (pc := 1) X dX12_annul_1 (hz _ sh_0) fl_X12_305 rfl ?_
  refine j_bipush (pc := 4) 60 X dX12_annul_4 rfl ?_
  refine j_icmp_eq (pc := 6) 34 X dX12_annul_6 rfl hF (fun hF => ?_) (fun hF => ?_)
  · refine j_iconst (pc := 34) (-1) X dX12_annul_34 rfl ?_
    refine j_goto (pc := 35) 47 X dX12_annul_35 rfl ?_
    exact j_iret (pc := 47) X E dX12_annul_47 hF
  · refine j_iload_n (pc := 9) 1 X dX12_annul_9 rfl ?_
    refine j_iconst (pc := 10) 0 X dX12_annul_10 rfl ?_
    refine j_aload_n (pc := 11) 0 X dX12_annul_11 rfl ?_
    refine j_geti (pc := 12) X dX12_annul_12 (hz _ sh_0) fl_X12_305 rfl ?_
    refine j_iconst (pc := 15) 1 X dX12_annul_15 rfl ?_
    refine j_isub (pc := 16) X dX12_annul_16 ?_
    refine j_cSi (pc := 17) (As := [.int a1, .int 0, .int ((h.1 0 59) - 1)]) (rest := []) X dX12_annul_17 ml_X12_383 ck_X12_in sk_X12_in (Nat.le_of_ble_eq_true rfl) rfl (Nat.le_of_ble_eq_true rfl) rfl hF (tX12_in Z a1 0 ((h.1 0 59) - 1) trivial h) (fun w2 h1 hF => ?_)
    refine j_if_eq (pc := 20) 34 X dX12_annul_20 rfl hF (fun hF => ?_) (fun hF => ?_)
    · refine j_iconst (pc := 34) (-1) X dX12_annul_34 rfl ?_
      refine j_goto (pc := 35) 47 X dX12_annul_35 rfl ?_
      exact j_iret (pc := 47) X E dX12_annul_47 hF
    · refine j_aload_n (pc := 23) 0 X dX12_annul_23 rfl ?_
      refine j_getr (pc := 24) X dX12_annul_24 (hz _ sh_0) fl_X12_137 rfl ?_
      refine j_iload_n (pc := 27) 1 X dX12_annul_27 rfl ?_
      refine j_iald (pc := 28) X dX12_annul_28 (hz _ sh_40) hF (fun hF => ?_)
      refine j_bipush (pc := 29) 6 X dX12_annul_29 rfl ?_
      refine j_icmp_ne (pc := 31) 38 X dX12_annul_31 rfl hF (fun hF => ?_) (fun hF => ?_)
      · refine j_aload_n (pc := 38) 0 X dX12_annul_38 rfl ?_
        refine j_bipush (pc := 39) 6 X dX12_annul_39 rfl ?_
        refine j_iconst (pc := 41) (-1) X dX12_annul_41 rfl ?_
        refine j_iload_n (pc := 42) 1 X dX12_annul_42 rfl ?_
        refine j_iconst (pc := 43) (-1) X dX12_annul_43 rfl ?_
        refine j_cVi (pc := 44) (As := [.int 6, .int (-1), .int a1, .int (-1)]) (rest := []) X dX12_annul_44 ml_X12_428 ck_X12_comes cv_X12_comes (hz _ sh_0) rfl (Nat.le_of_ble_eq_true rfl) rfl (Nat.le_of_ble_eq_true rfl) rfl hF (tX12_comes Z 6 (-1) a1 (-1) hz h1) (fun w4 h3 hF => ?_)
        exact j_iret (pc := 47) X E dX12_annul_47 hF
      · refine j_iconst (pc := 34) (-1) X dX12_annul_34 rfl ?_
        refine j_goto (pc := 35) 47 X dX12_annul_35 rfl ?_
        exact j_iret (pc := 47) X E dX12_annul_47 hF
theorem dX12_fact_0 : decode cX12_fact 0 = .ok (.iload_n 1, 1) := by decide +kernel
theorem dX12_fact_1 : decode cX12_fact 1 = .ok (.iconst 0, 1) := by decide +kernel
theorem dX12_fact_2 : decode cX12_fact 2 = .ok (.aload_n 0, 1) := by decide +kernel
theorem dX12_fact_3 : decode cX12_fact 3 = .ok (.getfield 305, 3) := by decide +kernel
theorem dX12_fact_6 : decode cX12_fact 6 = .ok (.iconst 1, 1) := by decide +kernel
theorem dX12_fact_7 : decode cX12_fact 7 = .ok (.isub, 1) := by decide +kernel
theorem dX12_fact_8 : decode cX12_fact 8 = .ok (.invokestatic 383, 3) := by decide +kernel
theorem dX12_fact_11 : decode cX12_fact 11 = .ok (.ifCond .ne 5, 3) := by decide +kernel
theorem dX12_fact_14 : decode cX12_fact 14 = .ok (.iconst (-1), 1) := by decide +kernel
theorem dX12_fact_15 : decode cX12_fact 15 = .ok (.ireturn, 1) := by decide +kernel
theorem dX12_fact_16 : decode cX12_fact 16 = .ok (.iload_n 2, 1) := by decide +kernel
theorem dX12_fact_17 : decode cX12_fact 17 = .ok (.tableswitch 59 0 3 #[31, 38, 45, 52], 31) := by decide +kernel
theorem dX12_fact_48 : decode cX12_fact 48 = .ok (.aload_n 0, 1) := by decide +kernel
theorem dX12_fact_49 : decode cX12_fact 49 = .ok (.getfield 137, 3) := by decide +kernel
theorem dX12_fact_52 : decode cX12_fact 52 = .ok (.iload_n 1, 1) := by decide +kernel
theorem dX12_fact_53 : decode cX12_fact 53 = .ok (.iaload, 1) := by decide +kernel
theorem dX12_fact_54 : decode cX12_fact 54 = .ok (.ireturn, 1) := by decide +kernel
theorem dX12_fact_55 : decode cX12_fact 55 = .ok (.aload_n 0, 1) := by decide +kernel
theorem dX12_fact_56 : decode cX12_fact 56 = .ok (.getfield 140, 3) := by decide +kernel
theorem dX12_fact_59 : decode cX12_fact 59 = .ok (.iload_n 1, 1) := by decide +kernel
theorem dX12_fact_60 : decode cX12_fact 60 = .ok (.iaload, 1) := by decide +kernel
theorem dX12_fact_61 : decode cX12_fact 61 = .ok (.ireturn, 1) := by decide +kernel
theorem dX12_fact_62 : decode cX12_fact 62 = .ok (.aload_n 0, 1) := by decide +kernel
theorem dX12_fact_63 : decode cX12_fact 63 = .ok (.getfield 143, 3) := by decide +kernel
theorem dX12_fact_66 : decode cX12_fact 66 = .ok (.iload_n 1, 1) := by decide +kernel
theorem dX12_fact_67 : decode cX12_fact 67 = .ok (.iaload, 1) := by decide +kernel
theorem dX12_fact_68 : decode cX12_fact 68 = .ok (.ireturn, 1) := by decide +kernel
theorem dX12_fact_69 : decode cX12_fact 69 = .ok (.aload_n 0, 1) := by decide +kernel
theorem dX12_fact_70 : decode cX12_fact 70 = .ok (.getfield 146, 3) := by decide +kernel
theorem dX12_fact_73 : decode cX12_fact 73 = .ok (.iload_n 1, 1) := by decide +kernel
theorem dX12_fact_74 : decode cX12_fact 74 = .ok (.iaload, 1) := by decide +kernel
theorem dX12_fact_75 : decode cX12_fact 75 = .ok (.ireturn, 1) := by decide +kernel
theorem dX12_fact_76 : decode cX12_fact 76 = .ok (.iconst (-1), 1) := by decide +kernel
theorem dX12_fact_77 : decode cX12_fact 77 = .ok (.ireturn, 1) := by decide +kernel
def fX12_fact (a1 : Int32) (a2 : Int32) (h : Hp) : Option (Int32 × Hp) := bi (fX12_in a1 0 ((h.1 0 59) - 1) h) (fun w2 h1 => (if w2 = 0 then some ((-1), h1) else (if a2.toInt < 0 ∨ 3 < a2.toInt then some ((-1), h1) else if a2 = 0 then ck (inb a1 60) (some ((h1.1 40 (ix a1)), h1)) else if a2 = 1 then ck (inb a1 60) (some ((h1.1 41 (ix a1)), h1)) else if a2 = 2 then ck (inb a1 60) (some ((h1.1 42 (ix a1)), h1)) else if a2 = 3 then ck (inb a1 60) (some ((h1.1 43 (ix a1)), h1)) else none)))
set_option maxRecDepth 20000 in
theorem tX12_fact (Z : ZT) (a1 : Int32) (a2 : Int32) (hz : HZM Z) (h : Hp) (r : Int32) (hr : Hp) (hF : fX12_fact a1 a2 h = some (r, hr)) : MC Z yX12_fact cX12_fact 3 (some .int) 1 [.ref (Z.2.1 0), .int a1, .int a2] h (some (.int r)) hr := by
  unfold fX12_fact at hF
  refine mc_start (by decide) (Nat.le_of_ble_eq_true rfl) (fun G X E => ?_)
  refine j_iload_n (pc := 0) 1 X dX12_fact_0 rfl ?_
  refine j_iconst (pc := 1) 0 X dX12_fact_1 rfl ?_
  refine j_aload_n (pc := 2) 0 X dX12_fact_2 rfl ?_
  refine j_geti (pc := 3) X dX12_fact_3 (hz _ sh_0) fl_X12_305 rfl ?_
  refine j_iconst (pc := 6) 1 X dX12_fact_6 rfl ?_
  refine j_isub (pc := 7) X dX12_fact_7 ?_
  refine j_cSi (pc := 8) (As := [.int a1, .int 0, .int ((h.1 0 59) - 1)]) (rest := []) X dX12_fact_8 ml_X12_383 ck_X12_in sk_X12_in (Nat.le_of_ble_eq_true rfl) rfl (Nat.le_of_ble_eq_true rfl) rfl hF (tX12_in Z a1 0 ((h.1 0 59) - 1) trivial h) (fun w2 h1 hF => ?_)
  refine j_if_ne (pc := 11) 16 X dX12_fact_11 rfl hF (fun hF => ?_) (fun hF => ?_)
  · refine j_iload_n (pc := 16) 2 X dX12_fact_16 rfl ?_
    refine j_tab (pc := 17) (tgt := 76) X dX12_fact_17 rfl hF (fun hF => ?_) (fun hF => ?_)
    · refine j_iconst (pc := 76) (-1) X dX12_fact_76 rfl ?_
      exact j_iret (pc := 77) X E dX12_fact_77 hF
    refine j_tabi (pc := 17) (v := 0) (tgt := 48) X dX12_fact_17 rfl rfl rfl rfl hF (fun hF => ?_) (fun hF => ?_)
    · refine j_aload_n (pc := 48) 0 X dX12_fact_48 rfl ?_
      refine j_getr (pc := 49) X dX12_fact_49 (hz _ sh_0) fl_X12_137 rfl ?_
      refine j_iload_n (pc := 52) 1 X dX12_fact_52 rfl ?_
      refine j_iald (pc := 53) X dX12_fact_53 (hz _ sh_40) hF (fun hF => ?_)
      exact j_iret (pc := 54) X E dX12_fact_54 hF
    refine j_tabi (pc := 17) (v := 1) (tgt := 55) X dX12_fact_17 rfl rfl rfl rfl hF (fun hF => ?_) (fun hF => ?_)
    · refine j_aload_n (pc := 55) 0 X dX12_fact_55 rfl ?_
      refine j_getr (pc := 56) X dX12_fact_56 (hz _ sh_0) fl_X12_140 rfl ?_
      refine j_iload_n (pc := 59) 1 X dX12_fact_59 rfl ?_
      refine j_iald (pc := 60) X dX12_fact_60 (hz _ sh_41) hF (fun hF => ?_)
      exact j_iret (pc := 61) X E dX12_fact_61 hF
    refine j_tabi (pc := 17) (v := 2) (tgt := 62) X dX12_fact_17 rfl rfl rfl rfl hF (fun hF => ?_) (fun hF => ?_)
    · refine j_aload_n (pc := 62) 0 X dX12_fact_62 rfl ?_
      refine j_getr (pc := 63) X dX12_fact_63 (hz _ sh_0) fl_X12_143 rfl ?_
      refine j_iload_n (pc := 66) 1 X dX12_fact_66 rfl ?_
      refine j_iald (pc := 67) X dX12_fact_67 (hz _ sh_42) hF (fun hF => ?_)
      exact j_iret (pc := 68) X E dX12_fact_68 hF
    refine j_tabi (pc := 17) (v := 3) (tgt := 69) X dX12_fact_17 rfl rfl rfl rfl hF (fun hF => ?_) (fun hF => ?_)
    · refine j_aload_n (pc := 69) 0 X dX12_fact_69 rfl ?_
      refine j_getr (pc := 70) X dX12_fact_70 (hz _ sh_0) fl_X12_146 rfl ?_
      refine j_iload_n (pc := 73) 1 X dX12_fact_73 rfl ?_
      refine j_iald (pc := 74) X dX12_fact_74 (hz _ sh_43) hF (fun hF => ?_)
      exact j_iret (pc := 75) X E dX12_fact_75 hF
    cases hF
  · refine j_iconst (pc := 14) (-1) X dX12_fact_14 rfl ?_
    exact j_iret (pc := 15) X E dX12_fact_15 hF
theorem dX12_isKnown_0 : decode cX12_isKnown 0 = .ok (.iload_n 1, 1) := by decide +kernel
theorem dX12_isKnown_1 : decode cX12_isKnown 1 = .ok (.iconst 0, 1) := by decide +kernel
theorem dX12_isKnown_2 : decode cX12_isKnown 2 = .ok (.aload_n 0, 1) := by decide +kernel
theorem dX12_isKnown_3 : decode cX12_isKnown 3 = .ok (.getfield 305, 3) := by decide +kernel
theorem dX12_isKnown_6 : decode cX12_isKnown 6 = .ok (.invokestatic 383, 3) := by decide +kernel
theorem dX12_isKnown_9 : decode cX12_isKnown 9 = .ok (.ireturn, 1) := by decide +kernel
def fX12_isKnown (a1 : Int32) (h : Hp) : Option (Int32 × Hp) := bi (fX12_in a1 0 (h.1 0 59) h) (fun w2 h1 => ck (zb w2) (some (w2, h1)))
set_option maxRecDepth 20000 in
theorem tX12_isKnown (Z : ZT) (a1 : Int32) (hz : HZM Z) (h : Hp) (r : Int32) (hr : Hp) (hF : fX12_isKnown a1 h = some (r, hr)) : MC Z yX12_isKnown cX12_isKnown 2 (some .boolean) 1 [.ref (Z.2.1 0), .int a1] h (some (.int r)) hr := by
  unfold fX12_isKnown at hF
  refine mc_start (by decide) (Nat.le_of_ble_eq_true rfl) (fun G X E => ?_)
  refine j_iload_n (pc := 0) 1 X dX12_isKnown_0 rfl ?_
  refine j_iconst (pc := 1) 0 X dX12_isKnown_1 rfl ?_
  refine j_aload_n (pc := 2) 0 X dX12_isKnown_2 rfl ?_
  refine j_geti (pc := 3) X dX12_isKnown_3 (hz _ sh_0) fl_X12_305 rfl ?_
  refine j_cSi (pc := 6) (As := [.int a1, .int 0, .int (h.1 0 59)]) (rest := []) X dX12_isKnown_6 ml_X12_383 ck_X12_in sk_X12_in (Nat.le_of_ble_eq_true rfl) rfl (Nat.le_of_ble_eq_true rfl) rfl hF (tX12_in Z a1 0 (h.1 0 59) trivial h) (fun w2 h1 hF => ?_)
  exact j_zret (pc := 9) X E dX12_isKnown_9 hF
theorem dX12_counts_0 : decode cX12_counts 0 = .ok (.aload_n 0, 1) := by decide +kernel
theorem dX12_counts_1 : decode cX12_counts 1 = .ok (.getfield 137, 3) := by decide +kernel
theorem dX12_counts_4 : decode cX12_counts 4 = .ok (.iload_n 1, 1) := by decide +kernel
theorem dX12_counts_5 : decode cX12_counts 5 = .ok (.iaload, 1) := by decide +kernel
theorem dX12_counts_6 : decode cX12_counts 6 = .ok (.bipush 6, 2) := by decide +kernel
theorem dX12_counts_8 : decode cX12_counts 8 = .ok (.if_icmp .ne 5, 3) := by decide +kernel
theorem dX12_counts_11 : decode cX12_counts 11 = .ok (.iconst 0, 1) := by decide +kernel
theorem dX12_counts_12 : decode cX12_counts 12 = .ok (.ireturn, 1) := by decide +kernel
theorem dX12_counts_13 : decode cX12_counts 13 = .ok (.iload_n 1, 1) := by decide +kernel
theorem dX12_counts_14 : decode cX12_counts 14 = .ok (.iconst 1, 1) := by decide +kernel
theorem dX12_counts_15 : decode cX12_counts 15 = .ok (.iadd, 1) := by decide +kernel
theorem dX12_counts_16 : decode cX12_counts 16 = .ok (.istore_n 3, 1) := by decide +kernel
theorem dX12_counts_17 : decode cX12_counts 17 = .ok (.iload_n 3, 1) := by decide +kernel
theorem dX12_counts_18 : decode cX12_counts 18 = .ok (.iload_n 2, 1) := by decide +kernel
theorem dX12_counts_19 : decode cX12_counts 19 = .ok (.if_icmp .ge 32, 3) := by decide +kernel
theorem dX12_counts_22 : decode cX12_counts 22 = .ok (.aload_n 0, 1) := by decide +kernel
theorem dX12_counts_23 : decode cX12_counts 23 = .ok (.getfield 137, 3) := by decide +kernel
theorem dX12_counts_26 : decode cX12_counts 26 = .ok (.iload_n 3, 1) := by decide +kernel
theorem dX12_counts_27 : decode cX12_counts 27 = .ok (.iaload, 1) := by decide +kernel
theorem dX12_counts_28 : decode cX12_counts 28 = .ok (.bipush 6, 2) := by decide +kernel
theorem dX12_counts_30 : decode cX12_counts 30 = .ok (.if_icmp .ne 15, 3) := by decide +kernel
theorem dX12_counts_33 : decode cX12_counts 33 = .ok (.aload_n 0, 1) := by decide +kernel
theorem dX12_counts_34 : decode cX12_counts 34 = .ok (.getfield 143, 3) := by decide +kernel
theorem dX12_counts_37 : decode cX12_counts 37 = .ok (.iload_n 3, 1) := by decide +kernel
theorem dX12_counts_38 : decode cX12_counts 38 = .ok (.iaload, 1) := by decide +kernel
theorem dX12_counts_39 : decode cX12_counts 39 = .ok (.iload_n 1, 1) := by decide +kernel
theorem dX12_counts_40 : decode cX12_counts 40 = .ok (.if_icmp .ne 5, 3) := by decide +kernel
theorem dX12_counts_43 : decode cX12_counts 43 = .ok (.iconst 0, 1) := by decide +kernel
theorem dX12_counts_44 : decode cX12_counts 44 = .ok (.ireturn, 1) := by decide +kernel
theorem dX12_counts_45 : decode cX12_counts 45 = .ok (.iinc 3 1, 3) := by decide +kernel
theorem dX12_counts_48 : decode cX12_counts 48 = .ok (.goto (-31), 3) := by decide +kernel
theorem dX12_counts_51 : decode cX12_counts 51 = .ok (.iconst 1, 1) := by decide +kernel
theorem dX12_counts_52 : decode cX12_counts 52 = .ok (.ireturn, 1) := by decide +kernel
def bX12_counts_45  (r17 : Int32 → Int32 → Int32 → Hp → Option (Int32 × Hp)) (x1 : Int32) (x2 : Int32) (x3 : Int32) (h : Hp) : Option (Int32 × Hp) := lt (x3 + 1) (fun v1 => r17 x1 x2 v1 h)
set_option maxRecDepth 20000 in
theorem BX12_counts_45 {Z : ZT} {G : GT} {r : Int32} {hr : Hp} (X : CX Z G cX12_counts RX12 4 0) (E : RX Z G (some .boolean) (some (.int r)) hr) (hz : HZM Z) (r17 : Int32 → Int32 → Int32 → Hp → Option (Int32 × Hp)) (hr17 : ∀ (x1 : Int32) (x2 : Int32) (x3 : Int32) (h : Hp), r17 x1 x2 x3 h = some (r, hr) → J Z G 4 h 17 [(0, .ref (Z.2.1 0)), (1, .int x1), (2, .int x2), (3, .int x3)] []) (x1 : Int32) (x2 : Int32) (x3 : Int32) (h : Hp) (hF : bX12_counts_45  r17 x1 x2 x3 h = some (r, hr)) : J Z G 4 h 45 [(0, .ref (Z.2.1 0)), (1, .int x1), (2, .int x2), (3, .int x3)] [] := by
  unfold bX12_counts_45 at hF
  refine j_iinc (pc := 45) 3 (x3 + 1) (fun y => [(3, .int y), (0, .ref (Z.2.1 0)), (1, .int x1), (2, .int x2)]) X dX12_counts_45 rfl rfl (by decide) (fun _ => rfl) hF (fun v1 hF => ?_)
  refine j_goto (pc := 48) 17 X dX12_counts_48 rfl ?_
  refine j_lv [(0, .ref (Z.2.1 0)), (1, .int x1), (2, .int x2), (3, .int v1)] [1, 2, 3, 0] rfl ?_
  exact hr17 x1 x2 v1 h hF
def bX12_counts_17   (r17 : Int32 → Int32 → Int32 → Hp → Option (Int32 × Hp)) (x1 : Int32) (x2 : Int32) (x3 : Int32) (h : Hp) : Option (Int32 × Hp) := (if x2 ≤ x3 then ck (zb 1) (some (1, h)) else ck (inb x3 60) ((if (h.1 40 (ix x3)) = 6 then ck (inb x3 60) ((if (h.1 42 (ix x3)) = x1 then ck (zb 0) (some (0, h)) else bX12_counts_45 r17 x1 x2 x3 h)) else bX12_counts_45 r17 x1 x2 x3 h)))
def lX12_counts_17   : Nat → Int32 → Int32 → Int32 → Hp → Option (Int32 × Hp)
  | 0 => fun _ _ _ _ => none
  | n + 1 => bX12_counts_17   (lX12_counts_17   n)
set_option maxRecDepth 20000 in
theorem BX12_counts_17 {Z : ZT} {G : GT} {r : Int32} {hr : Hp} (X : CX Z G cX12_counts RX12 4 0) (E : RX Z G (some .boolean) (some (.int r)) hr) (hz : HZM Z)  (r17 : Int32 → Int32 → Int32 → Hp → Option (Int32 × Hp)) (hr17 : ∀ (x1 : Int32) (x2 : Int32) (x3 : Int32) (h : Hp), r17 x1 x2 x3 h = some (r, hr) → J Z G 4 h 17 [(0, .ref (Z.2.1 0)), (1, .int x1), (2, .int x2), (3, .int x3)] []) (x1 : Int32) (x2 : Int32) (x3 : Int32) (h : Hp) (hF : bX12_counts_17   r17 x1 x2 x3 h = some (r, hr)) : J Z G 4 h 17 [(0, .ref (Z.2.1 0)), (1, .int x1), (2, .int x2), (3, .int x3)] [] := by
  unfold bX12_counts_17 at hF
  refine j_iload_n (pc := 17) 3 X dX12_counts_17 rfl ?_
  refine j_iload_n (pc := 18) 2 X dX12_counts_18 rfl ?_
  refine j_icmp_ge (pc := 19) 51 X dX12_counts_19 rfl hF (fun hF => ?_) (fun hF => ?_)
  · refine j_iconst (pc := 51) 1 X dX12_counts_51 rfl ?_
    exact j_zret (pc := 52) X E dX12_counts_52 hF
  · refine j_aload_n (pc := 22) 0 X dX12_counts_22 rfl ?_
    refine j_getr (pc := 23) X dX12_counts_23 (hz _ sh_0) fl_X12_137 rfl ?_
    refine j_iload_n (pc := 26) 3 X dX12_counts_26 rfl ?_
    refine j_iald (pc := 27) X dX12_counts_27 (hz _ sh_40) hF (fun hF => ?_)
    refine j_bipush (pc := 28) 6 X dX12_counts_28 rfl ?_
    refine j_icmp_ne (pc := 30) 45 X dX12_counts_30 rfl hF (fun hF => ?_) (fun hF => ?_)
    · exact BX12_counts_45 X E hz r17 hr17 x1 x2 x3 h hF
    · refine j_aload_n (pc := 33) 0 X dX12_counts_33 rfl ?_
      refine j_getr (pc := 34) X dX12_counts_34 (hz _ sh_0) fl_X12_143 rfl ?_
      refine j_iload_n (pc := 37) 3 X dX12_counts_37 rfl ?_
      refine j_iald (pc := 38) X dX12_counts_38 (hz _ sh_42) hF (fun hF => ?_)
      refine j_iload_n (pc := 39) 1 X dX12_counts_39 rfl ?_
      refine j_icmp_ne (pc := 40) 45 X dX12_counts_40 rfl hF (fun hF => ?_) (fun hF => ?_)
      · exact BX12_counts_45 X E hz r17 hr17 x1 x2 x3 h hF
      · refine j_iconst (pc := 43) 0 X dX12_counts_43 rfl ?_
        exact j_zret (pc := 44) X E dX12_counts_44 hF
theorem LX12_counts_17 {Z : ZT} {G : GT} {r : Int32} {hr : Hp} (X : CX Z G cX12_counts RX12 4 0) (E : RX Z G (some .boolean) (some (.int r)) hr) (hz : HZM Z)  : ∀ (n : Nat) (x1 : Int32) (x2 : Int32) (x3 : Int32) (h : Hp), lX12_counts_17   n x1 x2 x3 h = some (r, hr) → J Z G 4 h 17 [(0, .ref (Z.2.1 0)), (1, .int x1), (2, .int x2), (3, .int x3)] [] := by
  intro n
  induction n with
  | zero => intro x1 x2 x3 h hF; cases hF
  | succ n ih => intro x1 x2 x3 h hF; exact BX12_counts_17 X E hz  (lX12_counts_17   n) ih x1 x2 x3 h hF
def fX12_counts (a1 : Int32) (a2 : Int32) (h : Hp) : Option (Int32 × Hp) := ck (inb a1 60) ((if (h.1 40 (ix a1)) = 6 then ck (zb 0) (some (0, h)) else lt (a1 + 1) (fun v1 => lX12_counts_17 FU a1 a2 v1 h)))
set_option maxRecDepth 20000 in
theorem tX12_counts (Z : ZT) (a1 : Int32) (a2 : Int32) (hz : HZM Z) (h : Hp) (r : Int32) (hr : Hp) (hF : fX12_counts a1 a2 h = some (r, hr)) : MC Z yX12_counts cX12_counts 4 (some .boolean) 0 [.ref (Z.2.1 0), .int a1, .int a2] h (some (.int r)) hr := by
  unfold fX12_counts at hF
  refine mc_start (by decide) (Nat.le_of_ble_eq_true rfl) (fun G X E => ?_)
  refine j_aload_n (pc := 0) 0 X dX12_counts_0 rfl ?_
  refine j_getr (pc := 1) X dX12_counts_1 (hz _ sh_0) fl_X12_137 rfl ?_
  refine j_iload_n (pc := 4) 1 X dX12_counts_4 rfl ?_
  refine j_iald (pc := 5) X dX12_counts_5 (hz _ sh_40) hF (fun hF => ?_)
  refine j_bipush (pc := 6) 6 X dX12_counts_6 rfl ?_
  refine j_icmp_ne (pc := 8) 13 X dX12_counts_8 rfl hF (fun hF => ?_) (fun hF => ?_)
  · refine j_iload_n (pc := 13) 1 X dX12_counts_13 rfl ?_
    refine j_iconst (pc := 14) 1 X dX12_counts_14 rfl ?_
    refine j_iadd (pc := 15) X dX12_counts_15 ?_
    refine j_istore_n (pc := 16) (fun y => [(3, .int y), (0, .ref (Z.2.1 0)), (1, .int a1), (2, .int a2)]) X dX12_counts_16 (by decide) (fun _ => rfl) hF (fun v1 hF => ?_)
    refine j_lv [(0, .ref (Z.2.1 0)), (1, .int a1), (2, .int a2), (3, .int v1)] [1, 2, 3, 0] rfl ?_
    exact LX12_counts_17 X E hz FU a1 a2 v1 h hF
  · refine j_iconst (pc := 11) 0 X dX12_counts_11 rfl ?_
    exact j_zret (pc := 12) X E dX12_counts_12 hF
theorem dX12_weightOf_0 : decode cX12_weightOf 0 = .ok (.iconst 0, 1) := by decide +kernel
theorem dX12_weightOf_1 : decode cX12_weightOf 1 = .ok (.istore 4, 2) := by decide +kernel
theorem dX12_weightOf_3 : decode cX12_weightOf 3 = .ok (.iconst 0, 1) := by decide +kernel
theorem dX12_weightOf_4 : decode cX12_weightOf 4 = .ok (.istore 5, 2) := by decide +kernel
theorem dX12_weightOf_6 : decode cX12_weightOf 6 = .ok (.iload 5, 2) := by decide +kernel
theorem dX12_weightOf_8 : decode cX12_weightOf 8 = .ok (.iload_n 3, 1) := by decide +kernel
theorem dX12_weightOf_9 : decode cX12_weightOf 9 = .ok (.if_icmp .ge 63, 3) := by decide +kernel
theorem dX12_weightOf_12 : decode cX12_weightOf 12 = .ok (.aload_n 0, 1) := by decide +kernel
theorem dX12_weightOf_13 : decode cX12_weightOf 13 = .ok (.getfield 137, 3) := by decide +kernel
theorem dX12_weightOf_16 : decode cX12_weightOf 16 = .ok (.iload 5, 2) := by decide +kernel
theorem dX12_weightOf_18 : decode cX12_weightOf 18 = .ok (.iaload, 1) := by decide +kernel
theorem dX12_weightOf_19 : decode cX12_weightOf 19 = .ok (.ifCond .ne 47, 3) := by decide +kernel
theorem dX12_weightOf_22 : decode cX12_weightOf 22 = .ok (.aload_n 0, 1) := by decide +kernel
theorem dX12_weightOf_23 : decode cX12_weightOf 23 = .ok (.getfield 143, 3) := by decide +kernel
theorem dX12_weightOf_26 : decode cX12_weightOf 26 = .ok (.iload 5, 2) := by decide +kernel
theorem dX12_weightOf_28 : decode cX12_weightOf 28 = .ok (.iaload, 1) := by decide +kernel
theorem dX12_weightOf_29 : decode cX12_weightOf 29 = .ok (.iload_n 1, 1) := by decide +kernel
theorem dX12_weightOf_30 : decode cX12_weightOf 30 = .ok (.if_icmp .ne 36, 3) := by decide +kernel
theorem dX12_weightOf_33 : decode cX12_weightOf 33 = .ok (.aload_n 0, 1) := by decide +kernel
theorem dX12_weightOf_34 : decode cX12_weightOf 34 = .ok (.getfield 140, 3) := by decide +kernel
theorem dX12_weightOf_37 : decode cX12_weightOf 37 = .ok (.iload 5, 2) := by decide +kernel
theorem dX12_weightOf_39 : decode cX12_weightOf 39 = .ok (.iaload, 1) := by decide +kernel
theorem dX12_weightOf_40 : decode cX12_weightOf 40 = .ok (.iload_n 2, 1) := by decide +kernel
theorem dX12_weightOf_41 : decode cX12_weightOf 41 = .ok (.if_icmp .gt 25, 3) := by decide +kernel
theorem dX12_weightOf_44 : decode cX12_weightOf 44 = .ok (.aload_n 0, 1) := by decide +kernel
theorem dX12_weightOf_45 : decode cX12_weightOf 45 = .ok (.iload 5, 2) := by decide +kernel
theorem dX12_weightOf_47 : decode cX12_weightOf 47 = .ok (.iload_n 3, 1) := by decide +kernel
theorem dX12_weightOf_48 : decode cX12_weightOf 48 = .ok (.invokevirtual 432, 3) := by decide +kernel
theorem dX12_weightOf_51 : decode cX12_weightOf 51 = .ok (.ifCond .eq 15, 3) := by decide +kernel
theorem dX12_weightOf_54 : decode cX12_weightOf 54 = .ok (.iload 4, 2) := by decide +kernel
theorem dX12_weightOf_56 : decode cX12_weightOf 56 = .ok (.aload_n 0, 1) := by decide +kernel
theorem dX12_weightOf_57 : decode cX12_weightOf 57 = .ok (.getfield 146, 3) := by decide +kernel
theorem dX12_weightOf_60 : decode cX12_weightOf 60 = .ok (.iload 5, 2) := by decide +kernel
theorem dX12_weightOf_62 : decode cX12_weightOf 62 = .ok (.iaload, 1) := by decide +kernel
theorem dX12_weightOf_63 : decode cX12_weightOf 63 = .ok (.iadd, 1) := by decide +kernel
theorem dX12_weightOf_64 : decode cX12_weightOf 64 = .ok (.istore 4, 2) := by decide +kernel
theorem dX12_weightOf_66 : decode cX12_weightOf 66 = .ok (.iinc 5 1, 3) := by decide +kernel
theorem dX12_weightOf_69 : decode cX12_weightOf 69 = .ok (.goto (-63), 3) := by decide +kernel
theorem dX12_weightOf_72 : decode cX12_weightOf 72 = .ok (.iload 4, 2) := by decide +kernel
theorem dX12_weightOf_74 : decode cX12_weightOf 74 = .ok (.ireturn, 1) := by decide +kernel
def bX12_weightOf_66  (r6 : Int32 → Int32 → Int32 → Int32 → Int32 → Hp → Option (Int32 × Hp)) (x1 : Int32) (x2 : Int32) (x3 : Int32) (x4 : Int32) (x5 : Int32) (h : Hp) : Option (Int32 × Hp) := lt (x5 + 1) (fun v1 => r6 x1 x2 x3 x4 v1 h)
set_option maxRecDepth 20000 in
theorem BX12_weightOf_66 {Z : ZT} {G : GT} {r : Int32} {hr : Hp} (X : CX Z G cX12_weightOf RX12 6 1) (E : RX Z G (some .int) (some (.int r)) hr) (hz : HZM Z) (r6 : Int32 → Int32 → Int32 → Int32 → Int32 → Hp → Option (Int32 × Hp)) (hr6 : ∀ (x1 : Int32) (x2 : Int32) (x3 : Int32) (x4 : Int32) (x5 : Int32) (h : Hp), r6 x1 x2 x3 x4 x5 h = some (r, hr) → J Z G 6 h 6 [(0, .ref (Z.2.1 0)), (1, .int x1), (2, .int x2), (3, .int x3), (4, .int x4), (5, .int x5)] []) (x1 : Int32) (x2 : Int32) (x3 : Int32) (x4 : Int32) (x5 : Int32) (h : Hp) (hF : bX12_weightOf_66  r6 x1 x2 x3 x4 x5 h = some (r, hr)) : J Z G 6 h 66 [(0, .ref (Z.2.1 0)), (1, .int x1), (2, .int x2), (3, .int x3), (4, .int x4), (5, .int x5)] [] := by
  unfold bX12_weightOf_66 at hF
  refine j_iinc (pc := 66) 5 (x5 + 1) (fun y => [(5, .int y), (0, .ref (Z.2.1 0)), (1, .int x1), (2, .int x2), (3, .int x3), (4, .int x4)]) X dX12_weightOf_66 rfl rfl (by decide) (fun _ => rfl) hF (fun v1 hF => ?_)
  refine j_goto (pc := 69) 6 X dX12_weightOf_69 rfl ?_
  refine j_lv [(0, .ref (Z.2.1 0)), (1, .int x1), (2, .int x2), (3, .int x3), (4, .int x4), (5, .int v1)] [1, 2, 3, 4, 5, 0] rfl ?_
  exact hr6 x1 x2 x3 x4 v1 h hF
def bX12_weightOf_6   (r6 : Int32 → Int32 → Int32 → Int32 → Int32 → Hp → Option (Int32 × Hp)) (x1 : Int32) (x2 : Int32) (x3 : Int32) (x4 : Int32) (x5 : Int32) (h : Hp) : Option (Int32 × Hp) := (if x3 ≤ x5 then some (x4, h) else ck (inb x5 60) ((if (h.1 40 (ix x5)) = 0 then ck (inb x5 60) ((if (h.1 42 (ix x5)) = x1 then ck (inb x5 60) ((if x2 < (h.1 41 (ix x5)) then bX12_weightOf_66 r6 x1 x2 x3 x4 x5 h else bi (fX12_counts x5 x3 h) (fun w2 h1 => (if w2 = 0 then bX12_weightOf_66 r6 x1 x2 x3 x4 x5 h1 else ck (inb x5 60) (lt (x4 + (h1.1 43 (ix x5))) (fun v3 => bX12_weightOf_66 r6 x1 x2 x3 v3 x5 h1)))))) else bX12_weightOf_66 r6 x1 x2 x3 x4 x5 h)) else bX12_weightOf_66 r6 x1 x2 x3 x4 x5 h)))
def lX12_weightOf_6   : Nat → Int32 → Int32 → Int32 → Int32 → Int32 → Hp → Option (Int32 × Hp)
  | 0 => fun _ _ _ _ _ _ => none
  | n + 1 => bX12_weightOf_6   (lX12_weightOf_6   n)
set_option maxRecDepth 20000 in
theorem BX12_weightOf_6 {Z : ZT} {G : GT} {r : Int32} {hr : Hp} (X : CX Z G cX12_weightOf RX12 6 1) (E : RX Z G (some .int) (some (.int r)) hr) (hz : HZM Z)  (r6 : Int32 → Int32 → Int32 → Int32 → Int32 → Hp → Option (Int32 × Hp)) (hr6 : ∀ (x1 : Int32) (x2 : Int32) (x3 : Int32) (x4 : Int32) (x5 : Int32) (h : Hp), r6 x1 x2 x3 x4 x5 h = some (r, hr) → J Z G 6 h 6 [(0, .ref (Z.2.1 0)), (1, .int x1), (2, .int x2), (3, .int x3), (4, .int x4), (5, .int x5)] []) (x1 : Int32) (x2 : Int32) (x3 : Int32) (x4 : Int32) (x5 : Int32) (h : Hp) (hF : bX12_weightOf_6   r6 x1 x2 x3 x4 x5 h = some (r, hr)) : J Z G 6 h 6 [(0, .ref (Z.2.1 0)), (1, .int x1), (2, .int x2), (3, .int x3), (4, .int x4), (5, .int x5)] [] := by
  unfold bX12_weightOf_6 at hF
  refine j_iload (pc := 6) 5 X dX12_weightOf_6 rfl ?_
  refine j_iload_n (pc := 8) 3 X dX12_weightOf_8 rfl ?_
  refine j_icmp_ge (pc := 9) 72 X dX12_weightOf_9 rfl hF (fun hF => ?_) (fun hF => ?_)
  · refine j_iload (pc := 72) 4 X dX12_weightOf_72 rfl ?_
    exact j_iret (pc := 74) X E dX12_weightOf_74 hF
  · refine j_aload_n (pc := 12) 0 X dX12_weightOf_12 rfl ?_
    refine j_getr (pc := 13) X dX12_weightOf_13 (hz _ sh_0) fl_X12_137 rfl ?_
    refine j_iload (pc := 16) 5 X dX12_weightOf_16 rfl ?_
    refine j_iald (pc := 18) X dX12_weightOf_18 (hz _ sh_40) hF (fun hF => ?_)
    refine j_if_ne (pc := 19) 66 X dX12_weightOf_19 rfl hF (fun hF => ?_) (fun hF => ?_)
    · exact BX12_weightOf_66 X E hz r6 hr6 x1 x2 x3 x4 x5 h hF
    · refine j_aload_n (pc := 22) 0 X dX12_weightOf_22 rfl ?_
      refine j_getr (pc := 23) X dX12_weightOf_23 (hz _ sh_0) fl_X12_143 rfl ?_
      refine j_iload (pc := 26) 5 X dX12_weightOf_26 rfl ?_
      refine j_iald (pc := 28) X dX12_weightOf_28 (hz _ sh_42) hF (fun hF => ?_)
      refine j_iload_n (pc := 29) 1 X dX12_weightOf_29 rfl ?_
      refine j_icmp_ne (pc := 30) 66 X dX12_weightOf_30 rfl hF (fun hF => ?_) (fun hF => ?_)
      · exact BX12_weightOf_66 X E hz r6 hr6 x1 x2 x3 x4 x5 h hF
      · refine j_aload_n (pc := 33) 0 X dX12_weightOf_33 rfl ?_
        refine j_getr (pc := 34) X dX12_weightOf_34 (hz _ sh_0) fl_X12_140 rfl ?_
        refine j_iload (pc := 37) 5 X dX12_weightOf_37 rfl ?_
        refine j_iald (pc := 39) X dX12_weightOf_39 (hz _ sh_41) hF (fun hF => ?_)
        refine j_iload_n (pc := 40) 2 X dX12_weightOf_40 rfl ?_
        refine j_icmp_gt (pc := 41) 66 X dX12_weightOf_41 rfl hF (fun hF => ?_) (fun hF => ?_)
        · exact BX12_weightOf_66 X E hz r6 hr6 x1 x2 x3 x4 x5 h hF
        · refine j_aload_n (pc := 44) 0 X dX12_weightOf_44 rfl ?_
          refine j_iload (pc := 45) 5 X dX12_weightOf_45 rfl ?_
          refine j_iload_n (pc := 47) 3 X dX12_weightOf_47 rfl ?_
          refine j_cVi (pc := 48) (As := [.int x5, .int x3]) (rest := []) X dX12_weightOf_48 ml_X12_432 ck_X12_counts cv_X12_counts (hz _ sh_0) rfl (Nat.le_of_ble_eq_true rfl) rfl (Nat.le_of_ble_eq_true rfl) rfl hF (tX12_counts Z x5 x3 hz h) (fun w2 h1 hF => ?_)
          refine j_if_eq (pc := 51) 66 X dX12_weightOf_51 rfl hF (fun hF => ?_) (fun hF => ?_)
          · exact BX12_weightOf_66 X E hz r6 hr6 x1 x2 x3 x4 x5 h1 hF
          · refine j_iload (pc := 54) 4 X dX12_weightOf_54 rfl ?_
            refine j_aload_n (pc := 56) 0 X dX12_weightOf_56 rfl ?_
            refine j_getr (pc := 57) X dX12_weightOf_57 (hz _ sh_0) fl_X12_146 rfl ?_
            refine j_iload (pc := 60) 5 X dX12_weightOf_60 rfl ?_
            refine j_iald (pc := 62) X dX12_weightOf_62 (hz _ sh_43) hF (fun hF => ?_)
            refine j_iadd (pc := 63) X dX12_weightOf_63 ?_
            refine j_istore (pc := 64) (fun y => [(4, .int y), (0, .ref (Z.2.1 0)), (1, .int x1), (2, .int x2), (3, .int x3), (5, .int x5)]) X dX12_weightOf_64 (by decide) (fun _ => rfl) hF (fun v3 hF => ?_)
            refine j_lv [(0, .ref (Z.2.1 0)), (1, .int x1), (2, .int x2), (3, .int x3), (4, .int v3), (5, .int x5)] [1, 2, 3, 4, 0, 5] rfl ?_
            exact BX12_weightOf_66 X E hz r6 hr6 x1 x2 x3 v3 x5 h1 hF
theorem LX12_weightOf_6 {Z : ZT} {G : GT} {r : Int32} {hr : Hp} (X : CX Z G cX12_weightOf RX12 6 1) (E : RX Z G (some .int) (some (.int r)) hr) (hz : HZM Z)  : ∀ (n : Nat) (x1 : Int32) (x2 : Int32) (x3 : Int32) (x4 : Int32) (x5 : Int32) (h : Hp), lX12_weightOf_6   n x1 x2 x3 x4 x5 h = some (r, hr) → J Z G 6 h 6 [(0, .ref (Z.2.1 0)), (1, .int x1), (2, .int x2), (3, .int x3), (4, .int x4), (5, .int x5)] [] := by
  intro n
  induction n with
  | zero => intro x1 x2 x3 x4 x5 h hF; cases hF
  | succ n ih => intro x1 x2 x3 x4 x5 h hF; exact BX12_weightOf_6 X E hz  (lX12_weightOf_6   n) ih x1 x2 x3 x4 x5 h hF
def fX12_weightOf (a1 : Int32) (a2 : Int32) (a3 : Int32) (h : Hp) : Option (Int32 × Hp) := lt 0 (fun v1 => lt 0 (fun v2 => lX12_weightOf_6 FU a1 a2 a3 v1 v2 h))
set_option maxRecDepth 20000 in
theorem tX12_weightOf (Z : ZT) (a1 : Int32) (a2 : Int32) (a3 : Int32) (hz : HZM Z) (h : Hp) (r : Int32) (hr : Hp) (hF : fX12_weightOf a1 a2 a3 h = some (r, hr)) : MC Z yX12_weightOf cX12_weightOf 6 (some .int) 1 [.ref (Z.2.1 0), .int a1, .int a2, .int a3] h (some (.int r)) hr := by
  unfold fX12_weightOf at hF
  refine mc_start (by decide) (Nat.le_of_ble_eq_true rfl) (fun G X E => ?_)
  refine j_iconst (pc := 0) 0 X dX12_weightOf_0 rfl ?_
  refine j_istore (pc := 1) (fun y => [(4, .int y), (0, .ref (Z.2.1 0)), (1, .int a1), (2, .int a2), (3, .int a3)]) X dX12_weightOf_1 (by decide) (fun _ => rfl) hF (fun v1 hF => ?_)
  refine j_iconst (pc := 3) 0 X dX12_weightOf_3 rfl ?_
  refine j_istore (pc := 4) (fun y => [(5, .int y), (4, .int v1), (0, .ref (Z.2.1 0)), (1, .int a1), (2, .int a2), (3, .int a3)]) X dX12_weightOf_4 (by decide) (fun _ => rfl) hF (fun v2 hF => ?_)
  refine j_lv [(0, .ref (Z.2.1 0)), (1, .int a1), (2, .int a2), (3, .int a3), (4, .int v1), (5, .int v2)] [2, 3, 4, 5, 1, 0] rfl ?_
  exact LX12_weightOf_6 X E hz FU a1 a2 a3 v1 v2 h hF
theorem dX12_weighs_0 : decode cX12_weighs 0 = .ok (.aload_n 0, 1) := by decide +kernel
theorem dX12_weighs_1 : decode cX12_weighs 1 = .ok (.iload_n 1, 1) := by decide +kernel
theorem dX12_weighs_2 : decode cX12_weighs 2 = .ok (.invokevirtual 409, 3) := by decide +kernel
theorem dX12_weighs_5 : decode cX12_weighs 5 = .ok (.ifCond .eq 28, 3) := by decide +kernel
theorem dX12_weighs_8 : decode cX12_weighs 8 = .ok (.iload_n 2, 1) := by decide +kernel
theorem dX12_weighs_9 : decode cX12_weighs 9 = .ok (.invokestatic 412, 3) := by decide +kernel
theorem dX12_weighs_12 : decode cX12_weighs 12 = .ok (.ifCond .eq 21, 3) := by decide +kernel
theorem dX12_weighs_15 : decode cX12_weighs 15 = .ok (.aload_n 0, 1) := by decide +kernel
theorem dX12_weighs_16 : decode cX12_weighs 16 = .ok (.iload_n 3, 1) := by decide +kernel
theorem dX12_weighs_17 : decode cX12_weighs 17 = .ok (.invokevirtual 435, 3) := by decide +kernel
theorem dX12_weighs_20 : decode cX12_weighs 20 = .ok (.ifCond .eq 13, 3) := by decide +kernel
theorem dX12_weighs_23 : decode cX12_weighs 23 = .ok (.aload_n 0, 1) := by decide +kernel
theorem dX12_weighs_24 : decode cX12_weighs 24 = .ok (.iload_n 1, 1) := by decide +kernel
theorem dX12_weighs_25 : decode cX12_weighs 25 = .ok (.iload_n 2, 1) := by decide +kernel
theorem dX12_weighs_26 : decode cX12_weighs 26 = .ok (.iload_n 3, 1) := by decide +kernel
theorem dX12_weighs_27 : decode cX12_weighs 27 = .ok (.invokevirtual 438, 3) := by decide +kernel
theorem dX12_weighs_30 : decode cX12_weighs 30 = .ok (.goto 4, 3) := by decide +kernel
theorem dX12_weighs_33 : decode cX12_weighs 33 = .ok (.iconst (-1), 1) := by decide +kernel
theorem dX12_weighs_34 : decode cX12_weighs 34 = .ok (.ireturn, 1) := by decide +kernel
def fX12_weighs (a1 : Int32) (a2 : Int32) (a3 : Int32) (h : Hp) : Option (Int32 × Hp) := bi (fX12_isPerson a1 h) (fun w2 h1 => (if w2 = 0 then some ((-1), h1) else bi (fX12_isYear a2 h1) (fun w4 h3 => (if w4 = 0 then some ((-1), h3) else bi (fX12_isKnown a3 h3) (fun w6 h5 => (if w6 = 0 then some ((-1), h5) else bi (fX12_weightOf a1 a2 a3 h5) (fun w8 h7 => some (w8, h7))))))))
set_option maxRecDepth 20000 in
theorem tX12_weighs (Z : ZT) (a1 : Int32) (a2 : Int32) (a3 : Int32) (hz : HZM Z) (h : Hp) (r : Int32) (hr : Hp) (hF : fX12_weighs a1 a2 a3 h = some (r, hr)) : MC Z yX12_weighs cX12_weighs 4 (some .int) 2 [.ref (Z.2.1 0), .int a1, .int a2, .int a3] h (some (.int r)) hr := by
  unfold fX12_weighs at hF
  refine mc_start (by decide) (Nat.le_of_ble_eq_true rfl) (fun G X E => ?_)
  refine j_aload_n (pc := 0) 0 X dX12_weighs_0 rfl ?_
  refine j_iload_n (pc := 1) 1 X dX12_weighs_1 rfl ?_
  refine j_cVi (pc := 2) (As := [.int a1]) (rest := []) X dX12_weighs_2 ml_X12_409 ck_X12_isPerson cv_X12_isPerson (hz _ sh_0) rfl (Nat.le_of_ble_eq_true rfl) rfl (Nat.le_of_ble_eq_true rfl) rfl hF (tX12_isPerson Z a1 hz h) (fun w2 h1 hF => ?_)
  refine j_if_eq (pc := 5) 33 X dX12_weighs_5 rfl hF (fun hF => ?_) (fun hF => ?_)
  · refine j_iconst (pc := 33) (-1) X dX12_weighs_33 rfl ?_
    exact j_iret (pc := 34) X E dX12_weighs_34 hF
  · refine j_iload_n (pc := 8) 2 X dX12_weighs_8 rfl ?_
    refine j_cSi (pc := 9) (As := [.int a2]) (rest := []) X dX12_weighs_9 ml_X12_412 ck_X12_isYear sk_X12_isYear (Nat.le_of_ble_eq_true rfl) rfl (Nat.le_of_ble_eq_true rfl) rfl hF (tX12_isYear Z a2 trivial h1) (fun w4 h3 hF => ?_)
    refine j_if_eq (pc := 12) 33 X dX12_weighs_12 rfl hF (fun hF => ?_) (fun hF => ?_)
    · refine j_iconst (pc := 33) (-1) X dX12_weighs_33 rfl ?_
      exact j_iret (pc := 34) X E dX12_weighs_34 hF
    · refine j_aload_n (pc := 15) 0 X dX12_weighs_15 rfl ?_
      refine j_iload_n (pc := 16) 3 X dX12_weighs_16 rfl ?_
      refine j_cVi (pc := 17) (As := [.int a3]) (rest := []) X dX12_weighs_17 ml_X12_435 ck_X12_isKnown cv_X12_isKnown (hz _ sh_0) rfl (Nat.le_of_ble_eq_true rfl) rfl (Nat.le_of_ble_eq_true rfl) rfl hF (tX12_isKnown Z a3 hz h3) (fun w6 h5 hF => ?_)
      refine j_if_eq (pc := 20) 33 X dX12_weighs_20 rfl hF (fun hF => ?_) (fun hF => ?_)
      · refine j_iconst (pc := 33) (-1) X dX12_weighs_33 rfl ?_
        exact j_iret (pc := 34) X E dX12_weighs_34 hF
      · refine j_aload_n (pc := 23) 0 X dX12_weighs_23 rfl ?_
        refine j_iload_n (pc := 24) 1 X dX12_weighs_24 rfl ?_
        refine j_iload_n (pc := 25) 2 X dX12_weighs_25 rfl ?_
        refine j_iload_n (pc := 26) 3 X dX12_weighs_26 rfl ?_
        refine j_cVi (pc := 27) (As := [.int a1, .int a2, .int a3]) (rest := []) X dX12_weighs_27 ml_X12_438 ck_X12_weightOf cv_X12_weightOf (hz _ sh_0) rfl (Nat.le_of_ble_eq_true rfl) rfl (Nat.le_of_ble_eq_true rfl) rfl hF (tX12_weightOf Z a1 a2 a3 hz h5) (fun w8 h7 hF => ?_)
        refine j_goto (pc := 30) 34 X dX12_weighs_30 rfl ?_
        exact j_iret (pc := 34) X E dX12_weighs_34 hF
