theorem dX11_isLook_0 : decode cX11_isLook 0 = .ok (.iload_n 1, 1) := by decide +kernel
theorem dX11_isLook_1 : decode cX11_isLook 1 = .ok (.iconst 1, 1) := by decide +kernel
theorem dX11_isLook_2 : decode cX11_isLook 2 = .ok (.bipush 20, 2) := by decide +kernel
theorem dX11_isLook_4 : decode cX11_isLook 4 = .ok (.invokestatic 106, 3) := by decide +kernel
theorem dX11_isLook_7 : decode cX11_isLook 7 = .ok (.ireturn, 1) := by decide +kernel
def fX11_isLook (a1 : Int32) (h : Hp) : Option (Int32 × Hp) := bi (fX11_within a1 1 20 h) (fun w2 h1 => ck (zb w2) (some (w2, h1)))
set_option maxRecDepth 20000 in
theorem tX11_isLook (Z : ZT) (a1 : Int32) (hz : HZ Z) (h : Hp) (r : Int32) (hr : Hp) (hF : fX11_isLook a1 h = some (r, hr)) : MC Z yX11_isLook cX11_isLook 2 (some .boolean) 1 [.ref (Z.2.1 100), .int a1] h (some (.int r)) hr := by
  unfold fX11_isLook at hF
  refine mc_start (by decide) (Nat.le_of_ble_eq_true rfl) (fun G X E => ?_)
  refine j_iload_n (pc := 0) 1 X dX11_isLook_0 rfl ?_
  refine j_iconst (pc := 1) 1 X dX11_isLook_1 rfl ?_
  refine j_bipush (pc := 2) 20 X dX11_isLook_2 rfl ?_
  refine j_cSi (pc := 4) (As := [.int a1, .int 1, .int 20]) (rest := []) X dX11_isLook_4 ml_X11_106 ck_X11_within sk_X11_within (Nat.le_of_ble_eq_true rfl) rfl (Nat.le_of_ble_eq_true rfl) rfl hF (tX11_within Z a1 1 20 trivial h) (fun w2 h1 hF => ?_)
  exact j_zret (pc := 7) X E dX11_isLook_7 hF
theorem dX11_areThere_0 : decode cX11_areThere 0 = .ok (.iload_n 1, 1) := by decide +kernel
theorem dX11_areThere_1 : decode cX11_areThere 1 = .ok (.iconst 0, 1) := by decide +kernel
theorem dX11_areThere_2 : decode cX11_areThere 2 = .ok (.iconst 1, 1) := by decide +kernel
theorem dX11_areThere_3 : decode cX11_areThere 3 = .ok (.aload_n 0, 1) := by decide +kernel
theorem dX11_areThere_4 : decode cX11_areThere 4 = .ok (.getfield 26, 3) := by decide +kernel
theorem dX11_areThere_7 : decode cX11_areThere 7 = .ok (.getfield 103, 3) := by decide +kernel
theorem dX11_areThere_10 : decode cX11_areThere 10 = .ok (.ishl, 1) := by decide +kernel
theorem dX11_areThere_11 : decode cX11_areThere 11 = .ok (.iconst 1, 1) := by decide +kernel
theorem dX11_areThere_12 : decode cX11_areThere 12 = .ok (.isub, 1) := by decide +kernel
theorem dX11_areThere_13 : decode cX11_areThere 13 = .ok (.invokestatic 106, 3) := by decide +kernel
theorem dX11_areThere_16 : decode cX11_areThere 16 = .ok (.ifCond .eq 26, 3) := by decide +kernel
theorem dX11_areThere_19 : decode cX11_areThere 19 = .ok (.iload_n 2, 1) := by decide +kernel
theorem dX11_areThere_20 : decode cX11_areThere 20 = .ok (.iconst 0, 1) := by decide +kernel
theorem dX11_areThere_21 : decode cX11_areThere 21 = .ok (.iconst 1, 1) := by decide +kernel
theorem dX11_areThere_22 : decode cX11_areThere 22 = .ok (.aload_n 0, 1) := by decide +kernel
theorem dX11_areThere_23 : decode cX11_areThere 23 = .ok (.getfield 26, 3) := by decide +kernel
theorem dX11_areThere_26 : decode cX11_areThere 26 = .ok (.getfield 110, 3) := by decide +kernel
theorem dX11_areThere_29 : decode cX11_areThere 29 = .ok (.ishl, 1) := by decide +kernel
theorem dX11_areThere_30 : decode cX11_areThere 30 = .ok (.iconst 1, 1) := by decide +kernel
theorem dX11_areThere_31 : decode cX11_areThere 31 = .ok (.isub, 1) := by decide +kernel
theorem dX11_areThere_32 : decode cX11_areThere 32 = .ok (.invokestatic 106, 3) := by decide +kernel
theorem dX11_areThere_35 : decode cX11_areThere 35 = .ok (.ifCond .eq 7, 3) := by decide +kernel
theorem dX11_areThere_38 : decode cX11_areThere 38 = .ok (.iconst 1, 1) := by decide +kernel
theorem dX11_areThere_39 : decode cX11_areThere 39 = .ok (.goto 4, 3) := by decide +kernel
theorem dX11_areThere_42 : decode cX11_areThere 42 = .ok (.iconst 0, 1) := by decide +kernel
theorem dX11_areThere_43 : decode cX11_areThere 43 = .ok (.ireturn, 1) := by decide +kernel
def fX11_areThere (a1 : Int32) (a2 : Int32) (h : Hp) : Option (Int32 × Hp) := bi (fX11_within a1 0 (((1 : Int32) <<< ((h.1 108 6) &&& 31)) - 1) h) (fun w2 h1 => (if w2 = 0 then ck (zb 0) (some (0, h1)) else bi (fX11_within a2 0 (((1 : Int32) <<< ((h1.1 108 9) &&& 31)) - 1) h1) (fun w4 h3 => (if w4 = 0 then ck (zb 0) (some (0, h3)) else ck (zb 1) (some (1, h3))))))
set_option maxRecDepth 20000 in
theorem tX11_areThere (Z : ZT) (a1 : Int32) (a2 : Int32) (hz : HZ Z) (h : Hp) (r : Int32) (hr : Hp) (hF : fX11_areThere a1 a2 h = some (r, hr)) : MC Z yX11_areThere cX11_areThere 3 (some .boolean) 1 [.ref (Z.2.1 100), .int a1, .int a2] h (some (.int r)) hr := by
  unfold fX11_areThere at hF
  refine mc_start (by decide) (Nat.le_of_ble_eq_true rfl) (fun G X E => ?_)
  refine j_iload_n (pc := 0) 1 X dX11_areThere_0 rfl ?_
  refine j_iconst (pc := 1) 0 X dX11_areThere_1 rfl ?_
  refine j_iconst (pc := 2) 1 X dX11_areThere_2 rfl ?_
  refine j_aload_n (pc := 3) 0 X dX11_areThere_3 rfl ?_
  refine j_getr (pc := 4) X dX11_areThere_4 (hz _ sh_100) fl_X11_26 rfl ?_
  refine j_geti (pc := 7) X dX11_areThere_7 (hz _ sh_108) fl_X11_103 rfl ?_
  refine j_ishl (pc := 10) X dX11_areThere_10 ?_
  refine j_iconst (pc := 11) 1 X dX11_areThere_11 rfl ?_
  refine j_isub (pc := 12) X dX11_areThere_12 ?_
  refine j_cSi (pc := 13) (As := [.int a1, .int 0, .int (((1 : Int32) <<< ((h.1 108 6) &&& 31)) - 1)]) (rest := []) X dX11_areThere_13 ml_X11_106 ck_X11_within sk_X11_within (Nat.le_of_ble_eq_true rfl) rfl (Nat.le_of_ble_eq_true rfl) rfl hF (tX11_within Z a1 0 (((1 : Int32) <<< ((h.1 108 6) &&& 31)) - 1) trivial h) (fun w2 h1 hF => ?_)
  refine j_if_eq (pc := 16) 42 X dX11_areThere_16 rfl hF (fun hF => ?_) (fun hF => ?_)
  · refine j_iconst (pc := 42) 0 X dX11_areThere_42 rfl ?_
    exact j_zret (pc := 43) X E dX11_areThere_43 hF
  · refine j_iload_n (pc := 19) 2 X dX11_areThere_19 rfl ?_
    refine j_iconst (pc := 20) 0 X dX11_areThere_20 rfl ?_
    refine j_iconst (pc := 21) 1 X dX11_areThere_21 rfl ?_
    refine j_aload_n (pc := 22) 0 X dX11_areThere_22 rfl ?_
    refine j_getr (pc := 23) X dX11_areThere_23 (hz _ sh_100) fl_X11_26 rfl ?_
    refine j_geti (pc := 26) X dX11_areThere_26 (hz _ sh_108) fl_X11_110 rfl ?_
    refine j_ishl (pc := 29) X dX11_areThere_29 ?_
    refine j_iconst (pc := 30) 1 X dX11_areThere_30 rfl ?_
    refine j_isub (pc := 31) X dX11_areThere_31 ?_
    refine j_cSi (pc := 32) (As := [.int a2, .int 0, .int (((1 : Int32) <<< ((h1.1 108 9) &&& 31)) - 1)]) (rest := []) X dX11_areThere_32 ml_X11_106 ck_X11_within sk_X11_within (Nat.le_of_ble_eq_true rfl) rfl (Nat.le_of_ble_eq_true rfl) rfl hF (tX11_within Z a2 0 (((1 : Int32) <<< ((h1.1 108 9) &&& 31)) - 1) trivial h1) (fun w4 h3 hF => ?_)
    refine j_if_eq (pc := 35) 42 X dX11_areThere_35 rfl hF (fun hF => ?_) (fun hF => ?_)
    · refine j_iconst (pc := 42) 0 X dX11_areThere_42 rfl ?_
      exact j_zret (pc := 43) X E dX11_areThere_43 hF
    · refine j_iconst (pc := 38) 1 X dX11_areThere_38 rfl ?_
      refine j_goto (pc := 39) 43 X dX11_areThere_39 rfl ?_
      exact j_zret (pc := 43) X E dX11_areThere_43 hF
theorem dX11_feed_0 : decode cX11_feed 0 = .ok (.aload_n 0, 1) := by decide +kernel
theorem dX11_feed_1 : decode cX11_feed 1 = .ok (.getfield 10, 3) := by decide +kernel
theorem dX11_feed_4 : decode cX11_feed 4 = .ok (.invokevirtual 116, 3) := by decide +kernel
theorem dX11_feed_7 : decode cX11_feed 7 = .ok (.ifCond .ne 5, 3) := by decide +kernel
theorem dX11_feed_10 : decode cX11_feed 10 = .ok (.iconst (-1), 1) := by decide +kernel
theorem dX11_feed_11 : decode cX11_feed 11 = .ok (.ireturn, 1) := by decide +kernel
theorem dX11_feed_12 : decode cX11_feed 12 = .ok (.aload_n 0, 1) := by decide +kernel
theorem dX11_feed_13 : decode cX11_feed 13 = .ok (.getfield 10, 3) := by decide +kernel
theorem dX11_feed_16 : decode cX11_feed 16 = .ok (.iload_n 1, 1) := by decide +kernel
theorem dX11_feed_17 : decode cX11_feed 17 = .ok (.invokevirtual 120, 3) := by decide +kernel
theorem dX11_feed_20 : decode cX11_feed 20 = .ok (.aload_n 0, 1) := by decide +kernel
theorem dX11_feed_21 : decode cX11_feed 21 = .ok (.getfield 10, 3) := by decide +kernel
theorem dX11_feed_24 : decode cX11_feed 24 = .ok (.iload_n 2, 1) := by decide +kernel
theorem dX11_feed_25 : decode cX11_feed 25 = .ok (.invokevirtual 120, 3) := by decide +kernel
theorem dX11_feed_28 : decode cX11_feed 28 = .ok (.aload_n 0, 1) := by decide +kernel
theorem dX11_feed_29 : decode cX11_feed 29 = .ok (.getfield 10, 3) := by decide +kernel
theorem dX11_feed_32 : decode cX11_feed 32 = .ok (.iload_n 3, 1) := by decide +kernel
theorem dX11_feed_33 : decode cX11_feed 33 = .ok (.invokevirtual 120, 3) := by decide +kernel
theorem dX11_feed_36 : decode cX11_feed 36 = .ok (.aload_n 0, 1) := by decide +kernel
theorem dX11_feed_37 : decode cX11_feed 37 = .ok (.getfield 10, 3) := by decide +kernel
theorem dX11_feed_40 : decode cX11_feed 40 = .ok (.iload 4, 2) := by decide +kernel
theorem dX11_feed_42 : decode cX11_feed 42 = .ok (.invokevirtual 120, 3) := by decide +kernel
theorem dX11_feed_45 : decode cX11_feed 45 = .ok (.aload_n 0, 1) := by decide +kernel
theorem dX11_feed_46 : decode cX11_feed 46 = .ok (.getfield 10, 3) := by decide +kernel
theorem dX11_feed_49 : decode cX11_feed 49 = .ok (.iload 5, 2) := by decide +kernel
theorem dX11_feed_51 : decode cX11_feed 51 = .ok (.invokevirtual 120, 3) := by decide +kernel
theorem dX11_feed_54 : decode cX11_feed 54 = .ok (.aload_n 0, 1) := by decide +kernel
theorem dX11_feed_55 : decode cX11_feed 55 = .ok (.getfield 10, 3) := by decide +kernel
theorem dX11_feed_58 : decode cX11_feed 58 = .ok (.getfield 124, 3) := by decide +kernel
theorem dX11_feed_61 : decode cX11_feed 61 = .ok (.ireturn, 1) := by decide +kernel
def fX11_feed (a1 : Int32) (a2 : Int32) (a3 : Int32) (a4 : Int32) (a5 : Int32) (h : Hp) : Option (Int32 × Hp) := bi (fX8_hasRoom h) (fun w2 h1 => (if w2 = 0 then some ((-1), h1) else bv (fX8_add a1 h1) (fun h3 => bv (fX8_add a2 h3) (fun h4 => bv (fX8_add a3 h4) (fun h5 => bv (fX8_add a4 h5) (fun h6 => bv (fX8_add a5 h6) (fun h7 => some ((h7.1 101 1), h7))))))))
set_option maxRecDepth 20000 in
theorem tX11_feed (Z : ZT) (a1 : Int32) (a2 : Int32) (a3 : Int32) (a4 : Int32) (a5 : Int32) (hz : HZ Z) (h : Hp) (r : Int32) (hr : Hp) (hF : fX11_feed a1 a2 a3 a4 a5 h = some (r, hr)) : MC Z yX11_feed cX11_feed 6 (some .int) 1 [.ref (Z.2.1 100), .int a1, .int a2, .int a3, .int a4, .int a5] h (some (.int r)) hr := by
  unfold fX11_feed at hF
  refine mc_start (by decide) (Nat.le_of_ble_eq_true rfl) (fun G X E => ?_)
  refine j_aload_n (pc := 0) 0 X dX11_feed_0 rfl ?_
  refine j_getr (pc := 1) X dX11_feed_1 (hz _ sh_100) fl_X11_10 rfl ?_
  refine j_cVi (pc := 4) (As := []) (rest := []) X dX11_feed_4 ml_X11_116 ck_X8_hasRoom cv_X8_hasRoom (hz _ sh_101) rfl (Nat.le_of_ble_eq_true rfl) rfl (Nat.le_of_ble_eq_true rfl) rfl hF (tX8_hasRoom Z hz h) (fun w2 h1 hF => ?_)
  refine j_if_ne (pc := 7) 12 X dX11_feed_7 rfl hF (fun hF => ?_) (fun hF => ?_)
  · refine j_aload_n (pc := 12) 0 X dX11_feed_12 rfl ?_
    refine j_getr (pc := 13) X dX11_feed_13 (hz _ sh_100) fl_X11_10 rfl ?_
    refine j_iload_n (pc := 16) 1 X dX11_feed_16 rfl ?_
    refine j_cVv (pc := 17) (As := [.int a1]) (rest := []) X dX11_feed_17 ml_X11_120 ck_X8_add cv_X8_add (hz _ sh_101) rfl (Nat.le_of_ble_eq_true rfl) rfl (Nat.le_of_ble_eq_true rfl) rfl hF (tX8_add Z a1 hz h1) (fun h3 hF => ?_)
    refine j_aload_n (pc := 20) 0 X dX11_feed_20 rfl ?_
    refine j_getr (pc := 21) X dX11_feed_21 (hz _ sh_100) fl_X11_10 rfl ?_
    refine j_iload_n (pc := 24) 2 X dX11_feed_24 rfl ?_
    refine j_cVv (pc := 25) (As := [.int a2]) (rest := []) X dX11_feed_25 ml_X11_120 ck_X8_add cv_X8_add (hz _ sh_101) rfl (Nat.le_of_ble_eq_true rfl) rfl (Nat.le_of_ble_eq_true rfl) rfl hF (tX8_add Z a2 hz h3) (fun h4 hF => ?_)
    refine j_aload_n (pc := 28) 0 X dX11_feed_28 rfl ?_
    refine j_getr (pc := 29) X dX11_feed_29 (hz _ sh_100) fl_X11_10 rfl ?_
    refine j_iload_n (pc := 32) 3 X dX11_feed_32 rfl ?_
    refine j_cVv (pc := 33) (As := [.int a3]) (rest := []) X dX11_feed_33 ml_X11_120 ck_X8_add cv_X8_add (hz _ sh_101) rfl (Nat.le_of_ble_eq_true rfl) rfl (Nat.le_of_ble_eq_true rfl) rfl hF (tX8_add Z a3 hz h4) (fun h5 hF => ?_)
    refine j_aload_n (pc := 36) 0 X dX11_feed_36 rfl ?_
    refine j_getr (pc := 37) X dX11_feed_37 (hz _ sh_100) fl_X11_10 rfl ?_
    refine j_iload (pc := 40) 4 X dX11_feed_40 rfl ?_
    refine j_cVv (pc := 42) (As := [.int a4]) (rest := []) X dX11_feed_42 ml_X11_120 ck_X8_add cv_X8_add (hz _ sh_101) rfl (Nat.le_of_ble_eq_true rfl) rfl (Nat.le_of_ble_eq_true rfl) rfl hF (tX8_add Z a4 hz h5) (fun h6 hF => ?_)
    refine j_aload_n (pc := 45) 0 X dX11_feed_45 rfl ?_
    refine j_getr (pc := 46) X dX11_feed_46 (hz _ sh_100) fl_X11_10 rfl ?_
    refine j_iload (pc := 49) 5 X dX11_feed_49 rfl ?_
    refine j_cVv (pc := 51) (As := [.int a5]) (rest := []) X dX11_feed_51 ml_X11_120 ck_X8_add cv_X8_add (hz _ sh_101) rfl (Nat.le_of_ble_eq_true rfl) rfl (Nat.le_of_ble_eq_true rfl) rfl hF (tX8_add Z a5 hz h6) (fun h7 hF => ?_)
    refine j_aload_n (pc := 54) 0 X dX11_feed_54 rfl ?_
    refine j_getr (pc := 55) X dX11_feed_55 (hz _ sh_100) fl_X11_10 rfl ?_
    refine j_geti (pc := 58) X dX11_feed_58 (hz _ sh_101) fl_X11_124 rfl ?_
    exact j_iret (pc := 61) X E dX11_feed_61 hF
  · refine j_iconst (pc := 10) (-1) X dX11_feed_10 rfl ?_
    exact j_iret (pc := 11) X E dX11_feed_11 hF
theorem dX11_back_0 : decode cX11_back 0 = .ok (.iload_n 1, 1) := by decide +kernel
theorem dX11_back_1 : decode cX11_back 1 = .ok (.iconst 0, 1) := by decide +kernel
theorem dX11_back_2 : decode cX11_back 2 = .ok (.aload_n 0, 1) := by decide +kernel
theorem dX11_back_3 : decode cX11_back 3 = .ok (.getfield 10, 3) := by decide +kernel
theorem dX11_back_6 : decode cX11_back 6 = .ok (.getfield 124, 3) := by decide +kernel
theorem dX11_back_9 : decode cX11_back 9 = .ok (.invokestatic 106, 3) := by decide +kernel
theorem dX11_back_12 : decode cX11_back 12 = .ok (.ifCond .ne 5, 3) := by decide +kernel
theorem dX11_back_15 : decode cX11_back 15 = .ok (.iconst (-1), 1) := by decide +kernel
theorem dX11_back_16 : decode cX11_back 16 = .ok (.ireturn, 1) := by decide +kernel
theorem dX11_back_17 : decode cX11_back 17 = .ok (.aload_n 0, 1) := by decide +kernel
theorem dX11_back_18 : decode cX11_back 18 = .ok (.getfield 10, 3) := by decide +kernel
theorem dX11_back_21 : decode cX11_back 21 = .ok (.dup, 1) := by decide +kernel
theorem dX11_back_22 : decode cX11_back 22 = .ok (.getfield 124, 3) := by decide +kernel
theorem dX11_back_25 : decode cX11_back 25 = .ok (.iload_n 1, 1) := by decide +kernel
theorem dX11_back_26 : decode cX11_back 26 = .ok (.isub, 1) := by decide +kernel
theorem dX11_back_27 : decode cX11_back 27 = .ok (.putfield 124, 3) := by decide +kernel
theorem dX11_back_30 : decode cX11_back 30 = .ok (.aload_n 0, 1) := by decide +kernel
theorem dX11_back_31 : decode cX11_back 31 = .ok (.getfield 10, 3) := by decide +kernel
theorem dX11_back_34 : decode cX11_back 34 = .ok (.getfield 124, 3) := by decide +kernel
theorem dX11_back_37 : decode cX11_back 37 = .ok (.ireturn, 1) := by decide +kernel
def fX11_back (a1 : Int32) (h : Hp) : Option (Int32 × Hp) := bi (fX11_within a1 0 (h.1 101 1) h) (fun w2 h1 => (if w2 = 0 then some ((-1), h1) else lt (wI h1 101 1 ((h1.1 101 1) - a1)) (fun h3 => some ((h3.1 101 1), h3))))
set_option maxRecDepth 20000 in
theorem tX11_back (Z : ZT) (a1 : Int32) (hz : HZ Z) (h : Hp) (r : Int32) (hr : Hp) (hF : fX11_back a1 h = some (r, hr)) : MC Z yX11_back cX11_back 2 (some .int) 1 [.ref (Z.2.1 100), .int a1] h (some (.int r)) hr := by
  unfold fX11_back at hF
  refine mc_start (by decide) (Nat.le_of_ble_eq_true rfl) (fun G X E => ?_)
  refine j_iload_n (pc := 0) 1 X dX11_back_0 rfl ?_
  refine j_iconst (pc := 1) 0 X dX11_back_1 rfl ?_
  refine j_aload_n (pc := 2) 0 X dX11_back_2 rfl ?_
  refine j_getr (pc := 3) X dX11_back_3 (hz _ sh_100) fl_X11_10 rfl ?_
  refine j_geti (pc := 6) X dX11_back_6 (hz _ sh_101) fl_X11_124 rfl ?_
  refine j_cSi (pc := 9) (As := [.int a1, .int 0, .int (h.1 101 1)]) (rest := []) X dX11_back_9 ml_X11_106 ck_X11_within sk_X11_within (Nat.le_of_ble_eq_true rfl) rfl (Nat.le_of_ble_eq_true rfl) rfl hF (tX11_within Z a1 0 (h.1 101 1) trivial h) (fun w2 h1 hF => ?_)
  refine j_if_ne (pc := 12) 17 X dX11_back_12 rfl hF (fun hF => ?_) (fun hF => ?_)
  · refine j_aload_n (pc := 17) 0 X dX11_back_17 rfl ?_
    refine j_getr (pc := 18) X dX11_back_18 (hz _ sh_100) fl_X11_10 rfl ?_
    refine j_dup (pc := 21) X dX11_back_21 rfl ?_
    refine j_geti (pc := 22) X dX11_back_22 (hz _ sh_101) fl_X11_124 rfl ?_
    refine j_iload_n (pc := 25) 1 X dX11_back_25 rfl ?_
    refine j_isub (pc := 26) X dX11_back_26 ?_
    refine j_puti (pc := 27) X dX11_back_27 (hz _ sh_101) fp_X11_124 rfl hF (fun h3 hF => ?_)
    refine j_aload_n (pc := 30) 0 X dX11_back_30 rfl ?_
    refine j_getr (pc := 31) X dX11_back_31 (hz _ sh_100) fl_X11_10 rfl ?_
    refine j_geti (pc := 34) X dX11_back_34 (hz _ sh_101) fl_X11_124 rfl ?_
    exact j_iret (pc := 37) X E dX11_back_37 hF
  · refine j_iconst (pc := 15) (-1) X dX11_back_15 rfl ?_
    exact j_iret (pc := 16) X E dX11_back_16 hF
theorem dX11_read_0 : decode cX11_read 0 = .ok (.aload_n 0, 1) := by decide +kernel
theorem dX11_read_1 : decode cX11_read 1 = .ok (.getfield 19, 3) := by decide +kernel
theorem dX11_read_4 : decode cX11_read 4 = .ok (.aload_n 0, 1) := by decide +kernel
theorem dX11_read_5 : decode cX11_read 5 = .ok (.getfield 10, 3) := by decide +kernel
theorem dX11_read_8 : decode cX11_read 8 = .ok (.invokevirtual 125, 3) := by decide +kernel
theorem dX11_read_11 : decode cX11_read 11 = .ok (.aload_n 0, 1) := by decide +kernel
theorem dX11_read_12 : decode cX11_read 12 = .ok (.getfield 10, 3) := by decide +kernel
theorem dX11_read_15 : decode cX11_read 15 = .ok (.iconst 0, 1) := by decide +kernel
theorem dX11_read_16 : decode cX11_read 16 = .ok (.putfield 124, 3) := by decide +kernel
theorem dX11_read_19 : decode cX11_read 19 = .ok (.aload_n 0, 1) := by decide +kernel
theorem dX11_read_20 : decode cX11_read 20 = .ok (.getfield 38, 3) := by decide +kernel
theorem dX11_read_23 : decode cX11_read 23 = .ok (.invokevirtual 129, 3) := by decide +kernel
theorem dX11_read_26 : decode cX11_read 26 = .ok (.aload_n 0, 1) := by decide +kernel
theorem dX11_read_27 : decode cX11_read 27 = .ok (.getfield 38, 3) := by decide +kernel
theorem dX11_read_30 : decode cX11_read 30 = .ok (.invokevirtual 132, 3) := by decide +kernel
theorem dX11_read_33 : decode cX11_read 33 = .ok (.aload_n 0, 1) := by decide +kernel
theorem dX11_read_34 : decode cX11_read 34 = .ok (.getfield 38, 3) := by decide +kernel
theorem dX11_read_37 : decode cX11_read 37 = .ok (.invokevirtual 135, 3) := by decide +kernel
theorem dX11_read_40 : decode cX11_read 40 = .ok (.aload_n 0, 1) := by decide +kernel
theorem dX11_read_41 : decode cX11_read 41 = .ok (.aload_n 0, 1) := by decide +kernel
theorem dX11_read_42 : decode cX11_read 42 = .ok (.getfield 38, 3) := by decide +kernel
theorem dX11_read_45 : decode cX11_read 45 = .ok (.getfield 138, 3) := by decide +kernel
theorem dX11_read_48 : decode cX11_read 48 = .ok (.putfield 91, 3) := by decide +kernel
theorem dX11_read_51 : decode cX11_read 51 = .ok (.aload_n 0, 1) := by decide +kernel
theorem dX11_read_52 : decode cX11_read 52 = .ok (.getfield 38, 3) := by decide +kernel
theorem dX11_read_55 : decode cX11_read 55 = .ok (.getfield 139, 3) := by decide +kernel
theorem dX11_read_58 : decode cX11_read 58 = .ok (.ifCond .eq 11, 3) := by decide +kernel
theorem dX11_read_61 : decode cX11_read 61 = .ok (.aload_n 0, 1) := by decide +kernel
theorem dX11_read_62 : decode cX11_read 62 = .ok (.getfield 38, 3) := by decide +kernel
theorem dX11_read_65 : decode cX11_read 65 = .ok (.getfield 139, 3) := by decide +kernel
theorem dX11_read_68 : decode cX11_read 68 = .ok (.ireturn, 1) := by decide +kernel
theorem dX11_read_69 : decode cX11_read 69 = .ok (.aload_n 0, 1) := by decide +kernel
theorem dX11_read_70 : decode cX11_read 70 = .ok (.getfield 26, 3) := by decide +kernel
theorem dX11_read_73 : decode cX11_read 73 = .ok (.aload_n 0, 1) := by decide +kernel
theorem dX11_read_74 : decode cX11_read 74 = .ok (.getfield 30, 3) := by decide +kernel
theorem dX11_read_77 : decode cX11_read 77 = .ok (.invokevirtual 142, 3) := by decide +kernel
theorem dX11_read_80 : decode cX11_read 80 = .ok (.aload_n 0, 1) := by decide +kernel
theorem dX11_read_81 : decode cX11_read 81 = .ok (.getfield 47, 3) := by decide +kernel
theorem dX11_read_84 : decode cX11_read 84 = .ok (.invokevirtual 145, 3) := by decide +kernel
theorem dX11_read_87 : decode cX11_read 87 = .ok (.aload_n 0, 1) := by decide +kernel
theorem dX11_read_88 : decode cX11_read 88 = .ok (.getfield 54, 3) := by decide +kernel
theorem dX11_read_91 : decode cX11_read 91 = .ok (.iconst 0, 1) := by decide +kernel
theorem dX11_read_92 : decode cX11_read 92 = .ok (.putfield 113, 3) := by decide +kernel
theorem dX11_read_95 : decode cX11_read 95 = .ok (.aload_n 0, 1) := by decide +kernel
theorem dX11_read_96 : decode cX11_read 96 = .ok (.iconst 0, 1) := by decide +kernel
theorem dX11_read_97 : decode cX11_read 97 = .ok (.putfield 87, 3) := by decide +kernel
theorem dX11_read_100 : decode cX11_read 100 = .ok (.iconst 0, 1) := by decide +kernel
theorem dX11_read_101 : decode cX11_read 101 = .ok (.ireturn, 1) := by decide +kernel
def fX11_read  (h : Hp) : Option (Int32 × Hp) := bv (fX9_scan h) (fun h1 => lt (wI h1 101 1 0) (fun h2 => bv (fX5_begin h2) (fun h3 => bv (fX5_tellAll h3) (fun h4 => bv (fX5_settle h4) (fun h5 => lt (wI h5 100 12 (h5.1 142 9)) (fun h6 => (if (h6.1 142 8) = 0 then bv (fX0_become h6) (fun h7 => bv (fX6_fillTables h7) (fun h8 => lt (wI h8 152 6 0) (fun h9 => lt (wI h9 100 11 0) (fun h10 => some (0, h10))))) else some ((h6.1 142 8), h6))))))))
set_option maxRecDepth 20000 in
theorem tX11_read (Z : ZT)  (hz : HZ Z) (h : Hp) (r : Int32) (hr : Hp) (hF : fX11_read  h = some (r, hr)) : MC Z yX11_read cX11_read 1 (some .int) 7 [.ref (Z.2.1 100)] h (some (.int r)) hr := by
  unfold fX11_read at hF
  refine mc_start (by decide) (Nat.le_of_ble_eq_true rfl) (fun G X E => ?_)
  refine j_aload_n (pc := 0) 0 X dX11_read_0 rfl ?_
  refine j_getr (pc := 1) X dX11_read_1 (hz _ sh_100) fl_X11_19 rfl ?_
  refine j_aload_n (pc := 4) 0 X dX11_read_4 rfl ?_
  refine j_getr (pc := 5) X dX11_read_5 (hz _ sh_100) fl_X11_10 rfl ?_
  refine j_cVv (pc := 8) (As := [.ref (Z.2.1 101)]) (rest := []) X dX11_read_8 ml_X11_125 ck_X9_scan cv_X9_scan (hz _ sh_103) rfl (Nat.le_of_ble_eq_true rfl) rfl (Nat.le_of_ble_eq_true rfl) rfl hF (tX9_scan Z hz h) (fun h1 hF => ?_)
  refine j_aload_n (pc := 11) 0 X dX11_read_11 rfl ?_
  refine j_getr (pc := 12) X dX11_read_12 (hz _ sh_100) fl_X11_10 rfl ?_
  refine j_iconst (pc := 15) 0 X dX11_read_15 rfl ?_
  refine j_puti (pc := 16) X dX11_read_16 (hz _ sh_101) fp_X11_124 rfl hF (fun h2 hF => ?_)
  refine j_aload_n (pc := 19) 0 X dX11_read_19 rfl ?_
  refine j_getr (pc := 20) X dX11_read_20 (hz _ sh_100) fl_X11_38 rfl ?_
  refine j_cVv (pc := 23) (As := []) (rest := []) X dX11_read_23 ml_X11_129 ck_X5_begin cv_X5_begin (hz _ sh_142) rfl (Nat.le_of_ble_eq_true rfl) rfl (Nat.le_of_ble_eq_true rfl) rfl hF (tX5_begin Z hz h2) (fun h3 hF => ?_)
  refine j_aload_n (pc := 26) 0 X dX11_read_26 rfl ?_
  refine j_getr (pc := 27) X dX11_read_27 (hz _ sh_100) fl_X11_38 rfl ?_
  refine j_cVv (pc := 30) (As := []) (rest := []) X dX11_read_30 ml_X11_132 ck_X5_tellAll cv_X5_tellAll (hz _ sh_142) rfl (Nat.le_of_ble_eq_true rfl) rfl (Nat.le_of_ble_eq_true rfl) rfl hF (tX5_tellAll Z hz h3) (fun h4 hF => ?_)
  refine j_aload_n (pc := 33) 0 X dX11_read_33 rfl ?_
  refine j_getr (pc := 34) X dX11_read_34 (hz _ sh_100) fl_X11_38 rfl ?_
  refine j_cVv (pc := 37) (As := []) (rest := []) X dX11_read_37 ml_X11_135 ck_X5_settle cv_X5_settle (hz _ sh_142) rfl (Nat.le_of_ble_eq_true rfl) rfl (Nat.le_of_ble_eq_true rfl) rfl hF (tX5_settle Z hz h4) (fun h5 hF => ?_)
  refine j_aload_n (pc := 40) 0 X dX11_read_40 rfl ?_
  refine j_aload_n (pc := 41) 0 X dX11_read_41 rfl ?_
  refine j_getr (pc := 42) X dX11_read_42 (hz _ sh_100) fl_X11_38 rfl ?_
  refine j_geti (pc := 45) X dX11_read_45 (hz _ sh_142) fl_X11_138 rfl ?_
  refine j_puti (pc := 48) X dX11_read_48 (hz _ sh_100) fp_X11_91 rfl hF (fun h6 hF => ?_)
  refine j_aload_n (pc := 51) 0 X dX11_read_51 rfl ?_
  refine j_getr (pc := 52) X dX11_read_52 (hz _ sh_100) fl_X11_38 rfl ?_
  refine j_geti (pc := 55) X dX11_read_55 (hz _ sh_142) fl_X11_139 rfl ?_
  refine j_if_eq (pc := 58) 69 X dX11_read_58 rfl hF (fun hF => ?_) (fun hF => ?_)
  · refine j_aload_n (pc := 69) 0 X dX11_read_69 rfl ?_
    refine j_getr (pc := 70) X dX11_read_70 (hz _ sh_100) fl_X11_26 rfl ?_
    refine j_aload_n (pc := 73) 0 X dX11_read_73 rfl ?_
    refine j_getr (pc := 74) X dX11_read_74 (hz _ sh_100) fl_X11_30 rfl ?_
    refine j_cVv (pc := 77) (As := [.ref (Z.2.1 125)]) (rest := []) X dX11_read_77 ml_X11_142 ck_X0_become cv_X0_become (hz _ sh_108) rfl (Nat.le_of_ble_eq_true rfl) rfl (Nat.le_of_ble_eq_true rfl) rfl hF (tX0_become Z hz h6) (fun h7 hF => ?_)
    refine j_aload_n (pc := 80) 0 X dX11_read_80 rfl ?_
    refine j_getr (pc := 81) X dX11_read_81 (hz _ sh_100) fl_X11_47 rfl ?_
    refine j_cVv (pc := 84) (As := []) (rest := []) X dX11_read_84 ml_X11_145 ck_X6_fillTables cv_X6_fillTables (hz _ sh_147) rfl (Nat.le_of_ble_eq_true rfl) rfl (Nat.le_of_ble_eq_true rfl) rfl hF (tX6_fillTables Z hz h7) (fun h8 hF => ?_)
    refine j_aload_n (pc := 87) 0 X dX11_read_87 rfl ?_
    refine j_getr (pc := 88) X dX11_read_88 (hz _ sh_100) fl_X11_54 rfl ?_
    refine j_iconst (pc := 91) 0 X dX11_read_91 rfl ?_
    refine j_puti (pc := 92) X dX11_read_92 (hz _ sh_152) fp_X11_113 rfl hF (fun h9 hF => ?_)
    refine j_aload_n (pc := 95) 0 X dX11_read_95 rfl ?_
    refine j_iconst (pc := 96) 0 X dX11_read_96 rfl ?_
    refine j_puti (pc := 97) X dX11_read_97 (hz _ sh_100) fp_X11_87 rfl hF (fun h10 hF => ?_)
    refine j_iconst (pc := 100) 0 X dX11_read_100 rfl ?_
    exact j_iret (pc := 101) X E dX11_read_101 hF
  · refine j_aload_n (pc := 61) 0 X dX11_read_61 rfl ?_
    refine j_getr (pc := 62) X dX11_read_62 (hz _ sh_100) fl_X11_38 rfl ?_
    refine j_geti (pc := 65) X dX11_read_65 (hz _ sh_142) fl_X11_139 rfl ?_
    exact j_iret (pc := 68) X E dX11_read_68 hF
theorem dX11_place_0 : decode cX11_place 0 = .ok (.aload_n 0, 1) := by decide +kernel
theorem dX11_place_1 : decode cX11_place 1 = .ok (.getfield 91, 3) := by decide +kernel
theorem dX11_place_4 : decode cX11_place 4 = .ok (.ireturn, 1) := by decide +kernel
def fX11_place  (h : Hp) : Option (Int32 × Hp) := some ((h.1 100 12), h)
set_option maxRecDepth 20000 in
theorem tX11_place (Z : ZT)  (hz : HZ Z) (h : Hp) (r : Int32) (hr : Hp) (hF : fX11_place  h = some (r, hr)) : MC Z yX11_place cX11_place 1 (some .int) 0 [.ref (Z.2.1 100)] h (some (.int r)) hr := by
  unfold fX11_place at hF
  refine mc_start (by decide) (Nat.le_of_ble_eq_true rfl) (fun G X E => ?_)
  refine j_aload_n (pc := 0) 0 X dX11_place_0 rfl ?_
  refine j_geti (pc := 1) X dX11_place_1 (hz _ sh_100) fl_X11_91 rfl ?_
  exact j_iret (pc := 4) X E dX11_place_4 hF
theorem dX11_letter_0 : decode cX11_letter 0 = .ok (.aload_n 0, 1) := by decide +kernel
theorem dX11_letter_1 : decode cX11_letter 1 = .ok (.iload_n 1, 1) := by decide +kernel
theorem dX11_letter_2 : decode cX11_letter 2 = .ok (.invokevirtual 148, 3) := by decide +kernel
theorem dX11_letter_5 : decode cX11_letter 5 = .ok (.ifCond .ne 5, 3) := by decide +kernel
theorem dX11_letter_8 : decode cX11_letter 8 = .ok (.iconst (-1), 1) := by decide +kernel
theorem dX11_letter_9 : decode cX11_letter 9 = .ok (.ireturn, 1) := by decide +kernel
theorem dX11_letter_10 : decode cX11_letter 10 = .ok (.aload_n 0, 1) := by decide +kernel
theorem dX11_letter_11 : decode cX11_letter 11 = .ok (.getfield 26, 3) := by decide +kernel
theorem dX11_letter_14 : decode cX11_letter 14 = .ok (.getfield 152, 3) := by decide +kernel
theorem dX11_letter_17 : decode cX11_letter 17 = .ok (.iload_n 1, 1) := by decide +kernel
theorem dX11_letter_18 : decode cX11_letter 18 = .ok (.aaload, 1) := by decide +kernel
theorem dX11_letter_19 : decode cX11_letter 19 = .ok (.astore_n 3, 1) := by decide +kernel
theorem dX11_letter_20 : decode cX11_letter 20 = .ok (.iload_n 2, 1) := by decide +kernel
theorem dX11_letter_21 : decode cX11_letter 21 = .ok (.tableswitch 60 0 4 #[35, 40, 45, 50, 55], 35) := by decide +kernel
theorem dX11_letter_56 : decode cX11_letter 56 = .ok (.aload_n 3, 1) := by decide +kernel
theorem dX11_letter_57 : decode cX11_letter 57 = .ok (.getfield 156, 3) := by decide +kernel
theorem dX11_letter_60 : decode cX11_letter 60 = .ok (.ireturn, 1) := by decide +kernel
theorem dX11_letter_61 : decode cX11_letter 61 = .ok (.aload_n 3, 1) := by decide +kernel
theorem dX11_letter_62 : decode cX11_letter 62 = .ok (.getfield 161, 3) := by decide +kernel
theorem dX11_letter_65 : decode cX11_letter 65 = .ok (.ireturn, 1) := by decide +kernel
theorem dX11_letter_66 : decode cX11_letter 66 = .ok (.aload_n 3, 1) := by decide +kernel
theorem dX11_letter_67 : decode cX11_letter 67 = .ok (.getfield 164, 3) := by decide +kernel
theorem dX11_letter_70 : decode cX11_letter 70 = .ok (.ireturn, 1) := by decide +kernel
theorem dX11_letter_71 : decode cX11_letter 71 = .ok (.aload_n 3, 1) := by decide +kernel
theorem dX11_letter_72 : decode cX11_letter 72 = .ok (.getfield 167, 3) := by decide +kernel
theorem dX11_letter_75 : decode cX11_letter 75 = .ok (.ireturn, 1) := by decide +kernel
theorem dX11_letter_76 : decode cX11_letter 76 = .ok (.aload_n 3, 1) := by decide +kernel
theorem dX11_letter_77 : decode cX11_letter 77 = .ok (.getfield 170, 3) := by decide +kernel
theorem dX11_letter_80 : decode cX11_letter 80 = .ok (.ireturn, 1) := by decide +kernel
theorem dX11_letter_81 : decode cX11_letter 81 = .ok (.iconst (-1), 1) := by decide +kernel
theorem dX11_letter_82 : decode cX11_letter 82 = .ok (.ireturn, 1) := by decide +kernel
def fX11_letter (a1 : Int32) (a2 : Int32) (h : Hp) : Option (Int32 × Hp) := bi (fX11_isLetter a1 h) (fun w2 h1 => (if w2 = 0 then some ((-1), h1) else ck (inb a1 10) ((if a2.toInt < 0 ∨ 4 < a2.toInt then some ((-1), h1) else if a2 = 0 then some ((h1.1 (115 + ix a1) 0), h1) else if a2 = 1 then some ((h1.1 (115 + ix a1) 1), h1) else if a2 = 2 then some ((h1.1 (115 + ix a1) 2), h1) else if a2 = 3 then some ((h1.1 (115 + ix a1) 3), h1) else if a2 = 4 then some ((h1.1 (115 + ix a1) 4), h1) else none))))
set_option maxRecDepth 20000 in
theorem tX11_letter (Z : ZT) (a1 : Int32) (a2 : Int32) (hz : HZ Z) (h : Hp) (r : Int32) (hr : Hp) (hF : fX11_letter a1 a2 h = some (r, hr)) : MC Z yX11_letter cX11_letter 4 (some .int) 2 [.ref (Z.2.1 100), .int a1, .int a2] h (some (.int r)) hr := by
  unfold fX11_letter at hF
  refine mc_start (by decide) (Nat.le_of_ble_eq_true rfl) (fun G X E => ?_)
  refine j_aload_n (pc := 0) 0 X dX11_letter_0 rfl ?_
  refine j_iload_n (pc := 1) 1 X dX11_letter_1 rfl ?_
  refine j_cVi (pc := 2) (As := [.int a1]) (rest := []) X dX11_letter_2 ml_X11_148 ck_X11_isLetter cv_X11_isLetter (hz _ sh_100) rfl (Nat.le_of_ble_eq_true rfl) rfl (Nat.le_of_ble_eq_true rfl) rfl hF (tX11_isLetter Z a1 hz h) (fun w2 h1 hF => ?_)
  refine j_if_ne (pc := 5) 10 X dX11_letter_5 rfl hF (fun hF => ?_) (fun hF => ?_)
  · refine j_aload_n (pc := 10) 0 X dX11_letter_10 rfl ?_
    refine j_getr (pc := 11) X dX11_letter_11 (hz _ sh_100) fl_X11_26 rfl ?_
    refine j_getr (pc := 14) X dX11_letter_14 (hz _ sh_108) fl_X11_152 rfl ?_
    refine j_iload_n (pc := 17) 1 X dX11_letter_17 rfl ?_
    refine j_aald (pc := 18) (g := fun j => 115 + j) (C := "AfterOffice$Letter") X dX11_letter_18 (hz _ sh_111) (fun _ => rfl) rfl al_111 hF (fun hb3 hF => ?_)
    refine j_astore_n (pc := 19) [(3, .ref (Z.2.1 (115 + ix a1))), (0, .ref (Z.2.1 100)), (1, .int a1), (2, .int a2)] X dX11_letter_19 (by decide) rfl ?_
    refine j_iload_n (pc := 20) 3 X dX11_letter_20 rfl ?_
    refine j_tab (pc := 21) (tgt := 81) X dX11_letter_21 rfl hF (fun hF => ?_) (fun hF => ?_)
    · refine j_iconst (pc := 81) (-1) X dX11_letter_81 rfl ?_
      exact j_iret (pc := 82) X E dX11_letter_82 hF
    refine j_tabi (pc := 21) (v := 0) (tgt := 56) X dX11_letter_21 rfl rfl rfl rfl hF (fun hF => ?_) (fun hF => ?_)
    · refine j_aload_n (pc := 56) 0 X dX11_letter_56 rfl ?_
      refine j_geti (pc := 57) X dX11_letter_57 (hz _ (shL (is_111 hb3))) fl_X11_156 rfl ?_
      exact j_iret (pc := 60) X E dX11_letter_60 hF
    refine j_tabi (pc := 21) (v := 1) (tgt := 61) X dX11_letter_21 rfl rfl rfl rfl hF (fun hF => ?_) (fun hF => ?_)
    · refine j_aload_n (pc := 61) 0 X dX11_letter_61 rfl ?_
      refine j_geti (pc := 62) X dX11_letter_62 (hz _ (shL (is_111 hb3))) fl_X11_161 rfl ?_
      exact j_iret (pc := 65) X E dX11_letter_65 hF
    refine j_tabi (pc := 21) (v := 2) (tgt := 66) X dX11_letter_21 rfl rfl rfl rfl hF (fun hF => ?_) (fun hF => ?_)
    · refine j_aload_n (pc := 66) 0 X dX11_letter_66 rfl ?_
      refine j_geti (pc := 67) X dX11_letter_67 (hz _ (shL (is_111 hb3))) fl_X11_164 rfl ?_
      exact j_iret (pc := 70) X E dX11_letter_70 hF
    refine j_tabi (pc := 21) (v := 3) (tgt := 71) X dX11_letter_21 rfl rfl rfl rfl hF (fun hF => ?_) (fun hF => ?_)
    · refine j_aload_n (pc := 71) 0 X dX11_letter_71 rfl ?_
      refine j_geti (pc := 72) X dX11_letter_72 (hz _ (shL (is_111 hb3))) fl_X11_167 rfl ?_
      exact j_iret (pc := 75) X E dX11_letter_75 hF
    refine j_tabi (pc := 21) (v := 4) (tgt := 76) X dX11_letter_21 rfl rfl rfl rfl hF (fun hF => ?_) (fun hF => ?_)
    · refine j_aload_n (pc := 76) 0 X dX11_letter_76 rfl ?_
      refine j_geti (pc := 77) X dX11_letter_77 (hz _ (shL (is_111 hb3))) fl_X11_170 rfl ?_
      exact j_iret (pc := 80) X E dX11_letter_80 hF
    cases hF
  · refine j_iconst (pc := 8) (-1) X dX11_letter_8 rfl ?_
    exact j_iret (pc := 9) X E dX11_letter_9 hF
theorem dX11_dies_0 : decode cX11_dies 0 = .ok (.aload_n 0, 1) := by decide +kernel
theorem dX11_dies_1 : decode cX11_dies 1 = .ok (.iload_n 1, 1) := by decide +kernel
theorem dX11_dies_2 : decode cX11_dies 2 = .ok (.invokevirtual 173, 3) := by decide +kernel
theorem dX11_dies_5 : decode cX11_dies 5 = .ok (.ifCond .eq 23, 3) := by decide +kernel
theorem dX11_dies_8 : decode cX11_dies 8 = .ok (.aload_n 0, 1) := by decide +kernel
theorem dX11_dies_9 : decode cX11_dies 9 = .ok (.iload_n 2, 1) := by decide +kernel
theorem dX11_dies_10 : decode cX11_dies 10 = .ok (.invokevirtual 176, 3) := by decide +kernel
theorem dX11_dies_13 : decode cX11_dies 13 = .ok (.ifCond .eq 15, 3) := by decide +kernel
theorem dX11_dies_16 : decode cX11_dies 16 = .ok (.aload_n 0, 1) := by decide +kernel
theorem dX11_dies_17 : decode cX11_dies 17 = .ok (.getfield 47, 3) := by decide +kernel
theorem dX11_dies_20 : decode cX11_dies 20 = .ok (.iload_n 1, 1) := by decide +kernel
theorem dX11_dies_21 : decode cX11_dies 21 = .ok (.iload_n 2, 1) := by decide +kernel
theorem dX11_dies_22 : decode cX11_dies 22 = .ok (.invokevirtual 179, 3) := by decide +kernel
theorem dX11_dies_25 : decode cX11_dies 25 = .ok (.goto 4, 3) := by decide +kernel
theorem dX11_dies_28 : decode cX11_dies 28 = .ok (.iconst (-1), 1) := by decide +kernel
theorem dX11_dies_29 : decode cX11_dies 29 = .ok (.ireturn, 1) := by decide +kernel
def fX11_dies (a1 : Int32) (a2 : Int32) (h : Hp) : Option (Int32 × Hp) := bi (fX11_isPerson a1 h) (fun w2 h1 => (if w2 = 0 then some ((-1), h1) else bi (fX11_isYear a2 h1) (fun w4 h3 => (if w4 = 0 then some ((-1), h3) else bi (fX6_diesOf a1 a2 h3) (fun w6 h5 => some (w6, h5))))))
set_option maxRecDepth 20000 in
theorem tX11_dies (Z : ZT) (a1 : Int32) (a2 : Int32) (hz : HZ Z) (h : Hp) (r : Int32) (hr : Hp) (hF : fX11_dies a1 a2 h = some (r, hr)) : MC Z yX11_dies cX11_dies 3 (some .int) 2 [.ref (Z.2.1 100), .int a1, .int a2] h (some (.int r)) hr := by
  unfold fX11_dies at hF
  refine mc_start (by decide) (Nat.le_of_ble_eq_true rfl) (fun G X E => ?_)
  refine j_aload_n (pc := 0) 0 X dX11_dies_0 rfl ?_
  refine j_iload_n (pc := 1) 1 X dX11_dies_1 rfl ?_
  refine j_cVi (pc := 2) (As := [.int a1]) (rest := []) X dX11_dies_2 ml_X11_173 ck_X11_isPerson cv_X11_isPerson (hz _ sh_100) rfl (Nat.le_of_ble_eq_true rfl) rfl (Nat.le_of_ble_eq_true rfl) rfl hF (tX11_isPerson Z a1 hz h) (fun w2 h1 hF => ?_)
  refine j_if_eq (pc := 5) 28 X dX11_dies_5 rfl hF (fun hF => ?_) (fun hF => ?_)
  · refine j_iconst (pc := 28) (-1) X dX11_dies_28 rfl ?_
    exact j_iret (pc := 29) X E dX11_dies_29 hF
  · refine j_aload_n (pc := 8) 0 X dX11_dies_8 rfl ?_
    refine j_iload_n (pc := 9) 2 X dX11_dies_9 rfl ?_
    refine j_cVi (pc := 10) (As := [.int a2]) (rest := []) X dX11_dies_10 ml_X11_176 ck_X11_isYear cv_X11_isYear (hz _ sh_100) rfl (Nat.le_of_ble_eq_true rfl) rfl (Nat.le_of_ble_eq_true rfl) rfl hF (tX11_isYear Z a2 hz h1) (fun w4 h3 hF => ?_)
    refine j_if_eq (pc := 13) 28 X dX11_dies_13 rfl hF (fun hF => ?_) (fun hF => ?_)
    · refine j_iconst (pc := 28) (-1) X dX11_dies_28 rfl ?_
      exact j_iret (pc := 29) X E dX11_dies_29 hF
    · refine j_aload_n (pc := 16) 0 X dX11_dies_16 rfl ?_
      refine j_getr (pc := 17) X dX11_dies_17 (hz _ sh_100) fl_X11_47 rfl ?_
      refine j_iload_n (pc := 20) 1 X dX11_dies_20 rfl ?_
      refine j_iload_n (pc := 21) 2 X dX11_dies_21 rfl ?_
      refine j_cVi (pc := 22) (As := [.int a1, .int a2]) (rest := []) X dX11_dies_22 ml_X11_179 ck_X6_diesOf cv_X6_diesOf (hz _ sh_147) rfl (Nat.le_of_ble_eq_true rfl) rfl (Nat.le_of_ble_eq_true rfl) rfl hF (tX6_diesOf Z a1 a2 hz h3) (fun w6 h5 hF => ?_)
      refine j_goto (pc := 25) 29 X dX11_dies_25 rfl ?_
      exact j_iret (pc := 29) X E dX11_dies_29 hF
theorem dX11_fee_0 : decode cX11_fee 0 = .ok (.aload_n 0, 1) := by decide +kernel
theorem dX11_fee_1 : decode cX11_fee 1 = .ok (.iload_n 1, 1) := by decide +kernel
theorem dX11_fee_2 : decode cX11_fee 2 = .ok (.invokevirtual 148, 3) := by decide +kernel
theorem dX11_fee_5 : decode cX11_fee 5 = .ok (.ifCond .eq 34, 3) := by decide +kernel
theorem dX11_fee_8 : decode cX11_fee 8 = .ok (.aload_n 0, 1) := by decide +kernel
theorem dX11_fee_9 : decode cX11_fee 9 = .ok (.iload_n 2, 1) := by decide +kernel
theorem dX11_fee_10 : decode cX11_fee 10 = .ok (.invokevirtual 176, 3) := by decide +kernel
theorem dX11_fee_13 : decode cX11_fee 13 = .ok (.ifCond .eq 26, 3) := by decide +kernel
theorem dX11_fee_16 : decode cX11_fee 16 = .ok (.aload_n 0, 1) := by decide +kernel
theorem dX11_fee_17 : decode cX11_fee 17 = .ok (.getfield 47, 3) := by decide +kernel
theorem dX11_fee_20 : decode cX11_fee 20 = .ok (.aload_n 0, 1) := by decide +kernel
theorem dX11_fee_21 : decode cX11_fee 21 = .ok (.getfield 26, 3) := by decide +kernel
theorem dX11_fee_24 : decode cX11_fee 24 = .ok (.getfield 152, 3) := by decide +kernel
theorem dX11_fee_27 : decode cX11_fee 27 = .ok (.iload_n 1, 1) := by decide +kernel
theorem dX11_fee_28 : decode cX11_fee 28 = .ok (.aaload, 1) := by decide +kernel
theorem dX11_fee_29 : decode cX11_fee 29 = .ok (.getfield 164, 3) := by decide +kernel
theorem dX11_fee_32 : decode cX11_fee 32 = .ok (.iload_n 2, 1) := by decide +kernel
theorem dX11_fee_33 : decode cX11_fee 33 = .ok (.invokevirtual 182, 3) := by decide +kernel
theorem dX11_fee_36 : decode cX11_fee 36 = .ok (.goto 4, 3) := by decide +kernel
theorem dX11_fee_39 : decode cX11_fee 39 = .ok (.iconst (-1), 1) := by decide +kernel
theorem dX11_fee_40 : decode cX11_fee 40 = .ok (.ireturn, 1) := by decide +kernel
def fX11_fee (a1 : Int32) (a2 : Int32) (h : Hp) : Option (Int32 × Hp) := bi (fX11_isLetter a1 h) (fun w2 h1 => (if w2 = 0 then some ((-1), h1) else bi (fX11_isYear a2 h1) (fun w4 h3 => (if w4 = 0 then some ((-1), h3) else ck (inb a1 10) (bi (fX6_feeOf (h3.1 (115 + ix a1) 2) a2 h3) (fun w7 h6 => some (w7, h6)))))))
set_option maxRecDepth 20000 in
theorem tX11_fee (Z : ZT) (a1 : Int32) (a2 : Int32) (hz : HZ Z) (h : Hp) (r : Int32) (hr : Hp) (hF : fX11_fee a1 a2 h = some (r, hr)) : MC Z yX11_fee cX11_fee 3 (some .int) 2 [.ref (Z.2.1 100), .int a1, .int a2] h (some (.int r)) hr := by
  unfold fX11_fee at hF
  refine mc_start (by decide) (Nat.le_of_ble_eq_true rfl) (fun G X E => ?_)
  refine j_aload_n (pc := 0) 0 X dX11_fee_0 rfl ?_
  refine j_iload_n (pc := 1) 1 X dX11_fee_1 rfl ?_
  refine j_cVi (pc := 2) (As := [.int a1]) (rest := []) X dX11_fee_2 ml_X11_148 ck_X11_isLetter cv_X11_isLetter (hz _ sh_100) rfl (Nat.le_of_ble_eq_true rfl) rfl (Nat.le_of_ble_eq_true rfl) rfl hF (tX11_isLetter Z a1 hz h) (fun w2 h1 hF => ?_)
  refine j_if_eq (pc := 5) 39 X dX11_fee_5 rfl hF (fun hF => ?_) (fun hF => ?_)
  · refine j_iconst (pc := 39) (-1) X dX11_fee_39 rfl ?_
    exact j_iret (pc := 40) X E dX11_fee_40 hF
  · refine j_aload_n (pc := 8) 0 X dX11_fee_8 rfl ?_
    refine j_iload_n (pc := 9) 2 X dX11_fee_9 rfl ?_
    refine j_cVi (pc := 10) (As := [.int a2]) (rest := []) X dX11_fee_10 ml_X11_176 ck_X11_isYear cv_X11_isYear (hz _ sh_100) rfl (Nat.le_of_ble_eq_true rfl) rfl (Nat.le_of_ble_eq_true rfl) rfl hF (tX11_isYear Z a2 hz h1) (fun w4 h3 hF => ?_)
    refine j_if_eq (pc := 13) 39 X dX11_fee_13 rfl hF (fun hF => ?_) (fun hF => ?_)
    · refine j_iconst (pc := 39) (-1) X dX11_fee_39 rfl ?_
      exact j_iret (pc := 40) X E dX11_fee_40 hF
    · refine j_aload_n (pc := 16) 0 X dX11_fee_16 rfl ?_
      refine j_getr (pc := 17) X dX11_fee_17 (hz _ sh_100) fl_X11_47 rfl ?_
      refine j_aload_n (pc := 20) 0 X dX11_fee_20 rfl ?_
      refine j_getr (pc := 21) X dX11_fee_21 (hz _ sh_100) fl_X11_26 rfl ?_
      refine j_getr (pc := 24) X dX11_fee_24 (hz _ sh_108) fl_X11_152 rfl ?_
      refine j_iload_n (pc := 27) 1 X dX11_fee_27 rfl ?_
      refine j_aald (pc := 28) (g := fun j => 115 + j) (C := "AfterOffice$Letter") X dX11_fee_28 (hz _ sh_111) (fun _ => rfl) rfl al_111 hF (fun hb5 hF => ?_)
      refine j_geti (pc := 29) X dX11_fee_29 (hz _ (shL (is_111 hb5))) fl_X11_164 rfl ?_
      refine j_iload_n (pc := 32) 2 X dX11_fee_32 rfl ?_
      refine j_cVi (pc := 33) (As := [.int (h3.1 (115 + ix a1) 2), .int a2]) (rest := []) X dX11_fee_33 ml_X11_182 ck_X6_feeOf cv_X6_feeOf (hz _ sh_147) rfl (Nat.le_of_ble_eq_true rfl) rfl (Nat.le_of_ble_eq_true rfl) rfl hF (tX6_feeOf Z (h3.1 (115 + ix a1) 2) a2 hz h3) (fun w7 h6 hF => ?_)
      refine j_goto (pc := 36) 40 X dX11_fee_36 rfl ?_
      exact j_iret (pc := 40) X E dX11_fee_40 hF
theorem dX11_clerk_0 : decode cX11_clerk 0 = .ok (.aload_n 0, 1) := by decide +kernel
theorem dX11_clerk_1 : decode cX11_clerk 1 = .ok (.iload_n 1, 1) := by decide +kernel
theorem dX11_clerk_2 : decode cX11_clerk 2 = .ok (.invokevirtual 176, 3) := by decide +kernel
theorem dX11_clerk_5 : decode cX11_clerk 5 = .ok (.ifCond .eq 14, 3) := by decide +kernel
theorem dX11_clerk_8 : decode cX11_clerk 8 = .ok (.aload_n 0, 1) := by decide +kernel
theorem dX11_clerk_9 : decode cX11_clerk 9 = .ok (.getfield 26, 3) := by decide +kernel
theorem dX11_clerk_12 : decode cX11_clerk 12 = .ok (.iload_n 1, 1) := by decide +kernel
theorem dX11_clerk_13 : decode cX11_clerk 13 = .ok (.invokevirtual 185, 3) := by decide +kernel
theorem dX11_clerk_16 : decode cX11_clerk 16 = .ok (.goto 4, 3) := by decide +kernel
theorem dX11_clerk_19 : decode cX11_clerk 19 = .ok (.iconst (-1), 1) := by decide +kernel
theorem dX11_clerk_20 : decode cX11_clerk 20 = .ok (.ireturn, 1) := by decide +kernel
def fX11_clerk (a1 : Int32) (h : Hp) : Option (Int32 × Hp) := bi (fX11_isYear a1 h) (fun w2 h1 => (if w2 = 0 then some ((-1), h1) else bi (fX0_clerkOf a1 h1) (fun w4 h3 => some (w4, h3))))
set_option maxRecDepth 20000 in
theorem tX11_clerk (Z : ZT) (a1 : Int32) (hz : HZ Z) (h : Hp) (r : Int32) (hr : Hp) (hF : fX11_clerk a1 h = some (r, hr)) : MC Z yX11_clerk cX11_clerk 2 (some .int) 2 [.ref (Z.2.1 100), .int a1] h (some (.int r)) hr := by
  unfold fX11_clerk at hF
  refine mc_start (by decide) (Nat.le_of_ble_eq_true rfl) (fun G X E => ?_)
  refine j_aload_n (pc := 0) 0 X dX11_clerk_0 rfl ?_
  refine j_iload_n (pc := 1) 1 X dX11_clerk_1 rfl ?_
  refine j_cVi (pc := 2) (As := [.int a1]) (rest := []) X dX11_clerk_2 ml_X11_176 ck_X11_isYear cv_X11_isYear (hz _ sh_100) rfl (Nat.le_of_ble_eq_true rfl) rfl (Nat.le_of_ble_eq_true rfl) rfl hF (tX11_isYear Z a1 hz h) (fun w2 h1 hF => ?_)
  refine j_if_eq (pc := 5) 19 X dX11_clerk_5 rfl hF (fun hF => ?_) (fun hF => ?_)
  · refine j_iconst (pc := 19) (-1) X dX11_clerk_19 rfl ?_
    exact j_iret (pc := 20) X E dX11_clerk_20 hF
  · refine j_aload_n (pc := 8) 0 X dX11_clerk_8 rfl ?_
    refine j_getr (pc := 9) X dX11_clerk_9 (hz _ sh_100) fl_X11_26 rfl ?_
    refine j_iload_n (pc := 12) 1 X dX11_clerk_12 rfl ?_
    refine j_cVi (pc := 13) (As := [.int a1]) (rest := []) X dX11_clerk_13 ml_X11_185 ck_X0_clerkOf cv_X0_clerkOf (hz _ sh_108) rfl (Nat.le_of_ble_eq_true rfl) rfl (Nat.le_of_ble_eq_true rfl) rfl hF (tX0_clerkOf Z a1 hz h1) (fun w4 h3 hF => ?_)
    refine j_goto (pc := 16) 20 X dX11_clerk_16 rfl ?_
    exact j_iret (pc := 20) X E dX11_clerk_20 hF
theorem dX11_barred_0 : decode cX11_barred 0 = .ok (.iload_n 1, 1) := by decide +kernel
theorem dX11_barred_1 : decode cX11_barred 1 = .ok (.iconst 0, 1) := by decide +kernel
theorem dX11_barred_2 : decode cX11_barred 2 = .ok (.aload_n 0, 1) := by decide +kernel
theorem dX11_barred_3 : decode cX11_barred 3 = .ok (.getfield 26, 3) := by decide +kernel
theorem dX11_barred_6 : decode cX11_barred 6 = .ok (.getfield 189, 3) := by decide +kernel
theorem dX11_barred_9 : decode cX11_barred 9 = .ok (.iconst 1, 1) := by decide +kernel
theorem dX11_barred_10 : decode cX11_barred 10 = .ok (.isub, 1) := by decide +kernel
theorem dX11_barred_11 : decode cX11_barred 11 = .ok (.invokestatic 106, 3) := by decide +kernel
theorem dX11_barred_14 : decode cX11_barred 14 = .ok (.ifCond .eq 11, 3) := by decide +kernel
theorem dX11_barred_17 : decode cX11_barred 17 = .ok (.aload_n 0, 1) := by decide +kernel
theorem dX11_barred_18 : decode cX11_barred 18 = .ok (.iload_n 2, 1) := by decide +kernel
theorem dX11_barred_19 : decode cX11_barred 19 = .ok (.invokevirtual 173, 3) := by decide +kernel
theorem dX11_barred_22 : decode cX11_barred 22 = .ok (.ifCond .ne 5, 3) := by decide +kernel
theorem dX11_barred_25 : decode cX11_barred 25 = .ok (.iconst (-1), 1) := by decide +kernel
theorem dX11_barred_26 : decode cX11_barred 26 = .ok (.ireturn, 1) := by decide +kernel
theorem dX11_barred_27 : decode cX11_barred 27 = .ok (.aload_n 0, 1) := by decide +kernel
theorem dX11_barred_28 : decode cX11_barred 28 = .ok (.getfield 26, 3) := by decide +kernel
theorem dX11_barred_31 : decode cX11_barred 31 = .ok (.getfield 192, 3) := by decide +kernel
theorem dX11_barred_34 : decode cX11_barred 34 = .ok (.iload_n 1, 1) := by decide +kernel
theorem dX11_barred_35 : decode cX11_barred 35 = .ok (.iaload, 1) := by decide +kernel
theorem dX11_barred_36 : decode cX11_barred 36 = .ok (.iload_n 2, 1) := by decide +kernel
theorem dX11_barred_37 : decode cX11_barred 37 = .ok (.invokestatic 196, 3) := by decide +kernel
theorem dX11_barred_40 : decode cX11_barred 40 = .ok (.ifCond .eq 7, 3) := by decide +kernel
theorem dX11_barred_43 : decode cX11_barred 43 = .ok (.iconst 1, 1) := by decide +kernel
theorem dX11_barred_44 : decode cX11_barred 44 = .ok (.goto 4, 3) := by decide +kernel
theorem dX11_barred_47 : decode cX11_barred 47 = .ok (.iconst 0, 1) := by decide +kernel
theorem dX11_barred_48 : decode cX11_barred 48 = .ok (.ireturn, 1) := by decide +kernel
def fX11_barred (a1 : Int32) (a2 : Int32) (h : Hp) : Option (Int32 × Hp) := bi (fX11_within a1 0 ((h.1 108 7) - 1) h) (fun w2 h1 => (if w2 = 0 then some ((-1), h1) else bi (fX11_isPerson a2 h1) (fun w4 h3 => (if w4 = 0 then some ((-1), h3) else ck (inb a1 4) (bi (fX11_has (h3.1 110 (ix a1)) a2 h3) (fun w6 h5 => (if w6 = 0 then some (0, h5) else some (1, h5))))))))
set_option maxRecDepth 20000 in
theorem tX11_barred (Z : ZT) (a1 : Int32) (a2 : Int32) (hz : HZ Z) (h : Hp) (r : Int32) (hr : Hp) (hF : fX11_barred a1 a2 h = some (r, hr)) : MC Z yX11_barred cX11_barred 3 (some .int) 2 [.ref (Z.2.1 100), .int a1, .int a2] h (some (.int r)) hr := by
  unfold fX11_barred at hF
  refine mc_start (by decide) (Nat.le_of_ble_eq_true rfl) (fun G X E => ?_)
  refine j_iload_n (pc := 0) 1 X dX11_barred_0 rfl ?_
  refine j_iconst (pc := 1) 0 X dX11_barred_1 rfl ?_
  refine j_aload_n (pc := 2) 0 X dX11_barred_2 rfl ?_
  refine j_getr (pc := 3) X dX11_barred_3 (hz _ sh_100) fl_X11_26 rfl ?_
  refine j_geti (pc := 6) X dX11_barred_6 (hz _ sh_108) fl_X11_189 rfl ?_
  refine j_iconst (pc := 9) 1 X dX11_barred_9 rfl ?_
  refine j_isub (pc := 10) X dX11_barred_10 ?_
  refine j_cSi (pc := 11) (As := [.int a1, .int 0, .int ((h.1 108 7) - 1)]) (rest := []) X dX11_barred_11 ml_X11_106 ck_X11_within sk_X11_within (Nat.le_of_ble_eq_true rfl) rfl (Nat.le_of_ble_eq_true rfl) rfl hF (tX11_within Z a1 0 ((h.1 108 7) - 1) trivial h) (fun w2 h1 hF => ?_)
  refine j_if_eq (pc := 14) 25 X dX11_barred_14 rfl hF (fun hF => ?_) (fun hF => ?_)
  · refine j_iconst (pc := 25) (-1) X dX11_barred_25 rfl ?_
    exact j_iret (pc := 26) X E dX11_barred_26 hF
  · refine j_aload_n (pc := 17) 0 X dX11_barred_17 rfl ?_
    refine j_iload_n (pc := 18) 2 X dX11_barred_18 rfl ?_
    refine j_cVi (pc := 19) (As := [.int a2]) (rest := []) X dX11_barred_19 ml_X11_173 ck_X11_isPerson cv_X11_isPerson (hz _ sh_100) rfl (Nat.le_of_ble_eq_true rfl) rfl (Nat.le_of_ble_eq_true rfl) rfl hF (tX11_isPerson Z a2 hz h1) (fun w4 h3 hF => ?_)
    refine j_if_ne (pc := 22) 27 X dX11_barred_22 rfl hF (fun hF => ?_) (fun hF => ?_)
    · refine j_aload_n (pc := 27) 0 X dX11_barred_27 rfl ?_
      refine j_getr (pc := 28) X dX11_barred_28 (hz _ sh_100) fl_X11_26 rfl ?_
      refine j_getr (pc := 31) X dX11_barred_31 (hz _ sh_108) fl_X11_192 rfl ?_
      refine j_iload_n (pc := 34) 1 X dX11_barred_34 rfl ?_
      refine j_iald (pc := 35) X dX11_barred_35 (hz _ sh_110) hF (fun hF => ?_)
      refine j_iload_n (pc := 36) 2 X dX11_barred_36 rfl ?_
      refine j_cSi (pc := 37) (As := [.int (h3.1 110 (ix a1)), .int a2]) (rest := []) X dX11_barred_37 ml_X11_196 ck_X11_has sk_X11_has (Nat.le_of_ble_eq_true rfl) rfl (Nat.le_of_ble_eq_true rfl) rfl hF (tX11_has Z (h3.1 110 (ix a1)) a2 trivial h3) (fun w6 h5 hF => ?_)
      refine j_if_eq (pc := 40) 47 X dX11_barred_40 rfl hF (fun hF => ?_) (fun hF => ?_)
      · refine j_iconst (pc := 47) 0 X dX11_barred_47 rfl ?_
        exact j_iret (pc := 48) X E dX11_barred_48 hF
      · refine j_iconst (pc := 43) 1 X dX11_barred_43 rfl ?_
        refine j_goto (pc := 44) 48 X dX11_barred_44 rfl ?_
        exact j_iret (pc := 48) X E dX11_barred_48 hF
    · refine j_iconst (pc := 25) (-1) X dX11_barred_25 rfl ?_
      exact j_iret (pc := 26) X E dX11_barred_26 hF
theorem dX11_rumour_0 : decode cX11_rumour 0 = .ok (.aload_n 0, 1) := by decide +kernel
theorem dX11_rumour_1 : decode cX11_rumour 1 = .ok (.iload_n 1, 1) := by decide +kernel
theorem dX11_rumour_2 : decode cX11_rumour 2 = .ok (.invokevirtual 176, 3) := by decide +kernel
theorem dX11_rumour_5 : decode cX11_rumour 5 = .ok (.ifCond .eq 25, 3) := by decide +kernel
theorem dX11_rumour_8 : decode cX11_rumour 8 = .ok (.aload_n 0, 1) := by decide +kernel
theorem dX11_rumour_9 : decode cX11_rumour 9 = .ok (.iload_n 2, 1) := by decide +kernel
theorem dX11_rumour_10 : decode cX11_rumour 10 = .ok (.invokevirtual 173, 3) := by decide +kernel
theorem dX11_rumour_13 : decode cX11_rumour 13 = .ok (.ifCond .eq 17, 3) := by decide +kernel
theorem dX11_rumour_16 : decode cX11_rumour 16 = .ok (.iload_n 3, 1) := by decide +kernel
theorem dX11_rumour_17 : decode cX11_rumour 17 = .ok (.iconst 1, 1) := by decide +kernel
theorem dX11_rumour_18 : decode cX11_rumour 18 = .ok (.bipush 20, 2) := by decide +kernel
theorem dX11_rumour_20 : decode cX11_rumour 20 = .ok (.invokestatic 106, 3) := by decide +kernel
theorem dX11_rumour_23 : decode cX11_rumour 23 = .ok (.ifCond .eq 7, 3) := by decide +kernel
theorem dX11_rumour_26 : decode cX11_rumour 26 = .ok (.iconst 1, 1) := by decide +kernel
theorem dX11_rumour_27 : decode cX11_rumour 27 = .ok (.goto 4, 3) := by decide +kernel
theorem dX11_rumour_30 : decode cX11_rumour 30 = .ok (.iconst 0, 1) := by decide +kernel
theorem dX11_rumour_31 : decode cX11_rumour 31 = .ok (.istore 4, 2) := by decide +kernel
theorem dX11_rumour_33 : decode cX11_rumour 33 = .ok (.iload 4, 2) := by decide +kernel
theorem dX11_rumour_35 : decode cX11_rumour 35 = .ok (.ifCond .eq 17, 3) := by decide +kernel
theorem dX11_rumour_38 : decode cX11_rumour 38 = .ok (.aload_n 0, 1) := by decide +kernel
theorem dX11_rumour_39 : decode cX11_rumour 39 = .ok (.getfield 54, 3) := by decide +kernel
theorem dX11_rumour_42 : decode cX11_rumour 42 = .ok (.iconst 0, 1) := by decide +kernel
theorem dX11_rumour_43 : decode cX11_rumour 43 = .ok (.iload_n 1, 1) := by decide +kernel
theorem dX11_rumour_44 : decode cX11_rumour 44 = .ok (.iload_n 2, 1) := by decide +kernel
theorem dX11_rumour_45 : decode cX11_rumour 45 = .ok (.iload_n 3, 1) := by decide +kernel
theorem dX11_rumour_46 : decode cX11_rumour 46 = .ok (.invokevirtual 200, 3) := by decide +kernel
theorem dX11_rumour_49 : decode cX11_rumour 49 = .ok (.goto 4, 3) := by decide +kernel
theorem dX11_rumour_52 : decode cX11_rumour 52 = .ok (.iconst (-1), 1) := by decide +kernel
theorem dX11_rumour_53 : decode cX11_rumour 53 = .ok (.ireturn, 1) := by decide +kernel
def bX11_rumour_31   (x1 : Int32) (x2 : Int32) (x3 : Int32) (s0 : Int32) (h : Hp) : Option (Int32 × Hp) := lt s0 (fun v1 => (if v1 = 0 then some ((-1), h) else bi (fX3_add 0 x1 x2 x3 h) (fun w3 h2 => some (w3, h2))))
set_option maxRecDepth 20000 in
theorem BX11_rumour_31 {Z : ZT} {G : GT} {r : Int32} {hr : Hp} (X : CX Z G cX11_rumour RX11 5 2) (E : RX Z G (some .int) (some (.int r)) hr) (hz : HZ Z)  (x1 : Int32) (x2 : Int32) (x3 : Int32) (s0 : Int32) (h : Hp) (hF : bX11_rumour_31   x1 x2 x3 s0 h = some (r, hr)) : J Z G 5 h 31 [(0, .ref (Z.2.1 100)), (1, .int x1), (2, .int x2), (3, .int x3)] [.int s0] := by
  unfold bX11_rumour_31 at hF
  refine j_istore (pc := 31) (fun y => [(4, .int y), (0, .ref (Z.2.1 100)), (1, .int x1), (2, .int x2), (3, .int x3)]) X dX11_rumour_31 (by decide) (fun _ => rfl) hF (fun v1 hF => ?_)
  refine j_iload (pc := 33) 0 X dX11_rumour_33 rfl ?_
  refine j_if_eq (pc := 35) 52 X dX11_rumour_35 rfl hF (fun hF => ?_) (fun hF => ?_)
  · refine j_iconst (pc := 52) (-1) X dX11_rumour_52 rfl ?_
    exact j_iret (pc := 53) X E dX11_rumour_53 hF
  · refine j_aload_n (pc := 38) 1 X dX11_rumour_38 rfl ?_
    refine j_getr (pc := 39) X dX11_rumour_39 (hz _ sh_100) fl_X11_54 rfl ?_
    refine j_iconst (pc := 42) 0 X dX11_rumour_42 rfl ?_
    refine j_iload_n (pc := 43) 2 X dX11_rumour_43 rfl ?_
    refine j_iload_n (pc := 44) 3 X dX11_rumour_44 rfl ?_
    refine j_iload_n (pc := 45) 4 X dX11_rumour_45 rfl ?_
    refine j_cVi (pc := 46) (As := [.int 0, .int x1, .int x2, .int x3]) (rest := []) X dX11_rumour_46 ml_X11_200 ck_X3_add cv_X3_add (hz _ sh_152) rfl (Nat.le_of_ble_eq_true rfl) rfl (Nat.le_of_ble_eq_true rfl) rfl hF (tX3_add Z 0 x1 x2 x3 hz h) (fun w3 h2 hF => ?_)
    refine j_goto (pc := 49) 53 X dX11_rumour_49 rfl ?_
    exact j_iret (pc := 53) X E dX11_rumour_53 hF
def bX11_rumour_30   (x1 : Int32) (x2 : Int32) (x3 : Int32) (h : Hp) : Option (Int32 × Hp) := bX11_rumour_31 x1 x2 x3 0 h
set_option maxRecDepth 20000 in
theorem BX11_rumour_30 {Z : ZT} {G : GT} {r : Int32} {hr : Hp} (X : CX Z G cX11_rumour RX11 5 2) (E : RX Z G (some .int) (some (.int r)) hr) (hz : HZ Z)  (x1 : Int32) (x2 : Int32) (x3 : Int32) (h : Hp) (hF : bX11_rumour_30   x1 x2 x3 h = some (r, hr)) : J Z G 5 h 30 [(0, .ref (Z.2.1 100)), (1, .int x1), (2, .int x2), (3, .int x3)] [] := by
  unfold bX11_rumour_30 at hF
  refine j_iconst (pc := 30) 0 X dX11_rumour_30 rfl ?_
  exact BX11_rumour_31 X E hz x1 x2 x3 0 h hF
def fX11_rumour (a1 : Int32) (a2 : Int32) (a3 : Int32) (h : Hp) : Option (Int32 × Hp) := bi (fX11_isYear a1 h) (fun w2 h1 => (if w2 = 0 then bX11_rumour_30 a1 a2 a3 h1 else bi (fX11_isPerson a2 h1) (fun w4 h3 => (if w4 = 0 then bX11_rumour_30 a1 a2 a3 h3 else bi (fX11_within a3 1 20 h3) (fun w6 h5 => (if w6 = 0 then bX11_rumour_30 a1 a2 a3 h5 else bX11_rumour_31 a1 a2 a3 1 h5))))))
set_option maxRecDepth 20000 in
theorem tX11_rumour (Z : ZT) (a1 : Int32) (a2 : Int32) (a3 : Int32) (hz : HZ Z) (h : Hp) (r : Int32) (hr : Hp) (hF : fX11_rumour a1 a2 a3 h = some (r, hr)) : MC Z yX11_rumour cX11_rumour 5 (some .int) 2 [.ref (Z.2.1 100), .int a1, .int a2, .int a3] h (some (.int r)) hr := by
  unfold fX11_rumour at hF
  refine mc_start (by decide) (Nat.le_of_ble_eq_true rfl) (fun G X E => ?_)
  refine j_aload_n (pc := 0) 0 X dX11_rumour_0 rfl ?_
  refine j_iload_n (pc := 1) 1 X dX11_rumour_1 rfl ?_
  refine j_cVi (pc := 2) (As := [.int a1]) (rest := []) X dX11_rumour_2 ml_X11_176 ck_X11_isYear cv_X11_isYear (hz _ sh_100) rfl (Nat.le_of_ble_eq_true rfl) rfl (Nat.le_of_ble_eq_true rfl) rfl hF (tX11_isYear Z a1 hz h) (fun w2 h1 hF => ?_)
  refine j_if_eq (pc := 5) 30 X dX11_rumour_5 rfl hF (fun hF => ?_) (fun hF => ?_)
  · exact BX11_rumour_30 X E hz a1 a2 a3 h1 hF
  · refine j_aload_n (pc := 8) 0 X dX11_rumour_8 rfl ?_
    refine j_iload_n (pc := 9) 2 X dX11_rumour_9 rfl ?_
    refine j_cVi (pc := 10) (As := [.int a2]) (rest := []) X dX11_rumour_10 ml_X11_173 ck_X11_isPerson cv_X11_isPerson (hz _ sh_100) rfl (Nat.le_of_ble_eq_true rfl) rfl (Nat.le_of_ble_eq_true rfl) rfl hF (tX11_isPerson Z a2 hz h1) (fun w4 h3 hF => ?_)
    refine j_if_eq (pc := 13) 30 X dX11_rumour_13 rfl hF (fun hF => ?_) (fun hF => ?_)
    · exact BX11_rumour_30 X E hz a1 a2 a3 h3 hF
    · refine j_iload_n (pc := 16) 3 X dX11_rumour_16 rfl ?_
      refine j_iconst (pc := 17) 1 X dX11_rumour_17 rfl ?_
      refine j_bipush (pc := 18) 20 X dX11_rumour_18 rfl ?_
      refine j_cSi (pc := 20) (As := [.int a3, .int 1, .int 20]) (rest := []) X dX11_rumour_20 ml_X11_106 ck_X11_within sk_X11_within (Nat.le_of_ble_eq_true rfl) rfl (Nat.le_of_ble_eq_true rfl) rfl hF (tX11_within Z a3 1 20 trivial h3) (fun w6 h5 hF => ?_)
      refine j_if_eq (pc := 23) 30 X dX11_rumour_23 rfl hF (fun hF => ?_) (fun hF => ?_)
      · exact BX11_rumour_30 X E hz a1 a2 a3 h5 hF
      · refine j_iconst (pc := 26) 1 X dX11_rumour_26 rfl ?_
        refine j_goto (pc := 27) 31 X dX11_rumour_27 rfl ?_
        exact BX11_rumour_31 X E hz a1 a2 a3 1 h5 hF
theorem dX11_death_0 : decode cX11_death 0 = .ok (.aload_n 0, 1) := by decide +kernel
theorem dX11_death_1 : decode cX11_death 1 = .ok (.iload_n 1, 1) := by decide +kernel
theorem dX11_death_2 : decode cX11_death 2 = .ok (.invokevirtual 176, 3) := by decide +kernel
theorem dX11_death_5 : decode cX11_death 5 = .ok (.ifCond .eq 25, 3) := by decide +kernel
theorem dX11_death_8 : decode cX11_death 8 = .ok (.aload_n 0, 1) := by decide +kernel
theorem dX11_death_9 : decode cX11_death 9 = .ok (.iload_n 2, 1) := by decide +kernel
theorem dX11_death_10 : decode cX11_death 10 = .ok (.invokevirtual 173, 3) := by decide +kernel
theorem dX11_death_13 : decode cX11_death 13 = .ok (.ifCond .eq 17, 3) := by decide +kernel
theorem dX11_death_16 : decode cX11_death 16 = .ok (.aload_n 0, 1) := by decide +kernel
theorem dX11_death_17 : decode cX11_death 17 = .ok (.getfield 54, 3) := by decide +kernel
theorem dX11_death_20 : decode cX11_death 20 = .ok (.iconst 1, 1) := by decide +kernel
theorem dX11_death_21 : decode cX11_death 21 = .ok (.iload_n 1, 1) := by decide +kernel
theorem dX11_death_22 : decode cX11_death 22 = .ok (.iload_n 2, 1) := by decide +kernel
theorem dX11_death_23 : decode cX11_death 23 = .ok (.iconst (-1), 1) := by decide +kernel
theorem dX11_death_24 : decode cX11_death 24 = .ok (.invokevirtual 200, 3) := by decide +kernel
theorem dX11_death_27 : decode cX11_death 27 = .ok (.goto 4, 3) := by decide +kernel
theorem dX11_death_30 : decode cX11_death 30 = .ok (.iconst (-1), 1) := by decide +kernel
theorem dX11_death_31 : decode cX11_death 31 = .ok (.ireturn, 1) := by decide +kernel
def fX11_death (a1 : Int32) (a2 : Int32) (h : Hp) : Option (Int32 × Hp) := bi (fX11_isYear a1 h) (fun w2 h1 => (if w2 = 0 then some ((-1), h1) else bi (fX11_isPerson a2 h1) (fun w4 h3 => (if w4 = 0 then some ((-1), h3) else bi (fX3_add 1 a1 a2 (-1) h3) (fun w6 h5 => some (w6, h5))))))
set_option maxRecDepth 20000 in
theorem tX11_death (Z : ZT) (a1 : Int32) (a2 : Int32) (hz : HZ Z) (h : Hp) (r : Int32) (hr : Hp) (hF : fX11_death a1 a2 h = some (r, hr)) : MC Z yX11_death cX11_death 3 (some .int) 2 [.ref (Z.2.1 100), .int a1, .int a2] h (some (.int r)) hr := by
  unfold fX11_death at hF
  refine mc_start (by decide) (Nat.le_of_ble_eq_true rfl) (fun G X E => ?_)
  refine j_aload_n (pc := 0) 0 X dX11_death_0 rfl ?_
  refine j_iload_n (pc := 1) 1 X dX11_death_1 rfl ?_
  refine j_cVi (pc := 2) (As := [.int a1]) (rest := []) X dX11_death_2 ml_X11_176 ck_X11_isYear cv_X11_isYear (hz _ sh_100) rfl (Nat.le_of_ble_eq_true rfl) rfl (Nat.le_of_ble_eq_true rfl) rfl hF (tX11_isYear Z a1 hz h) (fun w2 h1 hF => ?_)
  refine j_if_eq (pc := 5) 30 X dX11_death_5 rfl hF (fun hF => ?_) (fun hF => ?_)
  · refine j_iconst (pc := 30) (-1) X dX11_death_30 rfl ?_
    exact j_iret (pc := 31) X E dX11_death_31 hF
  · refine j_aload_n (pc := 8) 0 X dX11_death_8 rfl ?_
    refine j_iload_n (pc := 9) 2 X dX11_death_9 rfl ?_
    refine j_cVi (pc := 10) (As := [.int a2]) (rest := []) X dX11_death_10 ml_X11_173 ck_X11_isPerson cv_X11_isPerson (hz _ sh_100) rfl (Nat.le_of_ble_eq_true rfl) rfl (Nat.le_of_ble_eq_true rfl) rfl hF (tX11_isPerson Z a2 hz h1) (fun w4 h3 hF => ?_)
    refine j_if_eq (pc := 13) 30 X dX11_death_13 rfl hF (fun hF => ?_) (fun hF => ?_)
    · refine j_iconst (pc := 30) (-1) X dX11_death_30 rfl ?_
      exact j_iret (pc := 31) X E dX11_death_31 hF
    · refine j_aload_n (pc := 16) 0 X dX11_death_16 rfl ?_
      refine j_getr (pc := 17) X dX11_death_17 (hz _ sh_100) fl_X11_54 rfl ?_
      refine j_iconst (pc := 20) 1 X dX11_death_20 rfl ?_
      refine j_iload_n (pc := 21) 1 X dX11_death_21 rfl ?_
      refine j_iload_n (pc := 22) 2 X dX11_death_22 rfl ?_
      refine j_iconst (pc := 23) (-1) X dX11_death_23 rfl ?_
      refine j_cVi (pc := 24) (As := [.int 1, .int a1, .int a2, .int (-1)]) (rest := []) X dX11_death_24 ml_X11_200 ck_X3_add cv_X3_add (hz _ sh_152) rfl (Nat.le_of_ble_eq_true rfl) rfl (Nat.le_of_ble_eq_true rfl) rfl hF (tX3_add Z 1 a1 a2 (-1) hz h3) (fun w6 h5 hF => ?_)
      refine j_goto (pc := 27) 31 X dX11_death_27 rfl ?_
      exact j_iret (pc := 31) X E dX11_death_31 hF
theorem dX11_takeBack_0 : decode cX11_takeBack 0 = .ok (.aload_n 0, 1) := by decide +kernel
theorem dX11_takeBack_1 : decode cX11_takeBack 1 = .ok (.iload_n 1, 1) := by decide +kernel
theorem dX11_takeBack_2 : decode cX11_takeBack 2 = .ok (.invokevirtual 176, 3) := by decide +kernel
theorem dX11_takeBack_5 : decode cX11_takeBack 5 = .ok (.ifCond .eq 25, 3) := by decide +kernel
theorem dX11_takeBack_8 : decode cX11_takeBack 8 = .ok (.aload_n 0, 1) := by decide +kernel
theorem dX11_takeBack_9 : decode cX11_takeBack 9 = .ok (.iload_n 2, 1) := by decide +kernel
theorem dX11_takeBack_10 : decode cX11_takeBack 10 = .ok (.invokevirtual 148, 3) := by decide +kernel
theorem dX11_takeBack_13 : decode cX11_takeBack 13 = .ok (.ifCond .eq 17, 3) := by decide +kernel
theorem dX11_takeBack_16 : decode cX11_takeBack 16 = .ok (.aload_n 0, 1) := by decide +kernel
theorem dX11_takeBack_17 : decode cX11_takeBack 17 = .ok (.getfield 54, 3) := by decide +kernel
theorem dX11_takeBack_20 : decode cX11_takeBack 20 = .ok (.iconst 2, 1) := by decide +kernel
theorem dX11_takeBack_21 : decode cX11_takeBack 21 = .ok (.iload_n 1, 1) := by decide +kernel
theorem dX11_takeBack_22 : decode cX11_takeBack 22 = .ok (.iload_n 2, 1) := by decide +kernel
theorem dX11_takeBack_23 : decode cX11_takeBack 23 = .ok (.iconst (-1), 1) := by decide +kernel
theorem dX11_takeBack_24 : decode cX11_takeBack 24 = .ok (.invokevirtual 200, 3) := by decide +kernel
theorem dX11_takeBack_27 : decode cX11_takeBack 27 = .ok (.goto 4, 3) := by decide +kernel
theorem dX11_takeBack_30 : decode cX11_takeBack 30 = .ok (.iconst (-1), 1) := by decide +kernel
theorem dX11_takeBack_31 : decode cX11_takeBack 31 = .ok (.ireturn, 1) := by decide +kernel
def fX11_takeBack (a1 : Int32) (a2 : Int32) (h : Hp) : Option (Int32 × Hp) := bi (fX11_isYear a1 h) (fun w2 h1 => (if w2 = 0 then some ((-1), h1) else bi (fX11_isLetter a2 h1) (fun w4 h3 => (if w4 = 0 then some ((-1), h3) else bi (fX3_add 2 a1 a2 (-1) h3) (fun w6 h5 => some (w6, h5))))))
set_option maxRecDepth 20000 in
theorem tX11_takeBack (Z : ZT) (a1 : Int32) (a2 : Int32) (hz : HZ Z) (h : Hp) (r : Int32) (hr : Hp) (hF : fX11_takeBack a1 a2 h = some (r, hr)) : MC Z yX11_takeBack cX11_takeBack 3 (some .int) 2 [.ref (Z.2.1 100), .int a1, .int a2] h (some (.int r)) hr := by
  unfold fX11_takeBack at hF
  refine mc_start (by decide) (Nat.le_of_ble_eq_true rfl) (fun G X E => ?_)
  refine j_aload_n (pc := 0) 0 X dX11_takeBack_0 rfl ?_
  refine j_iload_n (pc := 1) 1 X dX11_takeBack_1 rfl ?_
  refine j_cVi (pc := 2) (As := [.int a1]) (rest := []) X dX11_takeBack_2 ml_X11_176 ck_X11_isYear cv_X11_isYear (hz _ sh_100) rfl (Nat.le_of_ble_eq_true rfl) rfl (Nat.le_of_ble_eq_true rfl) rfl hF (tX11_isYear Z a1 hz h) (fun w2 h1 hF => ?_)
  refine j_if_eq (pc := 5) 30 X dX11_takeBack_5 rfl hF (fun hF => ?_) (fun hF => ?_)
  · refine j_iconst (pc := 30) (-1) X dX11_takeBack_30 rfl ?_
    exact j_iret (pc := 31) X E dX11_takeBack_31 hF
  · refine j_aload_n (pc := 8) 0 X dX11_takeBack_8 rfl ?_
    refine j_iload_n (pc := 9) 2 X dX11_takeBack_9 rfl ?_
    refine j_cVi (pc := 10) (As := [.int a2]) (rest := []) X dX11_takeBack_10 ml_X11_148 ck_X11_isLetter cv_X11_isLetter (hz _ sh_100) rfl (Nat.le_of_ble_eq_true rfl) rfl (Nat.le_of_ble_eq_true rfl) rfl hF (tX11_isLetter Z a2 hz h1) (fun w4 h3 hF => ?_)
    refine j_if_eq (pc := 13) 30 X dX11_takeBack_13 rfl hF (fun hF => ?_) (fun hF => ?_)
    · refine j_iconst (pc := 30) (-1) X dX11_takeBack_30 rfl ?_
      exact j_iret (pc := 31) X E dX11_takeBack_31 hF
    · refine j_aload_n (pc := 16) 0 X dX11_takeBack_16 rfl ?_
      refine j_getr (pc := 17) X dX11_takeBack_17 (hz _ sh_100) fl_X11_54 rfl ?_
      refine j_iconst (pc := 20) 2 X dX11_takeBack_20 rfl ?_
      refine j_iload_n (pc := 21) 1 X dX11_takeBack_21 rfl ?_
      refine j_iload_n (pc := 22) 2 X dX11_takeBack_22 rfl ?_
      refine j_iconst (pc := 23) (-1) X dX11_takeBack_23 rfl ?_
      refine j_cVi (pc := 24) (As := [.int 2, .int a1, .int a2, .int (-1)]) (rest := []) X dX11_takeBack_24 ml_X11_200 ck_X3_add cv_X3_add (hz _ sh_152) rfl (Nat.le_of_ble_eq_true rfl) rfl (Nat.le_of_ble_eq_true rfl) rfl hF (tX3_add Z 2 a1 a2 (-1) hz h3) (fun w6 h5 hF => ?_)
      refine j_goto (pc := 27) 31 X dX11_takeBack_27 rfl ?_
      exact j_iret (pc := 31) X E dX11_takeBack_31 hF
theorem dX11_early_0 : decode cX11_early 0 = .ok (.aload_n 0, 1) := by decide +kernel
theorem dX11_early_1 : decode cX11_early 1 = .ok (.iload_n 1, 1) := by decide +kernel
theorem dX11_early_2 : decode cX11_early 2 = .ok (.invokevirtual 176, 3) := by decide +kernel
theorem dX11_early_5 : decode cX11_early 5 = .ok (.ifCond .eq 25, 3) := by decide +kernel
theorem dX11_early_8 : decode cX11_early 8 = .ok (.aload_n 0, 1) := by decide +kernel
theorem dX11_early_9 : decode cX11_early 9 = .ok (.iload_n 2, 1) := by decide +kernel
theorem dX11_early_10 : decode cX11_early 10 = .ok (.invokevirtual 148, 3) := by decide +kernel
theorem dX11_early_13 : decode cX11_early 13 = .ok (.ifCond .eq 17, 3) := by decide +kernel
theorem dX11_early_16 : decode cX11_early 16 = .ok (.aload_n 0, 1) := by decide +kernel
theorem dX11_early_17 : decode cX11_early 17 = .ok (.getfield 54, 3) := by decide +kernel
theorem dX11_early_20 : decode cX11_early 20 = .ok (.iconst 3, 1) := by decide +kernel
theorem dX11_early_21 : decode cX11_early 21 = .ok (.iload_n 1, 1) := by decide +kernel
theorem dX11_early_22 : decode cX11_early 22 = .ok (.iload_n 2, 1) := by decide +kernel
theorem dX11_early_23 : decode cX11_early 23 = .ok (.iconst (-1), 1) := by decide +kernel
theorem dX11_early_24 : decode cX11_early 24 = .ok (.invokevirtual 200, 3) := by decide +kernel
theorem dX11_early_27 : decode cX11_early 27 = .ok (.goto 4, 3) := by decide +kernel
theorem dX11_early_30 : decode cX11_early 30 = .ok (.iconst (-1), 1) := by decide +kernel
theorem dX11_early_31 : decode cX11_early 31 = .ok (.ireturn, 1) := by decide +kernel
def fX11_early (a1 : Int32) (a2 : Int32) (h : Hp) : Option (Int32 × Hp) := bi (fX11_isYear a1 h) (fun w2 h1 => (if w2 = 0 then some ((-1), h1) else bi (fX11_isLetter a2 h1) (fun w4 h3 => (if w4 = 0 then some ((-1), h3) else bi (fX3_add 3 a1 a2 (-1) h3) (fun w6 h5 => some (w6, h5))))))
set_option maxRecDepth 20000 in
theorem tX11_early (Z : ZT) (a1 : Int32) (a2 : Int32) (hz : HZ Z) (h : Hp) (r : Int32) (hr : Hp) (hF : fX11_early a1 a2 h = some (r, hr)) : MC Z yX11_early cX11_early 3 (some .int) 2 [.ref (Z.2.1 100), .int a1, .int a2] h (some (.int r)) hr := by
  unfold fX11_early at hF
  refine mc_start (by decide) (Nat.le_of_ble_eq_true rfl) (fun G X E => ?_)
  refine j_aload_n (pc := 0) 0 X dX11_early_0 rfl ?_
  refine j_iload_n (pc := 1) 1 X dX11_early_1 rfl ?_
  refine j_cVi (pc := 2) (As := [.int a1]) (rest := []) X dX11_early_2 ml_X11_176 ck_X11_isYear cv_X11_isYear (hz _ sh_100) rfl (Nat.le_of_ble_eq_true rfl) rfl (Nat.le_of_ble_eq_true rfl) rfl hF (tX11_isYear Z a1 hz h) (fun w2 h1 hF => ?_)
  refine j_if_eq (pc := 5) 30 X dX11_early_5 rfl hF (fun hF => ?_) (fun hF => ?_)
  · refine j_iconst (pc := 30) (-1) X dX11_early_30 rfl ?_
    exact j_iret (pc := 31) X E dX11_early_31 hF
  · refine j_aload_n (pc := 8) 0 X dX11_early_8 rfl ?_
    refine j_iload_n (pc := 9) 2 X dX11_early_9 rfl ?_
    refine j_cVi (pc := 10) (As := [.int a2]) (rest := []) X dX11_early_10 ml_X11_148 ck_X11_isLetter cv_X11_isLetter (hz _ sh_100) rfl (Nat.le_of_ble_eq_true rfl) rfl (Nat.le_of_ble_eq_true rfl) rfl hF (tX11_isLetter Z a2 hz h1) (fun w4 h3 hF => ?_)
    refine j_if_eq (pc := 13) 30 X dX11_early_13 rfl hF (fun hF => ?_) (fun hF => ?_)
    · refine j_iconst (pc := 30) (-1) X dX11_early_30 rfl ?_
      exact j_iret (pc := 31) X E dX11_early_31 hF
    · refine j_aload_n (pc := 16) 0 X dX11_early_16 rfl ?_
      refine j_getr (pc := 17) X dX11_early_17 (hz _ sh_100) fl_X11_54 rfl ?_
      refine j_iconst (pc := 20) 3 X dX11_early_20 rfl ?_
      refine j_iload_n (pc := 21) 1 X dX11_early_21 rfl ?_
      refine j_iload_n (pc := 22) 2 X dX11_early_22 rfl ?_
      refine j_iconst (pc := 23) (-1) X dX11_early_23 rfl ?_
      refine j_cVi (pc := 24) (As := [.int 3, .int a1, .int a2, .int (-1)]) (rest := []) X dX11_early_24 ml_X11_200 ck_X3_add cv_X3_add (hz _ sh_152) rfl (Nat.le_of_ble_eq_true rfl) rfl (Nat.le_of_ble_eq_true rfl) rfl hF (tX3_add Z 3 a1 a2 (-1) hz h3) (fun w6 h5 hF => ?_)
      refine j_goto (pc := 27) 31 X dX11_early_27 rfl ?_
      exact j_iret (pc := 31) X E dX11_early_31 hF
theorem dX11_date_0 : decode cX11_date 0 = .ok (.aload_n 0, 1) := by decide +kernel
theorem dX11_date_1 : decode cX11_date 1 = .ok (.iload_n 1, 1) := by decide +kernel
theorem dX11_date_2 : decode cX11_date 2 = .ok (.invokevirtual 176, 3) := by decide +kernel
theorem dX11_date_5 : decode cX11_date 5 = .ok (.ifCond .eq 33, 3) := by decide +kernel
theorem dX11_date_8 : decode cX11_date 8 = .ok (.aload_n 0, 1) := by decide +kernel
theorem dX11_date_9 : decode cX11_date 9 = .ok (.iload_n 2, 1) := by decide +kernel
theorem dX11_date_10 : decode cX11_date 10 = .ok (.invokevirtual 148, 3) := by decide +kernel
theorem dX11_date_13 : decode cX11_date 13 = .ok (.ifCond .eq 25, 3) := by decide +kernel
theorem dX11_date_16 : decode cX11_date 16 = .ok (.aload_n 0, 1) := by decide +kernel
theorem dX11_date_17 : decode cX11_date 17 = .ok (.iload_n 3, 1) := by decide +kernel
theorem dX11_date_18 : decode cX11_date 18 = .ok (.invokevirtual 176, 3) := by decide +kernel
theorem dX11_date_21 : decode cX11_date 21 = .ok (.ifCond .eq 17, 3) := by decide +kernel
theorem dX11_date_24 : decode cX11_date 24 = .ok (.aload_n 0, 1) := by decide +kernel
theorem dX11_date_25 : decode cX11_date 25 = .ok (.getfield 54, 3) := by decide +kernel
theorem dX11_date_28 : decode cX11_date 28 = .ok (.iconst 4, 1) := by decide +kernel
theorem dX11_date_29 : decode cX11_date 29 = .ok (.iload_n 1, 1) := by decide +kernel
theorem dX11_date_30 : decode cX11_date 30 = .ok (.iload_n 2, 1) := by decide +kernel
theorem dX11_date_31 : decode cX11_date 31 = .ok (.iload_n 3, 1) := by decide +kernel
theorem dX11_date_32 : decode cX11_date 32 = .ok (.invokevirtual 200, 3) := by decide +kernel
theorem dX11_date_35 : decode cX11_date 35 = .ok (.goto 4, 3) := by decide +kernel
theorem dX11_date_38 : decode cX11_date 38 = .ok (.iconst (-1), 1) := by decide +kernel
theorem dX11_date_39 : decode cX11_date 39 = .ok (.ireturn, 1) := by decide +kernel
def fX11_date (a1 : Int32) (a2 : Int32) (a3 : Int32) (h : Hp) : Option (Int32 × Hp) := bi (fX11_isYear a1 h) (fun w2 h1 => (if w2 = 0 then some ((-1), h1) else bi (fX11_isLetter a2 h1) (fun w4 h3 => (if w4 = 0 then some ((-1), h3) else bi (fX11_isYear a3 h3) (fun w6 h5 => (if w6 = 0 then some ((-1), h5) else bi (fX3_add 4 a1 a2 a3 h5) (fun w8 h7 => some (w8, h7))))))))
set_option maxRecDepth 20000 in
theorem tX11_date (Z : ZT) (a1 : Int32) (a2 : Int32) (a3 : Int32) (hz : HZ Z) (h : Hp) (r : Int32) (hr : Hp) (hF : fX11_date a1 a2 a3 h = some (r, hr)) : MC Z yX11_date cX11_date 4 (some .int) 2 [.ref (Z.2.1 100), .int a1, .int a2, .int a3] h (some (.int r)) hr := by
  unfold fX11_date at hF
  refine mc_start (by decide) (Nat.le_of_ble_eq_true rfl) (fun G X E => ?_)
  refine j_aload_n (pc := 0) 0 X dX11_date_0 rfl ?_
  refine j_iload_n (pc := 1) 1 X dX11_date_1 rfl ?_
  refine j_cVi (pc := 2) (As := [.int a1]) (rest := []) X dX11_date_2 ml_X11_176 ck_X11_isYear cv_X11_isYear (hz _ sh_100) rfl (Nat.le_of_ble_eq_true rfl) rfl (Nat.le_of_ble_eq_true rfl) rfl hF (tX11_isYear Z a1 hz h) (fun w2 h1 hF => ?_)
  refine j_if_eq (pc := 5) 38 X dX11_date_5 rfl hF (fun hF => ?_) (fun hF => ?_)
  · refine j_iconst (pc := 38) (-1) X dX11_date_38 rfl ?_
    exact j_iret (pc := 39) X E dX11_date_39 hF
  · refine j_aload_n (pc := 8) 0 X dX11_date_8 rfl ?_
    refine j_iload_n (pc := 9) 2 X dX11_date_9 rfl ?_
    refine j_cVi (pc := 10) (As := [.int a2]) (rest := []) X dX11_date_10 ml_X11_148 ck_X11_isLetter cv_X11_isLetter (hz _ sh_100) rfl (Nat.le_of_ble_eq_true rfl) rfl (Nat.le_of_ble_eq_true rfl) rfl hF (tX11_isLetter Z a2 hz h1) (fun w4 h3 hF => ?_)
    refine j_if_eq (pc := 13) 38 X dX11_date_13 rfl hF (fun hF => ?_) (fun hF => ?_)
    · refine j_iconst (pc := 38) (-1) X dX11_date_38 rfl ?_
      exact j_iret (pc := 39) X E dX11_date_39 hF
    · refine j_aload_n (pc := 16) 0 X dX11_date_16 rfl ?_
      refine j_iload_n (pc := 17) 3 X dX11_date_17 rfl ?_
      refine j_cVi (pc := 18) (As := [.int a3]) (rest := []) X dX11_date_18 ml_X11_176 ck_X11_isYear cv_X11_isYear (hz _ sh_100) rfl (Nat.le_of_ble_eq_true rfl) rfl (Nat.le_of_ble_eq_true rfl) rfl hF (tX11_isYear Z a3 hz h3) (fun w6 h5 hF => ?_)
      refine j_if_eq (pc := 21) 38 X dX11_date_21 rfl hF (fun hF => ?_) (fun hF => ?_)
      · refine j_iconst (pc := 38) (-1) X dX11_date_38 rfl ?_
        exact j_iret (pc := 39) X E dX11_date_39 hF
      · refine j_aload_n (pc := 24) 0 X dX11_date_24 rfl ?_
        refine j_getr (pc := 25) X dX11_date_25 (hz _ sh_100) fl_X11_54 rfl ?_
        refine j_iconst (pc := 28) 4 X dX11_date_28 rfl ?_
        refine j_iload_n (pc := 29) 1 X dX11_date_29 rfl ?_
        refine j_iload_n (pc := 30) 2 X dX11_date_30 rfl ?_
        refine j_iload_n (pc := 31) 3 X dX11_date_31 rfl ?_
        refine j_cVi (pc := 32) (As := [.int 4, .int a1, .int a2, .int a3]) (rest := []) X dX11_date_32 ml_X11_200 ck_X3_add cv_X3_add (hz _ sh_152) rfl (Nat.le_of_ble_eq_true rfl) rfl (Nat.le_of_ble_eq_true rfl) rfl hF (tX3_add Z 4 a1 a2 a3 hz h5) (fun w8 h7 hF => ?_)
        refine j_goto (pc := 35) 39 X dX11_date_35 rfl ?_
        exact j_iret (pc := 39) X E dX11_date_39 hF
theorem dX11_flood_0 : decode cX11_flood 0 = .ok (.aload_n 0, 1) := by decide +kernel
theorem dX11_flood_1 : decode cX11_flood 1 = .ok (.iload_n 1, 1) := by decide +kernel
theorem dX11_flood_2 : decode cX11_flood 2 = .ok (.invokevirtual 176, 3) := by decide +kernel
theorem dX11_flood_5 : decode cX11_flood 5 = .ok (.ifCond .eq 26, 3) := by decide +kernel
theorem dX11_flood_8 : decode cX11_flood 8 = .ok (.iload_n 2, 1) := by decide +kernel
theorem dX11_flood_9 : decode cX11_flood 9 = .ok (.iconst 0, 1) := by decide +kernel
theorem dX11_flood_10 : decode cX11_flood 10 = .ok (.iconst 3, 1) := by decide +kernel
theorem dX11_flood_11 : decode cX11_flood 11 = .ok (.invokestatic 106, 3) := by decide +kernel
theorem dX11_flood_14 : decode cX11_flood 14 = .ok (.ifCond .eq 17, 3) := by decide +kernel
theorem dX11_flood_17 : decode cX11_flood 17 = .ok (.aload_n 0, 1) := by decide +kernel
theorem dX11_flood_18 : decode cX11_flood 18 = .ok (.getfield 54, 3) := by decide +kernel
theorem dX11_flood_21 : decode cX11_flood 21 = .ok (.iconst 5, 1) := by decide +kernel
theorem dX11_flood_22 : decode cX11_flood 22 = .ok (.iload_n 1, 1) := by decide +kernel
theorem dX11_flood_23 : decode cX11_flood 23 = .ok (.iload_n 2, 1) := by decide +kernel
theorem dX11_flood_24 : decode cX11_flood 24 = .ok (.iconst (-1), 1) := by decide +kernel
theorem dX11_flood_25 : decode cX11_flood 25 = .ok (.invokevirtual 200, 3) := by decide +kernel
theorem dX11_flood_28 : decode cX11_flood 28 = .ok (.goto 4, 3) := by decide +kernel
theorem dX11_flood_31 : decode cX11_flood 31 = .ok (.iconst (-1), 1) := by decide +kernel
theorem dX11_flood_32 : decode cX11_flood 32 = .ok (.ireturn, 1) := by decide +kernel
def fX11_flood (a1 : Int32) (a2 : Int32) (h : Hp) : Option (Int32 × Hp) := bi (fX11_isYear a1 h) (fun w2 h1 => (if w2 = 0 then some ((-1), h1) else bi (fX11_within a2 0 3 h1) (fun w4 h3 => (if w4 = 0 then some ((-1), h3) else bi (fX3_add 5 a1 a2 (-1) h3) (fun w6 h5 => some (w6, h5))))))
set_option maxRecDepth 20000 in
theorem tX11_flood (Z : ZT) (a1 : Int32) (a2 : Int32) (hz : HZ Z) (h : Hp) (r : Int32) (hr : Hp) (hF : fX11_flood a1 a2 h = some (r, hr)) : MC Z yX11_flood cX11_flood 3 (some .int) 2 [.ref (Z.2.1 100), .int a1, .int a2] h (some (.int r)) hr := by
  unfold fX11_flood at hF
  refine mc_start (by decide) (Nat.le_of_ble_eq_true rfl) (fun G X E => ?_)
  refine j_aload_n (pc := 0) 0 X dX11_flood_0 rfl ?_
  refine j_iload_n (pc := 1) 1 X dX11_flood_1 rfl ?_
  refine j_cVi (pc := 2) (As := [.int a1]) (rest := []) X dX11_flood_2 ml_X11_176 ck_X11_isYear cv_X11_isYear (hz _ sh_100) rfl (Nat.le_of_ble_eq_true rfl) rfl (Nat.le_of_ble_eq_true rfl) rfl hF (tX11_isYear Z a1 hz h) (fun w2 h1 hF => ?_)
  refine j_if_eq (pc := 5) 31 X dX11_flood_5 rfl hF (fun hF => ?_) (fun hF => ?_)
  · refine j_iconst (pc := 31) (-1) X dX11_flood_31 rfl ?_
    exact j_iret (pc := 32) X E dX11_flood_32 hF
  · refine j_iload_n (pc := 8) 2 X dX11_flood_8 rfl ?_
    refine j_iconst (pc := 9) 0 X dX11_flood_9 rfl ?_
    refine j_iconst (pc := 10) 3 X dX11_flood_10 rfl ?_
    refine j_cSi (pc := 11) (As := [.int a2, .int 0, .int 3]) (rest := []) X dX11_flood_11 ml_X11_106 ck_X11_within sk_X11_within (Nat.le_of_ble_eq_true rfl) rfl (Nat.le_of_ble_eq_true rfl) rfl hF (tX11_within Z a2 0 3 trivial h1) (fun w4 h3 hF => ?_)
    refine j_if_eq (pc := 14) 31 X dX11_flood_14 rfl hF (fun hF => ?_) (fun hF => ?_)
    · refine j_iconst (pc := 31) (-1) X dX11_flood_31 rfl ?_
      exact j_iret (pc := 32) X E dX11_flood_32 hF
    · refine j_aload_n (pc := 17) 0 X dX11_flood_17 rfl ?_
      refine j_getr (pc := 18) X dX11_flood_18 (hz _ sh_100) fl_X11_54 rfl ?_
      refine j_iconst (pc := 21) 5 X dX11_flood_21 rfl ?_
      refine j_iload_n (pc := 22) 1 X dX11_flood_22 rfl ?_
      refine j_iload_n (pc := 23) 2 X dX11_flood_23 rfl ?_
      refine j_iconst (pc := 24) (-1) X dX11_flood_24 rfl ?_
      refine j_cVi (pc := 25) (As := [.int 5, .int a1, .int a2, .int (-1)]) (rest := []) X dX11_flood_25 ml_X11_200 ck_X3_add cv_X3_add (hz _ sh_152) rfl (Nat.le_of_ble_eq_true rfl) rfl (Nat.le_of_ble_eq_true rfl) rfl hF (tX3_add Z 5 a1 a2 (-1) hz h3) (fun w6 h5 hF => ?_)
      refine j_goto (pc := 28) 32 X dX11_flood_28 rfl ?_
      exact j_iret (pc := 32) X E dX11_flood_32 hF
theorem dX11_annul_0 : decode cX11_annul 0 = .ok (.iload_n 1, 1) := by decide +kernel
theorem dX11_annul_1 : decode cX11_annul 1 = .ok (.iconst 0, 1) := by decide +kernel
theorem dX11_annul_2 : decode cX11_annul 2 = .ok (.aload_n 0, 1) := by decide +kernel
theorem dX11_annul_3 : decode cX11_annul 3 = .ok (.getfield 54, 3) := by decide +kernel
theorem dX11_annul_6 : decode cX11_annul 6 = .ok (.getfield 113, 3) := by decide +kernel
theorem dX11_annul_9 : decode cX11_annul 9 = .ok (.iconst 1, 1) := by decide +kernel
theorem dX11_annul_10 : decode cX11_annul 10 = .ok (.isub, 1) := by decide +kernel
theorem dX11_annul_11 : decode cX11_annul 11 = .ok (.invokestatic 106, 3) := by decide +kernel
theorem dX11_annul_14 : decode cX11_annul 14 = .ok (.ifCond .eq 17, 3) := by decide +kernel
theorem dX11_annul_17 : decode cX11_annul 17 = .ok (.aload_n 0, 1) := by decide +kernel
theorem dX11_annul_18 : decode cX11_annul 18 = .ok (.getfield 54, 3) := by decide +kernel
theorem dX11_annul_21 : decode cX11_annul 21 = .ok (.getfield 203, 3) := by decide +kernel
theorem dX11_annul_24 : decode cX11_annul 24 = .ok (.iload_n 1, 1) := by decide +kernel
theorem dX11_annul_25 : decode cX11_annul 25 = .ok (.iaload, 1) := by decide +kernel
theorem dX11_annul_26 : decode cX11_annul 26 = .ok (.bipush 6, 2) := by decide +kernel
theorem dX11_annul_28 : decode cX11_annul 28 = .ok (.if_icmp .ne 5, 3) := by decide +kernel
theorem dX11_annul_31 : decode cX11_annul 31 = .ok (.iconst (-1), 1) := by decide +kernel
theorem dX11_annul_32 : decode cX11_annul 32 = .ok (.ireturn, 1) := by decide +kernel
theorem dX11_annul_33 : decode cX11_annul 33 = .ok (.aload_n 0, 1) := by decide +kernel
theorem dX11_annul_34 : decode cX11_annul 34 = .ok (.getfield 54, 3) := by decide +kernel
theorem dX11_annul_37 : decode cX11_annul 37 = .ok (.bipush 6, 2) := by decide +kernel
theorem dX11_annul_39 : decode cX11_annul 39 = .ok (.iconst (-1), 1) := by decide +kernel
theorem dX11_annul_40 : decode cX11_annul 40 = .ok (.iload_n 1, 1) := by decide +kernel
theorem dX11_annul_41 : decode cX11_annul 41 = .ok (.iconst (-1), 1) := by decide +kernel
theorem dX11_annul_42 : decode cX11_annul 42 = .ok (.invokevirtual 200, 3) := by decide +kernel
theorem dX11_annul_45 : decode cX11_annul 45 = .ok (.ireturn, 1) := by decide +kernel
def fX11_annul (a1 : Int32) (h : Hp) : Option (Int32 × Hp) := bi (fX11_within a1 0 ((h.1 152 6) - 1) h) (fun w2 h1 => (if w2 = 0 then some ((-1), h1) else ck (inb a1 60) ((if (h1.1 153 (ix a1)) = 6 then some ((-1), h1) else bi (fX3_add 6 (-1) a1 (-1) h1) (fun w4 h3 => some (w4, h3))))))
set_option maxRecDepth 20000 in
theorem tX11_annul (Z : ZT) (a1 : Int32) (hz : HZ Z) (h : Hp) (r : Int32) (hr : Hp) (hF : fX11_annul a1 h = some (r, hr)) : MC Z yX11_annul cX11_annul 2 (some .int) 1 [.ref (Z.2.1 100), .int a1] h (some (.int r)) hr := by
  unfold fX11_annul at hF
  refine mc_start (by decide) (Nat.le_of_ble_eq_true rfl) (fun G X E => ?_)
  refine j_iload_n (pc := 0) 1 X dX11_annul_0 rfl ?_
  refine j_iconst (pc := 1) 0 X dX11_annul_1 rfl ?_
  refine j_aload_n (pc := 2) 0 X dX11_annul_2 rfl ?_
  refine j_getr (pc := 3) X dX11_annul_3 (hz _ sh_100) fl_X11_54 rfl ?_
  refine j_geti (pc := 6) X dX11_annul_6 (hz _ sh_152) fl_X11_113 rfl ?_
  refine j_iconst (pc := 9) 1 X dX11_annul_9 rfl ?_
  refine j_isub (pc := 10) X dX11_annul_10 ?_
  refine j_cSi (pc := 11) (As := [.int a1, .int 0, .int ((h.1 152 6) - 1)]) (rest := []) X dX11_annul_11 ml_X11_106 ck_X11_within sk_X11_within (Nat.le_of_ble_eq_true rfl) rfl (Nat.le_of_ble_eq_true rfl) rfl hF (tX11_within Z a1 0 ((h.1 152 6) - 1) trivial h) (fun w2 h1 hF => ?_)
  refine j_if_eq (pc := 14) 31 X dX11_annul_14 rfl hF (fun hF => ?_) (fun hF => ?_)
  · refine j_iconst (pc := 31) (-1) X dX11_annul_31 rfl ?_
    exact j_iret (pc := 32) X E dX11_annul_32 hF
  · refine j_aload_n (pc := 17) 0 X dX11_annul_17 rfl ?_
    refine j_getr (pc := 18) X dX11_annul_18 (hz _ sh_100) fl_X11_54 rfl ?_
    refine j_getr (pc := 21) X dX11_annul_21 (hz _ sh_152) fl_X11_203 rfl ?_
    refine j_iload_n (pc := 24) 1 X dX11_annul_24 rfl ?_
    refine j_iald (pc := 25) X dX11_annul_25 (hz _ sh_153) hF (fun hF => ?_)
    refine j_bipush (pc := 26) 6 X dX11_annul_26 rfl ?_
    refine j_icmp_ne (pc := 28) 33 X dX11_annul_28 rfl hF (fun hF => ?_) (fun hF => ?_)
    · refine j_aload_n (pc := 33) 0 X dX11_annul_33 rfl ?_
      refine j_getr (pc := 34) X dX11_annul_34 (hz _ sh_100) fl_X11_54 rfl ?_
      refine j_bipush (pc := 37) 6 X dX11_annul_37 rfl ?_
      refine j_iconst (pc := 39) (-1) X dX11_annul_39 rfl ?_
      refine j_iload_n (pc := 40) 1 X dX11_annul_40 rfl ?_
      refine j_iconst (pc := 41) (-1) X dX11_annul_41 rfl ?_
      refine j_cVi (pc := 42) (As := [.int 6, .int (-1), .int a1, .int (-1)]) (rest := []) X dX11_annul_42 ml_X11_200 ck_X3_add cv_X3_add (hz _ sh_152) rfl (Nat.le_of_ble_eq_true rfl) rfl (Nat.le_of_ble_eq_true rfl) rfl hF (tX3_add Z 6 (-1) a1 (-1) hz h1) (fun w4 h3 hF => ?_)
      exact j_iret (pc := 45) X E dX11_annul_45 hF
    · refine j_iconst (pc := 31) (-1) X dX11_annul_31 rfl ?_
      exact j_iret (pc := 32) X E dX11_annul_32 hF
theorem dX11_fact_0 : decode cX11_fact 0 = .ok (.iload_n 1, 1) := by decide +kernel
theorem dX11_fact_1 : decode cX11_fact 1 = .ok (.iconst 0, 1) := by decide +kernel
theorem dX11_fact_2 : decode cX11_fact 2 = .ok (.aload_n 0, 1) := by decide +kernel
theorem dX11_fact_3 : decode cX11_fact 3 = .ok (.getfield 54, 3) := by decide +kernel
theorem dX11_fact_6 : decode cX11_fact 6 = .ok (.getfield 113, 3) := by decide +kernel
theorem dX11_fact_9 : decode cX11_fact 9 = .ok (.iconst 1, 1) := by decide +kernel
theorem dX11_fact_10 : decode cX11_fact 10 = .ok (.isub, 1) := by decide +kernel
theorem dX11_fact_11 : decode cX11_fact 11 = .ok (.invokestatic 106, 3) := by decide +kernel
theorem dX11_fact_14 : decode cX11_fact 14 = .ok (.ifCond .ne 5, 3) := by decide +kernel
theorem dX11_fact_17 : decode cX11_fact 17 = .ok (.iconst (-1), 1) := by decide +kernel
theorem dX11_fact_18 : decode cX11_fact 18 = .ok (.ireturn, 1) := by decide +kernel
theorem dX11_fact_19 : decode cX11_fact 19 = .ok (.iload_n 2, 1) := by decide +kernel
theorem dX11_fact_20 : decode cX11_fact 20 = .ok (.tableswitch 72 0 3 #[32, 42, 52, 62], 32) := by decide +kernel
theorem dX11_fact_52 : decode cX11_fact 52 = .ok (.aload_n 0, 1) := by decide +kernel
theorem dX11_fact_53 : decode cX11_fact 53 = .ok (.getfield 54, 3) := by decide +kernel
theorem dX11_fact_56 : decode cX11_fact 56 = .ok (.getfield 203, 3) := by decide +kernel
theorem dX11_fact_59 : decode cX11_fact 59 = .ok (.iload_n 1, 1) := by decide +kernel
theorem dX11_fact_60 : decode cX11_fact 60 = .ok (.iaload, 1) := by decide +kernel
theorem dX11_fact_61 : decode cX11_fact 61 = .ok (.ireturn, 1) := by decide +kernel
theorem dX11_fact_62 : decode cX11_fact 62 = .ok (.aload_n 0, 1) := by decide +kernel
theorem dX11_fact_63 : decode cX11_fact 63 = .ok (.getfield 54, 3) := by decide +kernel
theorem dX11_fact_66 : decode cX11_fact 66 = .ok (.getfield 206, 3) := by decide +kernel
theorem dX11_fact_69 : decode cX11_fact 69 = .ok (.iload_n 1, 1) := by decide +kernel
theorem dX11_fact_70 : decode cX11_fact 70 = .ok (.iaload, 1) := by decide +kernel
theorem dX11_fact_71 : decode cX11_fact 71 = .ok (.ireturn, 1) := by decide +kernel
theorem dX11_fact_72 : decode cX11_fact 72 = .ok (.aload_n 0, 1) := by decide +kernel
theorem dX11_fact_73 : decode cX11_fact 73 = .ok (.getfield 54, 3) := by decide +kernel
theorem dX11_fact_76 : decode cX11_fact 76 = .ok (.getfield 209, 3) := by decide +kernel
theorem dX11_fact_79 : decode cX11_fact 79 = .ok (.iload_n 1, 1) := by decide +kernel
theorem dX11_fact_80 : decode cX11_fact 80 = .ok (.iaload, 1) := by decide +kernel
theorem dX11_fact_81 : decode cX11_fact 81 = .ok (.ireturn, 1) := by decide +kernel
theorem dX11_fact_82 : decode cX11_fact 82 = .ok (.aload_n 0, 1) := by decide +kernel
theorem dX11_fact_83 : decode cX11_fact 83 = .ok (.getfield 54, 3) := by decide +kernel
theorem dX11_fact_86 : decode cX11_fact 86 = .ok (.getfield 212, 3) := by decide +kernel
theorem dX11_fact_89 : decode cX11_fact 89 = .ok (.iload_n 1, 1) := by decide +kernel
theorem dX11_fact_90 : decode cX11_fact 90 = .ok (.iaload, 1) := by decide +kernel
theorem dX11_fact_91 : decode cX11_fact 91 = .ok (.ireturn, 1) := by decide +kernel
theorem dX11_fact_92 : decode cX11_fact 92 = .ok (.iconst (-1), 1) := by decide +kernel
theorem dX11_fact_93 : decode cX11_fact 93 = .ok (.ireturn, 1) := by decide +kernel
def fX11_fact (a1 : Int32) (a2 : Int32) (h : Hp) : Option (Int32 × Hp) := bi (fX11_within a1 0 ((h.1 152 6) - 1) h) (fun w2 h1 => (if w2 = 0 then some ((-1), h1) else (if a2.toInt < 0 ∨ 3 < a2.toInt then some ((-1), h1) else if a2 = 0 then ck (inb a1 60) (some ((h1.1 153 (ix a1)), h1)) else if a2 = 1 then ck (inb a1 60) (some ((h1.1 154 (ix a1)), h1)) else if a2 = 2 then ck (inb a1 60) (some ((h1.1 155 (ix a1)), h1)) else if a2 = 3 then ck (inb a1 60) (some ((h1.1 156 (ix a1)), h1)) else none)))
set_option maxRecDepth 20000 in
theorem tX11_fact (Z : ZT) (a1 : Int32) (a2 : Int32) (hz : HZ Z) (h : Hp) (r : Int32) (hr : Hp) (hF : fX11_fact a1 a2 h = some (r, hr)) : MC Z yX11_fact cX11_fact 3 (some .int) 1 [.ref (Z.2.1 100), .int a1, .int a2] h (some (.int r)) hr := by
  unfold fX11_fact at hF
  refine mc_start (by decide) (Nat.le_of_ble_eq_true rfl) (fun G X E => ?_)
  refine j_iload_n (pc := 0) 1 X dX11_fact_0 rfl ?_
  refine j_iconst (pc := 1) 0 X dX11_fact_1 rfl ?_
  refine j_aload_n (pc := 2) 0 X dX11_fact_2 rfl ?_
  refine j_getr (pc := 3) X dX11_fact_3 (hz _ sh_100) fl_X11_54 rfl ?_
  refine j_geti (pc := 6) X dX11_fact_6 (hz _ sh_152) fl_X11_113 rfl ?_
  refine j_iconst (pc := 9) 1 X dX11_fact_9 rfl ?_
  refine j_isub (pc := 10) X dX11_fact_10 ?_
  refine j_cSi (pc := 11) (As := [.int a1, .int 0, .int ((h.1 152 6) - 1)]) (rest := []) X dX11_fact_11 ml_X11_106 ck_X11_within sk_X11_within (Nat.le_of_ble_eq_true rfl) rfl (Nat.le_of_ble_eq_true rfl) rfl hF (tX11_within Z a1 0 ((h.1 152 6) - 1) trivial h) (fun w2 h1 hF => ?_)
  refine j_if_ne (pc := 14) 19 X dX11_fact_14 rfl hF (fun hF => ?_) (fun hF => ?_)
  · refine j_iload_n (pc := 19) 2 X dX11_fact_19 rfl ?_
    refine j_tab (pc := 20) (tgt := 92) X dX11_fact_20 rfl hF (fun hF => ?_) (fun hF => ?_)
    · refine j_iconst (pc := 92) (-1) X dX11_fact_92 rfl ?_
      exact j_iret (pc := 93) X E dX11_fact_93 hF
    refine j_tabi (pc := 20) (v := 0) (tgt := 52) X dX11_fact_20 rfl rfl rfl rfl hF (fun hF => ?_) (fun hF => ?_)
    · refine j_aload_n (pc := 52) 0 X dX11_fact_52 rfl ?_
      refine j_getr (pc := 53) X dX11_fact_53 (hz _ sh_100) fl_X11_54 rfl ?_
      refine j_getr (pc := 56) X dX11_fact_56 (hz _ sh_152) fl_X11_203 rfl ?_
      refine j_iload_n (pc := 59) 1 X dX11_fact_59 rfl ?_
      refine j_iald (pc := 60) X dX11_fact_60 (hz _ sh_153) hF (fun hF => ?_)
      exact j_iret (pc := 61) X E dX11_fact_61 hF
    refine j_tabi (pc := 20) (v := 1) (tgt := 62) X dX11_fact_20 rfl rfl rfl rfl hF (fun hF => ?_) (fun hF => ?_)
    · refine j_aload_n (pc := 62) 0 X dX11_fact_62 rfl ?_
      refine j_getr (pc := 63) X dX11_fact_63 (hz _ sh_100) fl_X11_54 rfl ?_
      refine j_getr (pc := 66) X dX11_fact_66 (hz _ sh_152) fl_X11_206 rfl ?_
      refine j_iload_n (pc := 69) 1 X dX11_fact_69 rfl ?_
      refine j_iald (pc := 70) X dX11_fact_70 (hz _ sh_154) hF (fun hF => ?_)
      exact j_iret (pc := 71) X E dX11_fact_71 hF
    refine j_tabi (pc := 20) (v := 2) (tgt := 72) X dX11_fact_20 rfl rfl rfl rfl hF (fun hF => ?_) (fun hF => ?_)
    · refine j_aload_n (pc := 72) 0 X dX11_fact_72 rfl ?_
      refine j_getr (pc := 73) X dX11_fact_73 (hz _ sh_100) fl_X11_54 rfl ?_
      refine j_getr (pc := 76) X dX11_fact_76 (hz _ sh_152) fl_X11_209 rfl ?_
      refine j_iload_n (pc := 79) 1 X dX11_fact_79 rfl ?_
      refine j_iald (pc := 80) X dX11_fact_80 (hz _ sh_155) hF (fun hF => ?_)
      exact j_iret (pc := 81) X E dX11_fact_81 hF
    refine j_tabi (pc := 20) (v := 3) (tgt := 82) X dX11_fact_20 rfl rfl rfl rfl hF (fun hF => ?_) (fun hF => ?_)
    · refine j_aload_n (pc := 82) 0 X dX11_fact_82 rfl ?_
      refine j_getr (pc := 83) X dX11_fact_83 (hz _ sh_100) fl_X11_54 rfl ?_
      refine j_getr (pc := 86) X dX11_fact_86 (hz _ sh_152) fl_X11_212 rfl ?_
      refine j_iload_n (pc := 89) 1 X dX11_fact_89 rfl ?_
      refine j_iald (pc := 90) X dX11_fact_90 (hz _ sh_156) hF (fun hF => ?_)
      exact j_iret (pc := 91) X E dX11_fact_91 hF
    cases hF
  · refine j_iconst (pc := 17) (-1) X dX11_fact_17 rfl ?_
    exact j_iret (pc := 18) X E dX11_fact_18 hF
theorem dX11_weighs_0 : decode cX11_weighs 0 = .ok (.aload_n 0, 1) := by decide +kernel
theorem dX11_weighs_1 : decode cX11_weighs 1 = .ok (.iload_n 1, 1) := by decide +kernel
theorem dX11_weighs_2 : decode cX11_weighs 2 = .ok (.invokevirtual 173, 3) := by decide +kernel
theorem dX11_weighs_5 : decode cX11_weighs 5 = .ok (.ifCond .eq 32, 3) := by decide +kernel
theorem dX11_weighs_8 : decode cX11_weighs 8 = .ok (.aload_n 0, 1) := by decide +kernel
theorem dX11_weighs_9 : decode cX11_weighs 9 = .ok (.iload_n 2, 1) := by decide +kernel
theorem dX11_weighs_10 : decode cX11_weighs 10 = .ok (.invokevirtual 176, 3) := by decide +kernel
theorem dX11_weighs_13 : decode cX11_weighs 13 = .ok (.ifCond .eq 24, 3) := by decide +kernel
theorem dX11_weighs_16 : decode cX11_weighs 16 = .ok (.aload_n 0, 1) := by decide +kernel
theorem dX11_weighs_17 : decode cX11_weighs 17 = .ok (.iload_n 3, 1) := by decide +kernel
theorem dX11_weighs_18 : decode cX11_weighs 18 = .ok (.invokevirtual 215, 3) := by decide +kernel
theorem dX11_weighs_21 : decode cX11_weighs 21 = .ok (.ifCond .eq 16, 3) := by decide +kernel
theorem dX11_weighs_24 : decode cX11_weighs 24 = .ok (.aload_n 0, 1) := by decide +kernel
theorem dX11_weighs_25 : decode cX11_weighs 25 = .ok (.getfield 54, 3) := by decide +kernel
theorem dX11_weighs_28 : decode cX11_weighs 28 = .ok (.iload_n 1, 1) := by decide +kernel
theorem dX11_weighs_29 : decode cX11_weighs 29 = .ok (.iload_n 2, 1) := by decide +kernel
theorem dX11_weighs_30 : decode cX11_weighs 30 = .ok (.iload_n 3, 1) := by decide +kernel
theorem dX11_weighs_31 : decode cX11_weighs 31 = .ok (.invokevirtual 218, 3) := by decide +kernel
theorem dX11_weighs_34 : decode cX11_weighs 34 = .ok (.goto 4, 3) := by decide +kernel
theorem dX11_weighs_37 : decode cX11_weighs 37 = .ok (.iconst (-1), 1) := by decide +kernel
theorem dX11_weighs_38 : decode cX11_weighs 38 = .ok (.ireturn, 1) := by decide +kernel
def fX11_weighs (a1 : Int32) (a2 : Int32) (a3 : Int32) (h : Hp) : Option (Int32 × Hp) := bi (fX11_isPerson a1 h) (fun w2 h1 => (if w2 = 0 then some ((-1), h1) else bi (fX11_isYear a2 h1) (fun w4 h3 => (if w4 = 0 then some ((-1), h3) else bi (fX11_isKnown a3 h3) (fun w6 h5 => (if w6 = 0 then some ((-1), h5) else bi (fX3_weightOf a1 a2 a3 h5) (fun w8 h7 => some (w8, h7))))))))
set_option maxRecDepth 20000 in
theorem tX11_weighs (Z : ZT) (a1 : Int32) (a2 : Int32) (a3 : Int32) (hz : HZ Z) (h : Hp) (r : Int32) (hr : Hp) (hF : fX11_weighs a1 a2 a3 h = some (r, hr)) : MC Z yX11_weighs cX11_weighs 4 (some .int) 3 [.ref (Z.2.1 100), .int a1, .int a2, .int a3] h (some (.int r)) hr := by
  unfold fX11_weighs at hF
  refine mc_start (by decide) (Nat.le_of_ble_eq_true rfl) (fun G X E => ?_)
  refine j_aload_n (pc := 0) 0 X dX11_weighs_0 rfl ?_
  refine j_iload_n (pc := 1) 1 X dX11_weighs_1 rfl ?_
  refine j_cVi (pc := 2) (As := [.int a1]) (rest := []) X dX11_weighs_2 ml_X11_173 ck_X11_isPerson cv_X11_isPerson (hz _ sh_100) rfl (Nat.le_of_ble_eq_true rfl) rfl (Nat.le_of_ble_eq_true rfl) rfl hF (tX11_isPerson Z a1 hz h) (fun w2 h1 hF => ?_)
  refine j_if_eq (pc := 5) 37 X dX11_weighs_5 rfl hF (fun hF => ?_) (fun hF => ?_)
  · refine j_iconst (pc := 37) (-1) X dX11_weighs_37 rfl ?_
    exact j_iret (pc := 38) X E dX11_weighs_38 hF
  · refine j_aload_n (pc := 8) 0 X dX11_weighs_8 rfl ?_
    refine j_iload_n (pc := 9) 2 X dX11_weighs_9 rfl ?_
    refine j_cVi (pc := 10) (As := [.int a2]) (rest := []) X dX11_weighs_10 ml_X11_176 ck_X11_isYear cv_X11_isYear (hz _ sh_100) rfl (Nat.le_of_ble_eq_true rfl) rfl (Nat.le_of_ble_eq_true rfl) rfl hF (tX11_isYear Z a2 hz h1) (fun w4 h3 hF => ?_)
    refine j_if_eq (pc := 13) 37 X dX11_weighs_13 rfl hF (fun hF => ?_) (fun hF => ?_)
    · refine j_iconst (pc := 37) (-1) X dX11_weighs_37 rfl ?_
      exact j_iret (pc := 38) X E dX11_weighs_38 hF
    · refine j_aload_n (pc := 16) 0 X dX11_weighs_16 rfl ?_
      refine j_iload_n (pc := 17) 3 X dX11_weighs_17 rfl ?_
      refine j_cVi (pc := 18) (As := [.int a3]) (rest := []) X dX11_weighs_18 ml_X11_215 ck_X11_isKnown cv_X11_isKnown (hz _ sh_100) rfl (Nat.le_of_ble_eq_true rfl) rfl (Nat.le_of_ble_eq_true rfl) rfl hF (tX11_isKnown Z a3 hz h3) (fun w6 h5 hF => ?_)
      refine j_if_eq (pc := 21) 37 X dX11_weighs_21 rfl hF (fun hF => ?_) (fun hF => ?_)
      · refine j_iconst (pc := 37) (-1) X dX11_weighs_37 rfl ?_
        exact j_iret (pc := 38) X E dX11_weighs_38 hF
      · refine j_aload_n (pc := 24) 0 X dX11_weighs_24 rfl ?_
        refine j_getr (pc := 25) X dX11_weighs_25 (hz _ sh_100) fl_X11_54 rfl ?_
        refine j_iload_n (pc := 28) 1 X dX11_weighs_28 rfl ?_
        refine j_iload_n (pc := 29) 2 X dX11_weighs_29 rfl ?_
        refine j_iload_n (pc := 30) 3 X dX11_weighs_30 rfl ?_
        refine j_cVi (pc := 31) (As := [.int a1, .int a2, .int a3]) (rest := []) X dX11_weighs_31 ml_X11_218 ck_X3_weightOf cv_X3_weightOf (hz _ sh_152) rfl (Nat.le_of_ble_eq_true rfl) rfl (Nat.le_of_ble_eq_true rfl) rfl hF (tX3_weightOf Z a1 a2 a3 hz h5) (fun w8 h7 hF => ?_)
        refine j_goto (pc := 34) 38 X dX11_weighs_34 rfl ?_
        exact j_iret (pc := 38) X E dX11_weighs_38 hF
theorem dX11_run_0 : decode cX11_run 0 = .ok (.aload_n 0, 1) := by decide +kernel
theorem dX11_run_1 : decode cX11_run 1 = .ok (.iload_n 1, 1) := by decide +kernel
theorem dX11_run_2 : decode cX11_run 2 = .ok (.invokevirtual 148, 3) := by decide +kernel
theorem dX11_run_5 : decode cX11_run 5 = .ok (.ifCond .eq 29, 3) := by decide +kernel
theorem dX11_run_8 : decode cX11_run 8 = .ok (.aload_n 0, 1) := by decide +kernel
theorem dX11_run_9 : decode cX11_run 9 = .ok (.iload_n 2, 1) := by decide +kernel
theorem dX11_run_10 : decode cX11_run 10 = .ok (.invokevirtual 215, 3) := by decide +kernel
theorem dX11_run_13 : decode cX11_run 13 = .ok (.ifCond .eq 21, 3) := by decide +kernel
theorem dX11_run_16 : decode cX11_run 16 = .ok (.aload_n 0, 1) := by decide +kernel
theorem dX11_run_17 : decode cX11_run 17 = .ok (.iload_n 3, 1) := by decide +kernel
theorem dX11_run_18 : decode cX11_run 18 = .ok (.invokevirtual 222, 3) := by decide +kernel
theorem dX11_run_21 : decode cX11_run 21 = .ok (.ifCond .eq 13, 3) := by decide +kernel
theorem dX11_run_24 : decode cX11_run 24 = .ok (.iload 4, 2) := by decide +kernel
theorem dX11_run_26 : decode cX11_run 26 = .ok (.iconst 0, 1) := by decide +kernel
theorem dX11_run_27 : decode cX11_run 27 = .ok (.iconst 2, 1) := by decide +kernel
theorem dX11_run_28 : decode cX11_run 28 = .ok (.invokestatic 106, 3) := by decide +kernel
theorem dX11_run_31 : decode cX11_run 31 = .ok (.ifCond .ne 5, 3) := by decide +kernel
theorem dX11_run_34 : decode cX11_run 34 = .ok (.iconst (-1), 1) := by decide +kernel
theorem dX11_run_35 : decode cX11_run 35 = .ok (.ireturn, 1) := by decide +kernel
theorem dX11_run_36 : decode cX11_run 36 = .ok (.aload_n 0, 1) := by decide +kernel
theorem dX11_run_37 : decode cX11_run 37 = .ok (.getfield 67, 3) := by decide +kernel
theorem dX11_run_40 : decode cX11_run 40 = .ok (.iload_n 2, 1) := by decide +kernel
theorem dX11_run_41 : decode cX11_run 41 = .ok (.iload_n 3, 1) := by decide +kernel
theorem dX11_run_42 : decode cX11_run 42 = .ok (.bipush 59, 2) := by decide +kernel
theorem dX11_run_44 : decode cX11_run 44 = .ok (.invokevirtual 225, 3) := by decide +kernel
theorem dX11_run_47 : decode cX11_run 47 = .ok (.astore 5, 2) := by decide +kernel
theorem dX11_run_49 : decode cX11_run 49 = .ok (.iload 4, 2) := by decide +kernel
theorem dX11_run_51 : decode cX11_run 51 = .ok (.lookupswitch 56 #[(0, 25), (1, 33)], 25) := by decide +kernel
theorem dX11_run_76 : decode cX11_run 76 = .ok (.aload 5, 2) := by decide +kernel
theorem dX11_run_78 : decode cX11_run 78 = .ok (.getfield 229, 3) := by decide +kernel
theorem dX11_run_81 : decode cX11_run 81 = .ok (.iload_n 1, 1) := by decide +kernel
theorem dX11_run_82 : decode cX11_run 82 = .ok (.iaload, 1) := by decide +kernel
theorem dX11_run_83 : decode cX11_run 83 = .ok (.ireturn, 1) := by decide +kernel
theorem dX11_run_84 : decode cX11_run 84 = .ok (.aload 5, 2) := by decide +kernel
theorem dX11_run_86 : decode cX11_run 86 = .ok (.getfield 229, 3) := by decide +kernel
theorem dX11_run_89 : decode cX11_run 89 = .ok (.iload_n 1, 1) := by decide +kernel
theorem dX11_run_90 : decode cX11_run 90 = .ok (.iaload, 1) := by decide +kernel
theorem dX11_run_91 : decode cX11_run 91 = .ok (.ifCond .ne 8, 3) := by decide +kernel
theorem dX11_run_94 : decode cX11_run 94 = .ok (.bipush (-2), 2) := by decide +kernel
theorem dX11_run_96 : decode cX11_run 96 = .ok (.goto 10, 3) := by decide +kernel
theorem dX11_run_99 : decode cX11_run 99 = .ok (.aload 5, 2) := by decide +kernel
theorem dX11_run_101 : decode cX11_run 101 = .ok (.getfield 234, 3) := by decide +kernel
theorem dX11_run_104 : decode cX11_run 104 = .ok (.iload_n 1, 1) := by decide +kernel
theorem dX11_run_105 : decode cX11_run 105 = .ok (.iaload, 1) := by decide +kernel
theorem dX11_run_106 : decode cX11_run 106 = .ok (.ireturn, 1) := by decide +kernel
theorem dX11_run_107 : decode cX11_run 107 = .ok (.aload 5, 2) := by decide +kernel
theorem dX11_run_109 : decode cX11_run 109 = .ok (.getfield 237, 3) := by decide +kernel
theorem dX11_run_112 : decode cX11_run 112 = .ok (.iload_n 1, 1) := by decide +kernel
theorem dX11_run_113 : decode cX11_run 113 = .ok (.iaload, 1) := by decide +kernel
theorem dX11_run_114 : decode cX11_run 114 = .ok (.ireturn, 1) := by decide +kernel
def fX11_run (a1 : Int32) (a2 : Int32) (a3 : Int32) (a4 : Int32) (h : Hp) : Option (Int32 × Hp) := bi (fX11_isLetter a1 h) (fun w2 h1 => (if w2 = 0 then some ((-1), h1) else bi (fX11_isKnown a2 h1) (fun w4 h3 => (if w4 = 0 then some ((-1), h3) else bi (fX11_isLook a3 h3) (fun w6 h5 => (if w6 = 0 then some ((-1), h5) else bi (fX11_within a4 0 2 h5) (fun w8 h7 => (if w8 = 0 then some ((-1), h7) else bv (fX2_runOf a2 a3 59 h7) (fun h9 => (if a4 = 0 then ck (inb a1 10) (some ((h9.1 191 (ix a1)), h9)) else if a4 = 1 then ck (inb a1 10) ((if (h9.1 191 (ix a1)) = 0 then some ((-2), h9) else ck (inb a1 10) (some ((h9.1 192 (ix a1)), h9)))) else ck (inb a1 10) (some ((h9.1 193 (ix a1)), h9))))))))))))
set_option maxRecDepth 20000 in
theorem tX11_run (Z : ZT) (a1 : Int32) (a2 : Int32) (a3 : Int32) (a4 : Int32) (hz : HZ Z) (h : Hp) (r : Int32) (hr : Hp) (hF : fX11_run a1 a2 a3 a4 h = some (r, hr)) : MC Z yX11_run cX11_run 6 (some .int) 7 [.ref (Z.2.1 100), .int a1, .int a2, .int a3, .int a4] h (some (.int r)) hr := by
  unfold fX11_run at hF
  refine mc_start (by decide) (Nat.le_of_ble_eq_true rfl) (fun G X E => ?_)
  refine j_aload_n (pc := 0) 0 X dX11_run_0 rfl ?_
  refine j_iload_n (pc := 1) 1 X dX11_run_1 rfl ?_
  refine j_cVi (pc := 2) (As := [.int a1]) (rest := []) X dX11_run_2 ml_X11_148 ck_X11_isLetter cv_X11_isLetter (hz _ sh_100) rfl (Nat.le_of_ble_eq_true rfl) rfl (Nat.le_of_ble_eq_true rfl) rfl hF (tX11_isLetter Z a1 hz h) (fun w2 h1 hF => ?_)
  refine j_if_eq (pc := 5) 34 X dX11_run_5 rfl hF (fun hF => ?_) (fun hF => ?_)
  · refine j_iconst (pc := 34) (-1) X dX11_run_34 rfl ?_
    exact j_iret (pc := 35) X E dX11_run_35 hF
  · refine j_aload_n (pc := 8) 0 X dX11_run_8 rfl ?_
    refine j_iload_n (pc := 9) 2 X dX11_run_9 rfl ?_
    refine j_cVi (pc := 10) (As := [.int a2]) (rest := []) X dX11_run_10 ml_X11_215 ck_X11_isKnown cv_X11_isKnown (hz _ sh_100) rfl (Nat.le_of_ble_eq_true rfl) rfl (Nat.le_of_ble_eq_true rfl) rfl hF (tX11_isKnown Z a2 hz h1) (fun w4 h3 hF => ?_)
    refine j_if_eq (pc := 13) 34 X dX11_run_13 rfl hF (fun hF => ?_) (fun hF => ?_)
    · refine j_iconst (pc := 34) (-1) X dX11_run_34 rfl ?_
      exact j_iret (pc := 35) X E dX11_run_35 hF
    · refine j_aload_n (pc := 16) 0 X dX11_run_16 rfl ?_
      refine j_iload_n (pc := 17) 3 X dX11_run_17 rfl ?_
      refine j_cVi (pc := 18) (As := [.int a3]) (rest := []) X dX11_run_18 ml_X11_222 ck_X11_isLook cv_X11_isLook (hz _ sh_100) rfl (Nat.le_of_ble_eq_true rfl) rfl (Nat.le_of_ble_eq_true rfl) rfl hF (tX11_isLook Z a3 hz h3) (fun w6 h5 hF => ?_)
      refine j_if_eq (pc := 21) 34 X dX11_run_21 rfl hF (fun hF => ?_) (fun hF => ?_)
      · refine j_iconst (pc := 34) (-1) X dX11_run_34 rfl ?_
        exact j_iret (pc := 35) X E dX11_run_35 hF
      · refine j_iload (pc := 24) 4 X dX11_run_24 rfl ?_
        refine j_iconst (pc := 26) 0 X dX11_run_26 rfl ?_
        refine j_iconst (pc := 27) 2 X dX11_run_27 rfl ?_
        refine j_cSi (pc := 28) (As := [.int a4, .int 0, .int 2]) (rest := []) X dX11_run_28 ml_X11_106 ck_X11_within sk_X11_within (Nat.le_of_ble_eq_true rfl) rfl (Nat.le_of_ble_eq_true rfl) rfl hF (tX11_within Z a4 0 2 trivial h5) (fun w8 h7 hF => ?_)
        refine j_if_ne (pc := 31) 36 X dX11_run_31 rfl hF (fun hF => ?_) (fun hF => ?_)
        · refine j_aload_n (pc := 36) 0 X dX11_run_36 rfl ?_
          refine j_getr (pc := 37) X dX11_run_37 (hz _ sh_100) fl_X11_67 rfl ?_
          refine j_iload_n (pc := 40) 2 X dX11_run_40 rfl ?_
          refine j_iload_n (pc := 41) 3 X dX11_run_41 rfl ?_
          refine j_bipush (pc := 42) 59 X dX11_run_42 rfl ?_
          refine j_cVr (pc := 44) (As := [.int a2, .int a3, .int 59]) (rest := []) X dX11_run_44 ml_X11_225 ck_X2_runOf cv_X2_runOf (hz _ sh_181) rfl (Nat.le_of_ble_eq_true rfl) rfl (Nat.le_of_ble_eq_true rfl) rfl hF (tX2_runOf Z a2 a3 59 hz h7) (fun h9 hF => ?_)
          refine j_astore (pc := 47) [(5, .ref (Z.2.1 190)), (0, .ref (Z.2.1 100)), (1, .int a1), (2, .int a2), (3, .int a3), (4, .int a4)] X dX11_run_47 (by decide) rfl ?_
          refine j_iload (pc := 49) 5 X dX11_run_49 rfl ?_
          refine j_lki (pc := 51) (off := 25) (v := 0) (tgt := 76) X dX11_run_51 rfl (by decide) rfl hF (fun hF => ?_) (fun c10 hF => ?_)
          · refine j_aload (pc := 76) 0 X dX11_run_76 rfl ?_
            refine j_getr (pc := 78) X dX11_run_78 (hz _ sh_190) fl_X11_229 rfl ?_
            refine j_iload_n (pc := 81) 2 X dX11_run_81 rfl ?_
            refine j_iald (pc := 82) X dX11_run_82 (hz _ sh_191) hF (fun hF => ?_)
            exact j_iret (pc := 83) X E dX11_run_83 hF
          refine j_lki (pc := 51) (off := 33) (v := 1) (tgt := 84) X dX11_run_51 rfl (by decide) rfl hF (fun hF => ?_) (fun c11 hF => ?_)
          · refine j_aload (pc := 84) 0 X dX11_run_84 rfl ?_
            refine j_getr (pc := 86) X dX11_run_86 (hz _ sh_190) fl_X11_229 rfl ?_
            refine j_iload_n (pc := 89) 2 X dX11_run_89 rfl ?_
            refine j_iald (pc := 90) X dX11_run_90 (hz _ sh_191) hF (fun hF => ?_)
            refine j_if_ne (pc := 91) 99 X dX11_run_91 rfl hF (fun hF => ?_) (fun hF => ?_)
            · refine j_aload (pc := 99) 0 X dX11_run_99 rfl ?_
              refine j_getr (pc := 101) X dX11_run_101 (hz _ sh_190) fl_X11_234 rfl ?_
              refine j_iload_n (pc := 104) 2 X dX11_run_104 rfl ?_
              refine j_iald (pc := 105) X dX11_run_105 (hz _ sh_192) hF (fun hF => ?_)
              exact j_iret (pc := 106) X E dX11_run_106 hF
            · refine j_bipush (pc := 94) (-2) X dX11_run_94 rfl ?_
              refine j_goto (pc := 96) 106 X dX11_run_96 rfl ?_
              exact j_iret (pc := 106) X E dX11_run_106 hF
          refine j_lkd (pc := 51) (tgt := 107) X dX11_run_51 rfl ((lv_osw (a := 0) (o := 25) c10 rfl).trans ((lv_osw (a := 1) (o := 33) c11 rfl).trans rfl)) rfl ?_
          refine j_aload (pc := 107) 0 X dX11_run_107 rfl ?_
          refine j_getr (pc := 109) X dX11_run_109 (hz _ sh_190) fl_X11_237 rfl ?_
          refine j_iload_n (pc := 112) 2 X dX11_run_112 rfl ?_
          refine j_iald (pc := 113) X dX11_run_113 (hz _ sh_193) hF (fun hF => ?_)
          exact j_iret (pc := 114) X E dX11_run_114 hF
        · refine j_iconst (pc := 34) (-1) X dX11_run_34 rfl ?_
          exact j_iret (pc := 35) X E dX11_run_35 hF
theorem dX11_opened_0 : decode cX11_opened 0 = .ok (.aload_n 0, 1) := by decide +kernel
theorem dX11_opened_1 : decode cX11_opened 1 = .ok (.iload_n 1, 1) := by decide +kernel
theorem dX11_opened_2 : decode cX11_opened 2 = .ok (.invokevirtual 176, 3) := by decide +kernel
theorem dX11_opened_5 : decode cX11_opened 5 = .ok (.ifCond .eq 15, 3) := by decide +kernel
theorem dX11_opened_8 : decode cX11_opened 8 = .ok (.aload_n 0, 1) := by decide +kernel
theorem dX11_opened_9 : decode cX11_opened 9 = .ok (.iload_n 2, 1) := by decide +kernel
theorem dX11_opened_10 : decode cX11_opened 10 = .ok (.invokevirtual 215, 3) := by decide +kernel
theorem dX11_opened_13 : decode cX11_opened 13 = .ok (.ifCond .eq 7, 3) := by decide +kernel
theorem dX11_opened_16 : decode cX11_opened 16 = .ok (.iload_n 3, 1) := by decide +kernel
theorem dX11_opened_17 : decode cX11_opened 17 = .ok (.ifCond .ge 5, 3) := by decide +kernel
theorem dX11_opened_20 : decode cX11_opened 20 = .ok (.iconst (-1), 1) := by decide +kernel
theorem dX11_opened_21 : decode cX11_opened 21 = .ok (.ireturn, 1) := by decide +kernel
theorem dX11_opened_22 : decode cX11_opened 22 = .ok (.aload_n 0, 1) := by decide +kernel
theorem dX11_opened_23 : decode cX11_opened 23 = .ok (.getfield 67, 3) := by decide +kernel
theorem dX11_opened_26 : decode cX11_opened 26 = .ok (.iload_n 2, 1) := by decide +kernel
theorem dX11_opened_27 : decode cX11_opened 27 = .ok (.iconst 1, 1) := by decide +kernel
theorem dX11_opened_28 : decode cX11_opened 28 = .ok (.iload_n 1, 1) := by decide +kernel
theorem dX11_opened_29 : decode cX11_opened 29 = .ok (.invokevirtual 225, 3) := by decide +kernel
theorem dX11_opened_32 : decode cX11_opened 32 = .ok (.iload_n 1, 1) := by decide +kernel
theorem dX11_opened_33 : decode cX11_opened 33 = .ok (.iload_n 3, 1) := by decide +kernel
theorem dX11_opened_34 : decode cX11_opened 34 = .ok (.invokevirtual 240, 3) := by decide +kernel
theorem dX11_opened_37 : decode cX11_opened 37 = .ok (.ireturn, 1) := by decide +kernel
def fX11_opened (a1 : Int32) (a2 : Int32) (a3 : Int32) (h : Hp) : Option (Int32 × Hp) := bi (fX11_isYear a1 h) (fun w2 h1 => (if w2 = 0 then some ((-1), h1) else bi (fX11_isKnown a2 h1) (fun w4 h3 => (if w4 = 0 then some ((-1), h3) else (if 0 ≤ a3 then bv (fX2_runOf a2 1 a1 h3) (fun h5 => bi (fX1_openedAs 190 a1 a3 h5) (fun w7 h6 => some (w7, h6))) else some ((-1), h3))))))
set_option maxRecDepth 20000 in
theorem tX11_opened (Z : ZT) (a1 : Int32) (a2 : Int32) (a3 : Int32) (hz : HZ Z) (h : Hp) (r : Int32) (hr : Hp) (hF : fX11_opened a1 a2 a3 h = some (r, hr)) : MC Z yX11_opened cX11_opened 4 (some .int) 7 [.ref (Z.2.1 100), .int a1, .int a2, .int a3] h (some (.int r)) hr := by
  unfold fX11_opened at hF
  refine mc_start (by decide) (Nat.le_of_ble_eq_true rfl) (fun G X E => ?_)
  refine j_aload_n (pc := 0) 0 X dX11_opened_0 rfl ?_
  refine j_iload_n (pc := 1) 1 X dX11_opened_1 rfl ?_
  refine j_cVi (pc := 2) (As := [.int a1]) (rest := []) X dX11_opened_2 ml_X11_176 ck_X11_isYear cv_X11_isYear (hz _ sh_100) rfl (Nat.le_of_ble_eq_true rfl) rfl (Nat.le_of_ble_eq_true rfl) rfl hF (tX11_isYear Z a1 hz h) (fun w2 h1 hF => ?_)
  refine j_if_eq (pc := 5) 20 X dX11_opened_5 rfl hF (fun hF => ?_) (fun hF => ?_)
  · refine j_iconst (pc := 20) (-1) X dX11_opened_20 rfl ?_
    exact j_iret (pc := 21) X E dX11_opened_21 hF
  · refine j_aload_n (pc := 8) 0 X dX11_opened_8 rfl ?_
    refine j_iload_n (pc := 9) 2 X dX11_opened_9 rfl ?_
    refine j_cVi (pc := 10) (As := [.int a2]) (rest := []) X dX11_opened_10 ml_X11_215 ck_X11_isKnown cv_X11_isKnown (hz _ sh_100) rfl (Nat.le_of_ble_eq_true rfl) rfl (Nat.le_of_ble_eq_true rfl) rfl hF (tX11_isKnown Z a2 hz h1) (fun w4 h3 hF => ?_)
    refine j_if_eq (pc := 13) 20 X dX11_opened_13 rfl hF (fun hF => ?_) (fun hF => ?_)
    · refine j_iconst (pc := 20) (-1) X dX11_opened_20 rfl ?_
      exact j_iret (pc := 21) X E dX11_opened_21 hF
    · refine j_iload_n (pc := 16) 3 X dX11_opened_16 rfl ?_
      refine j_if_ge (pc := 17) 22 X dX11_opened_17 rfl hF (fun hF => ?_) (fun hF => ?_)
      · refine j_aload_n (pc := 22) 0 X dX11_opened_22 rfl ?_
        refine j_getr (pc := 23) X dX11_opened_23 (hz _ sh_100) fl_X11_67 rfl ?_
        refine j_iload_n (pc := 26) 2 X dX11_opened_26 rfl ?_
        refine j_iconst (pc := 27) 1 X dX11_opened_27 rfl ?_
        refine j_iload_n (pc := 28) 1 X dX11_opened_28 rfl ?_
        refine j_cVr (pc := 29) (As := [.int a2, .int 1, .int a1]) (rest := []) X dX11_opened_29 ml_X11_225 ck_X2_runOf cv_X2_runOf (hz _ sh_181) rfl (Nat.le_of_ble_eq_true rfl) rfl (Nat.le_of_ble_eq_true rfl) rfl hF (tX2_runOf Z a2 1 a1 hz h3) (fun h5 hF => ?_)
        refine j_iload_n (pc := 32) 1 X dX11_opened_32 rfl ?_
        refine j_iload_n (pc := 33) 3 X dX11_opened_33 rfl ?_
        refine j_cVi (pc := 34) (As := [.int a1, .int a3]) (rest := []) X dX11_opened_34 ml_X11_240 ck_X1_openedAs cv_X1_openedAs (hz _ sh_190) rfl (Nat.le_of_ble_eq_true rfl) rfl (Nat.le_of_ble_eq_true rfl) rfl hF (tX1_openedAs Z 190 isC_190 a1 a3 hz h5) (fun w7 h6 hF => ?_)
        exact j_iret (pc := 37) X E dX11_opened_37 hF
      · refine j_iconst (pc := 20) (-1) X dX11_opened_20 rfl ?_
        exact j_iret (pc := 21) X E dX11_opened_21 hF
theorem dX11_why_0 : decode cX11_why 0 = .ok (.aload_n 0, 1) := by decide +kernel
theorem dX11_why_1 : decode cX11_why 1 = .ok (.iload_n 1, 1) := by decide +kernel
theorem dX11_why_2 : decode cX11_why 2 = .ok (.invokevirtual 148, 3) := by decide +kernel
theorem dX11_why_5 : decode cX11_why 5 = .ok (.ifCond .eq 19, 3) := by decide +kernel
theorem dX11_why_8 : decode cX11_why 8 = .ok (.aload_n 0, 1) := by decide +kernel
theorem dX11_why_9 : decode cX11_why 9 = .ok (.iload_n 2, 1) := by decide +kernel
theorem dX11_why_10 : decode cX11_why 10 = .ok (.invokevirtual 176, 3) := by decide +kernel
theorem dX11_why_13 : decode cX11_why 13 = .ok (.ifCond .eq 11, 3) := by decide +kernel
theorem dX11_why_16 : decode cX11_why 16 = .ok (.aload_n 0, 1) := by decide +kernel
theorem dX11_why_17 : decode cX11_why 17 = .ok (.iload_n 3, 1) := by decide +kernel
theorem dX11_why_18 : decode cX11_why 18 = .ok (.invokevirtual 215, 3) := by decide +kernel
theorem dX11_why_21 : decode cX11_why 21 = .ok (.ifCond .ne 5, 3) := by decide +kernel
theorem dX11_why_24 : decode cX11_why 24 = .ok (.iconst (-1), 1) := by decide +kernel
theorem dX11_why_25 : decode cX11_why 25 = .ok (.ireturn, 1) := by decide +kernel
theorem dX11_why_26 : decode cX11_why 26 = .ok (.aload_n 0, 1) := by decide +kernel
theorem dX11_why_27 : decode cX11_why 27 = .ok (.getfield 67, 3) := by decide +kernel
theorem dX11_why_30 : decode cX11_why 30 = .ok (.iload_n 3, 1) := by decide +kernel
theorem dX11_why_31 : decode cX11_why 31 = .ok (.iconst 1, 1) := by decide +kernel
theorem dX11_why_32 : decode cX11_why 32 = .ok (.iload_n 2, 1) := by decide +kernel
theorem dX11_why_33 : decode cX11_why 33 = .ok (.invokevirtual 225, 3) := by decide +kernel
theorem dX11_why_36 : decode cX11_why 36 = .ok (.iload_n 1, 1) := by decide +kernel
theorem dX11_why_37 : decode cX11_why 37 = .ok (.iload_n 2, 1) := by decide +kernel
theorem dX11_why_38 : decode cX11_why 38 = .ok (.invokevirtual 243, 3) := by decide +kernel
theorem dX11_why_41 : decode cX11_why 41 = .ok (.ireturn, 1) := by decide +kernel
def fX11_why (a1 : Int32) (a2 : Int32) (a3 : Int32) (h : Hp) : Option (Int32 × Hp) := bi (fX11_isLetter a1 h) (fun w2 h1 => (if w2 = 0 then some ((-1), h1) else bi (fX11_isYear a2 h1) (fun w4 h3 => (if w4 = 0 then some ((-1), h3) else bi (fX11_isKnown a3 h3) (fun w6 h5 => (if w6 = 0 then some ((-1), h5) else bv (fX2_runOf a3 1 a2 h5) (fun h7 => bi (fX1_reasonOf 190 a1 a2 h7) (fun w9 h8 => some (w9, h8)))))))))
set_option maxRecDepth 20000 in
theorem tX11_why (Z : ZT) (a1 : Int32) (a2 : Int32) (a3 : Int32) (hz : HZ Z) (h : Hp) (r : Int32) (hr : Hp) (hF : fX11_why a1 a2 a3 h = some (r, hr)) : MC Z yX11_why cX11_why 4 (some .int) 7 [.ref (Z.2.1 100), .int a1, .int a2, .int a3] h (some (.int r)) hr := by
  unfold fX11_why at hF
  refine mc_start (by decide) (Nat.le_of_ble_eq_true rfl) (fun G X E => ?_)
  refine j_aload_n (pc := 0) 0 X dX11_why_0 rfl ?_
  refine j_iload_n (pc := 1) 1 X dX11_why_1 rfl ?_
  refine j_cVi (pc := 2) (As := [.int a1]) (rest := []) X dX11_why_2 ml_X11_148 ck_X11_isLetter cv_X11_isLetter (hz _ sh_100) rfl (Nat.le_of_ble_eq_true rfl) rfl (Nat.le_of_ble_eq_true rfl) rfl hF (tX11_isLetter Z a1 hz h) (fun w2 h1 hF => ?_)
  refine j_if_eq (pc := 5) 24 X dX11_why_5 rfl hF (fun hF => ?_) (fun hF => ?_)
  · refine j_iconst (pc := 24) (-1) X dX11_why_24 rfl ?_
    exact j_iret (pc := 25) X E dX11_why_25 hF
  · refine j_aload_n (pc := 8) 0 X dX11_why_8 rfl ?_
    refine j_iload_n (pc := 9) 2 X dX11_why_9 rfl ?_
    refine j_cVi (pc := 10) (As := [.int a2]) (rest := []) X dX11_why_10 ml_X11_176 ck_X11_isYear cv_X11_isYear (hz _ sh_100) rfl (Nat.le_of_ble_eq_true rfl) rfl (Nat.le_of_ble_eq_true rfl) rfl hF (tX11_isYear Z a2 hz h1) (fun w4 h3 hF => ?_)
    refine j_if_eq (pc := 13) 24 X dX11_why_13 rfl hF (fun hF => ?_) (fun hF => ?_)
    · refine j_iconst (pc := 24) (-1) X dX11_why_24 rfl ?_
      exact j_iret (pc := 25) X E dX11_why_25 hF
    · refine j_aload_n (pc := 16) 0 X dX11_why_16 rfl ?_
      refine j_iload_n (pc := 17) 3 X dX11_why_17 rfl ?_
      refine j_cVi (pc := 18) (As := [.int a3]) (rest := []) X dX11_why_18 ml_X11_215 ck_X11_isKnown cv_X11_isKnown (hz _ sh_100) rfl (Nat.le_of_ble_eq_true rfl) rfl (Nat.le_of_ble_eq_true rfl) rfl hF (tX11_isKnown Z a3 hz h3) (fun w6 h5 hF => ?_)
      refine j_if_ne (pc := 21) 26 X dX11_why_21 rfl hF (fun hF => ?_) (fun hF => ?_)
      · refine j_aload_n (pc := 26) 0 X dX11_why_26 rfl ?_
        refine j_getr (pc := 27) X dX11_why_27 (hz _ sh_100) fl_X11_67 rfl ?_
        refine j_iload_n (pc := 30) 3 X dX11_why_30 rfl ?_
        refine j_iconst (pc := 31) 1 X dX11_why_31 rfl ?_
        refine j_iload_n (pc := 32) 2 X dX11_why_32 rfl ?_
        refine j_cVr (pc := 33) (As := [.int a3, .int 1, .int a2]) (rest := []) X dX11_why_33 ml_X11_225 ck_X2_runOf cv_X2_runOf (hz _ sh_181) rfl (Nat.le_of_ble_eq_true rfl) rfl (Nat.le_of_ble_eq_true rfl) rfl hF (tX2_runOf Z a3 1 a2 hz h5) (fun h7 hF => ?_)
        refine j_iload_n (pc := 36) 1 X dX11_why_36 rfl ?_
        refine j_iload_n (pc := 37) 2 X dX11_why_37 rfl ?_
        refine j_cVi (pc := 38) (As := [.int a1, .int a2]) (rest := []) X dX11_why_38 ml_X11_243 ck_X1_reasonOf cv_X1_reasonOf (hz _ sh_190) rfl (Nat.le_of_ble_eq_true rfl) rfl (Nat.le_of_ble_eq_true rfl) rfl hF (tX1_reasonOf Z 190 isC_190 a1 a2 hz h7) (fun w9 h8 hF => ?_)
        exact j_iret (pc := 41) X E dX11_why_41 hF
      · refine j_iconst (pc := 24) (-1) X dX11_why_24 rfl ?_
        exact j_iret (pc := 25) X E dX11_why_25 hF
theorem dX11_harm_0 : decode cX11_harm 0 = .ok (.aload_n 0, 1) := by decide +kernel
theorem dX11_harm_1 : decode cX11_harm 1 = .ok (.iload_n 1, 1) := by decide +kernel
theorem dX11_harm_2 : decode cX11_harm 2 = .ok (.invokevirtual 215, 3) := by decide +kernel
theorem dX11_harm_5 : decode cX11_harm 5 = .ok (.ifCond .eq 20, 3) := by decide +kernel
theorem dX11_harm_8 : decode cX11_harm 8 = .ok (.aload_n 0, 1) := by decide +kernel
theorem dX11_harm_9 : decode cX11_harm 9 = .ok (.getfield 67, 3) := by decide +kernel
theorem dX11_harm_12 : decode cX11_harm 12 = .ok (.iload_n 1, 1) := by decide +kernel
theorem dX11_harm_13 : decode cX11_harm 13 = .ok (.iconst 1, 1) := by decide +kernel
theorem dX11_harm_14 : decode cX11_harm 14 = .ok (.bipush 59, 2) := by decide +kernel
theorem dX11_harm_16 : decode cX11_harm 16 = .ok (.invokevirtual 225, 3) := by decide +kernel
theorem dX11_harm_19 : decode cX11_harm 19 = .ok (.getfield 246, 3) := by decide +kernel
theorem dX11_harm_22 : decode cX11_harm 22 = .ok (.goto 4, 3) := by decide +kernel
theorem dX11_harm_25 : decode cX11_harm 25 = .ok (.iconst (-1), 1) := by decide +kernel
theorem dX11_harm_26 : decode cX11_harm 26 = .ok (.ireturn, 1) := by decide +kernel
def fX11_harm (a1 : Int32) (h : Hp) : Option (Int32 × Hp) := bi (fX11_isKnown a1 h) (fun w2 h1 => (if w2 = 0 then some ((-1), h1) else bv (fX2_runOf a1 1 59 h1) (fun h3 => some ((h3.1 190 13), h3))))
set_option maxRecDepth 20000 in
theorem tX11_harm (Z : ZT) (a1 : Int32) (hz : HZ Z) (h : Hp) (r : Int32) (hr : Hp) (hF : fX11_harm a1 h = some (r, hr)) : MC Z yX11_harm cX11_harm 2 (some .int) 7 [.ref (Z.2.1 100), .int a1] h (some (.int r)) hr := by
  unfold fX11_harm at hF
  refine mc_start (by decide) (Nat.le_of_ble_eq_true rfl) (fun G X E => ?_)
  refine j_aload_n (pc := 0) 0 X dX11_harm_0 rfl ?_
  refine j_iload_n (pc := 1) 1 X dX11_harm_1 rfl ?_
  refine j_cVi (pc := 2) (As := [.int a1]) (rest := []) X dX11_harm_2 ml_X11_215 ck_X11_isKnown cv_X11_isKnown (hz _ sh_100) rfl (Nat.le_of_ble_eq_true rfl) rfl (Nat.le_of_ble_eq_true rfl) rfl hF (tX11_isKnown Z a1 hz h) (fun w2 h1 hF => ?_)
  refine j_if_eq (pc := 5) 25 X dX11_harm_5 rfl hF (fun hF => ?_) (fun hF => ?_)
  · refine j_iconst (pc := 25) (-1) X dX11_harm_25 rfl ?_
    exact j_iret (pc := 26) X E dX11_harm_26 hF
  · refine j_aload_n (pc := 8) 0 X dX11_harm_8 rfl ?_
    refine j_getr (pc := 9) X dX11_harm_9 (hz _ sh_100) fl_X11_67 rfl ?_
    refine j_iload_n (pc := 12) 1 X dX11_harm_12 rfl ?_
    refine j_iconst (pc := 13) 1 X dX11_harm_13 rfl ?_
    refine j_bipush (pc := 14) 59 X dX11_harm_14 rfl ?_
    refine j_cVr (pc := 16) (As := [.int a1, .int 1, .int 59]) (rest := []) X dX11_harm_16 ml_X11_225 ck_X2_runOf cv_X2_runOf (hz _ sh_181) rfl (Nat.le_of_ble_eq_true rfl) rfl (Nat.le_of_ble_eq_true rfl) rfl hF (tX2_runOf Z a1 1 59 hz h1) (fun h3 hF => ?_)
    refine j_geti (pc := 19) X dX11_harm_19 (hz _ sh_190) fl_X11_246 rfl ?_
    refine j_goto (pc := 22) 26 X dX11_harm_22 rfl ?_
    exact j_iret (pc := 26) X E dX11_harm_26 hF
theorem dX11_tooSoon_0 : decode cX11_tooSoon 0 = .ok (.aload_n 0, 1) := by decide +kernel
theorem dX11_tooSoon_1 : decode cX11_tooSoon 1 = .ok (.iload_n 1, 1) := by decide +kernel
theorem dX11_tooSoon_2 : decode cX11_tooSoon 2 = .ok (.invokevirtual 215, 3) := by decide +kernel
theorem dX11_tooSoon_5 : decode cX11_tooSoon 5 = .ok (.ifCond .eq 14, 3) := by decide +kernel
theorem dX11_tooSoon_8 : decode cX11_tooSoon 8 = .ok (.aload_n 0, 1) := by decide +kernel
theorem dX11_tooSoon_9 : decode cX11_tooSoon 9 = .ok (.getfield 67, 3) := by decide +kernel
theorem dX11_tooSoon_12 : decode cX11_tooSoon 12 = .ok (.iload_n 1, 1) := by decide +kernel
theorem dX11_tooSoon_13 : decode cX11_tooSoon 13 = .ok (.invokevirtual 249, 3) := by decide +kernel
theorem dX11_tooSoon_16 : decode cX11_tooSoon 16 = .ok (.goto 4, 3) := by decide +kernel
theorem dX11_tooSoon_19 : decode cX11_tooSoon 19 = .ok (.iconst (-1), 1) := by decide +kernel
theorem dX11_tooSoon_20 : decode cX11_tooSoon 20 = .ok (.ireturn, 1) := by decide +kernel
def fX11_tooSoon (a1 : Int32) (h : Hp) : Option (Int32 × Hp) := bi (fX11_isKnown a1 h) (fun w2 h1 => (if w2 = 0 then some ((-1), h1) else bi (fX2_soonerThanTruth a1 h1) (fun w4 h3 => some (w4, h3))))
set_option maxRecDepth 20000 in
theorem tX11_tooSoon (Z : ZT) (a1 : Int32) (hz : HZ Z) (h : Hp) (r : Int32) (hr : Hp) (hF : fX11_tooSoon a1 h = some (r, hr)) : MC Z yX11_tooSoon cX11_tooSoon 2 (some .int) 7 [.ref (Z.2.1 100), .int a1] h (some (.int r)) hr := by
  unfold fX11_tooSoon at hF
  refine mc_start (by decide) (Nat.le_of_ble_eq_true rfl) (fun G X E => ?_)
  refine j_aload_n (pc := 0) 0 X dX11_tooSoon_0 rfl ?_
  refine j_iload_n (pc := 1) 1 X dX11_tooSoon_1 rfl ?_
  refine j_cVi (pc := 2) (As := [.int a1]) (rest := []) X dX11_tooSoon_2 ml_X11_215 ck_X11_isKnown cv_X11_isKnown (hz _ sh_100) rfl (Nat.le_of_ble_eq_true rfl) rfl (Nat.le_of_ble_eq_true rfl) rfl hF (tX11_isKnown Z a1 hz h) (fun w2 h1 hF => ?_)
  refine j_if_eq (pc := 5) 19 X dX11_tooSoon_5 rfl hF (fun hF => ?_) (fun hF => ?_)
  · refine j_iconst (pc := 19) (-1) X dX11_tooSoon_19 rfl ?_
    exact j_iret (pc := 20) X E dX11_tooSoon_20 hF
  · refine j_aload_n (pc := 8) 0 X dX11_tooSoon_8 rfl ?_
    refine j_getr (pc := 9) X dX11_tooSoon_9 (hz _ sh_100) fl_X11_67 rfl ?_
    refine j_iload_n (pc := 12) 1 X dX11_tooSoon_12 rfl ?_
    refine j_cVi (pc := 13) (As := [.int a1]) (rest := []) X dX11_tooSoon_13 ml_X11_249 ck_X2_soonerThanTruth cv_X2_soonerThanTruth (hz _ sh_181) rfl (Nat.le_of_ble_eq_true rfl) rfl (Nat.le_of_ble_eq_true rfl) rfl hF (tX2_soonerThanTruth Z a1 hz h1) (fun w4 h3 hF => ?_)
    refine j_goto (pc := 16) 20 X dX11_tooSoon_16 rfl ?_
    exact j_iret (pc := 20) X E dX11_tooSoon_20 hF
theorem dX11_wrong_0 : decode cX11_wrong 0 = .ok (.aload_n 0, 1) := by decide +kernel
theorem dX11_wrong_1 : decode cX11_wrong 1 = .ok (.iload_n 1, 1) := by decide +kernel
theorem dX11_wrong_2 : decode cX11_wrong 2 = .ok (.invokevirtual 176, 3) := by decide +kernel
theorem dX11_wrong_5 : decode cX11_wrong 5 = .ok (.ifCond .eq 20, 3) := by decide +kernel
theorem dX11_wrong_8 : decode cX11_wrong 8 = .ok (.aload_n 0, 1) := by decide +kernel
theorem dX11_wrong_9 : decode cX11_wrong 9 = .ok (.iload_n 2, 1) := by decide +kernel
theorem dX11_wrong_10 : decode cX11_wrong 10 = .ok (.invokevirtual 215, 3) := by decide +kernel
theorem dX11_wrong_13 : decode cX11_wrong 13 = .ok (.ifCond .eq 12, 3) := by decide +kernel
theorem dX11_wrong_16 : decode cX11_wrong 16 = .ok (.iload_n 3, 1) := by decide +kernel
theorem dX11_wrong_17 : decode cX11_wrong 17 = .ok (.iconst 0, 1) := by decide +kernel
theorem dX11_wrong_18 : decode cX11_wrong 18 = .ok (.iconst 1, 1) := by decide +kernel
theorem dX11_wrong_19 : decode cX11_wrong 19 = .ok (.invokestatic 106, 3) := by decide +kernel
theorem dX11_wrong_22 : decode cX11_wrong 22 = .ok (.ifCond .ne 5, 3) := by decide +kernel
theorem dX11_wrong_25 : decode cX11_wrong 25 = .ok (.iconst (-1), 1) := by decide +kernel
theorem dX11_wrong_26 : decode cX11_wrong 26 = .ok (.ireturn, 1) := by decide +kernel
theorem dX11_wrong_27 : decode cX11_wrong 27 = .ok (.iconst 0, 1) := by decide +kernel
theorem dX11_wrong_28 : decode cX11_wrong 28 = .ok (.istore 4, 2) := by decide +kernel
theorem dX11_wrong_30 : decode cX11_wrong 30 = .ok (.iconst 0, 1) := by decide +kernel
theorem dX11_wrong_31 : decode cX11_wrong 31 = .ok (.istore 5, 2) := by decide +kernel
theorem dX11_wrong_33 : decode cX11_wrong 33 = .ok (.iload 5, 2) := by decide +kernel
theorem dX11_wrong_35 : decode cX11_wrong 35 = .ok (.aload_n 0, 1) := by decide +kernel
theorem dX11_wrong_36 : decode cX11_wrong 36 = .ok (.getfield 26, 3) := by decide +kernel
theorem dX11_wrong_39 : decode cX11_wrong 39 = .ok (.getfield 103, 3) := by decide +kernel
theorem dX11_wrong_42 : decode cX11_wrong 42 = .ok (.if_icmp .ge 39, 3) := by decide +kernel
theorem dX11_wrong_45 : decode cX11_wrong 45 = .ok (.aload_n 0, 1) := by decide +kernel
theorem dX11_wrong_46 : decode cX11_wrong 46 = .ok (.getfield 54, 3) := by decide +kernel
theorem dX11_wrong_49 : decode cX11_wrong 49 = .ok (.iload 5, 2) := by decide +kernel
theorem dX11_wrong_51 : decode cX11_wrong 51 = .ok (.iload_n 1, 1) := by decide +kernel
theorem dX11_wrong_52 : decode cX11_wrong 52 = .ok (.iload_n 2, 1) := by decide +kernel
theorem dX11_wrong_53 : decode cX11_wrong 53 = .ok (.invokevirtual 218, 3) := by decide +kernel
theorem dX11_wrong_56 : decode cX11_wrong 56 = .ok (.aload_n 0, 1) := by decide +kernel
theorem dX11_wrong_57 : decode cX11_wrong 57 = .ok (.getfield 26, 3) := by decide +kernel
theorem dX11_wrong_60 : decode cX11_wrong 60 = .ok (.getfield 252, 3) := by decide +kernel
theorem dX11_wrong_63 : decode cX11_wrong 63 = .ok (.if_icmp .lt 12, 3) := by decide +kernel
theorem dX11_wrong_66 : decode cX11_wrong 66 = .ok (.iload 4, 2) := by decide +kernel
theorem dX11_wrong_68 : decode cX11_wrong 68 = .ok (.iconst 1, 1) := by decide +kernel
theorem dX11_wrong_69 : decode cX11_wrong 69 = .ok (.iload 5, 2) := by decide +kernel
theorem dX11_wrong_71 : decode cX11_wrong 71 = .ok (.ishl, 1) := by decide +kernel
theorem dX11_wrong_72 : decode cX11_wrong 72 = .ok (.ior, 1) := by decide +kernel
theorem dX11_wrong_73 : decode cX11_wrong 73 = .ok (.istore 4, 2) := by decide +kernel
theorem dX11_wrong_75 : decode cX11_wrong 75 = .ok (.iinc 5 1, 3) := by decide +kernel
theorem dX11_wrong_78 : decode cX11_wrong 78 = .ok (.goto (-45), 3) := by decide +kernel
theorem dX11_wrong_81 : decode cX11_wrong 81 = .ok (.aload_n 0, 1) := by decide +kernel
theorem dX11_wrong_82 : decode cX11_wrong 82 = .ok (.getfield 54, 3) := by decide +kernel
theorem dX11_wrong_85 : decode cX11_wrong 85 = .ok (.iload_n 1, 1) := by decide +kernel
theorem dX11_wrong_86 : decode cX11_wrong 86 = .ok (.iload_n 2, 1) := by decide +kernel
theorem dX11_wrong_87 : decode cX11_wrong 87 = .ok (.invokevirtual 255, 3) := by decide +kernel
theorem dX11_wrong_90 : decode cX11_wrong 90 = .ok (.istore 5, 2) := by decide +kernel
theorem dX11_wrong_92 : decode cX11_wrong 92 = .ok (.iload_n 3, 1) := by decide +kernel
theorem dX11_wrong_93 : decode cX11_wrong 93 = .ok (.ifCond .ne 13, 3) := by decide +kernel
theorem dX11_wrong_96 : decode cX11_wrong 96 = .ok (.iload 4, 2) := by decide +kernel
theorem dX11_wrong_98 : decode cX11_wrong 98 = .ok (.iload 5, 2) := by decide +kernel
theorem dX11_wrong_100 : decode cX11_wrong 100 = .ok (.iconst (-1), 1) := by decide +kernel
theorem dX11_wrong_101 : decode cX11_wrong 101 = .ok (.ixor, 1) := by decide +kernel
theorem dX11_wrong_102 : decode cX11_wrong 102 = .ok (.iand, 1) := by decide +kernel
theorem dX11_wrong_103 : decode cX11_wrong 103 = .ok (.goto 10, 3) := by decide +kernel
theorem dX11_wrong_106 : decode cX11_wrong 106 = .ok (.iload 5, 2) := by decide +kernel
theorem dX11_wrong_108 : decode cX11_wrong 108 = .ok (.iload 4, 2) := by decide +kernel
theorem dX11_wrong_110 : decode cX11_wrong 110 = .ok (.iconst (-1), 1) := by decide +kernel
theorem dX11_wrong_111 : decode cX11_wrong 111 = .ok (.ixor, 1) := by decide +kernel
theorem dX11_wrong_112 : decode cX11_wrong 112 = .ok (.iand, 1) := by decide +kernel
theorem dX11_wrong_113 : decode cX11_wrong 113 = .ok (.ireturn, 1) := by decide +kernel
def bX11_wrong_75  (r33 : Int32 → Int32 → Int32 → Int32 → Int32 → Hp → Option (Int32 × Hp)) (x1 : Int32) (x2 : Int32) (x3 : Int32) (x4 : Int32) (x5 : Int32) (h : Hp) : Option (Int32 × Hp) := lt (x5 + 1) (fun v1 => r33 x1 x2 x3 x4 v1 h)
set_option maxRecDepth 20000 in
theorem BX11_wrong_75 {Z : ZT} {G : GT} {r : Int32} {hr : Hp} (X : CX Z G cX11_wrong RX11 6 3) (E : RX Z G (some .int) (some (.int r)) hr) (hz : HZ Z) (r33 : Int32 → Int32 → Int32 → Int32 → Int32 → Hp → Option (Int32 × Hp)) (hr33 : ∀ (x1 : Int32) (x2 : Int32) (x3 : Int32) (x4 : Int32) (x5 : Int32) (h : Hp), r33 x1 x2 x3 x4 x5 h = some (r, hr) → J Z G 6 h 33 [(0, .ref (Z.2.1 100)), (1, .int x1), (2, .int x2), (3, .int x3), (4, .int x4), (5, .int x5)] []) (x1 : Int32) (x2 : Int32) (x3 : Int32) (x4 : Int32) (x5 : Int32) (h : Hp) (hF : bX11_wrong_75  r33 x1 x2 x3 x4 x5 h = some (r, hr)) : J Z G 6 h 75 [(0, .ref (Z.2.1 100)), (1, .int x1), (2, .int x2), (3, .int x3), (4, .int x4), (5, .int x5)] [] := by
  unfold bX11_wrong_75 at hF
  refine j_iinc (pc := 75) 5 (x5 + 1) (fun y => [(5, .int y), (0, .ref (Z.2.1 100)), (1, .int x1), (2, .int x2), (3, .int x3), (4, .int x4)]) X dX11_wrong_75 rfl rfl (by decide) (fun _ => rfl) hF (fun v1 hF => ?_)
  refine j_goto (pc := 78) 33 X dX11_wrong_78 rfl ?_
  refine j_lv [(0, .ref (Z.2.1 100)), (1, .int x1), (2, .int x2), (3, .int x3), (4, .int x4), (5, .int v1)] [1, 2, 3, 4, 5, 0] rfl ?_
  exact hr33 x1 x2 x3 x4 v1 h hF
def bX11_wrong_33   (r33 : Int32 → Int32 → Int32 → Int32 → Int32 → Hp → Option (Int32 × Hp)) (x1 : Int32) (x2 : Int32) (x3 : Int32) (x4 : Int32) (x5 : Int32) (h : Hp) : Option (Int32 × Hp) := (if (h.1 108 6) ≤ x5 then bi (fX3_diedBy x1 x2 h) (fun w2 h1 => lt w2 (fun v3 => (if x3 = 0 then some ((x4 &&& (v3 ^^^ (-1))), h1) else some ((v3 &&& (x4 ^^^ (-1))), h1)))) else bi (fX3_weightOf x5 x1 x2 h) (fun w5 h4 => (if w5 < (h4.1 108 10) then bX11_wrong_75 r33 x1 x2 x3 x4 x5 h4 else lt (x4 ||| ((1 : Int32) <<< (x5 &&& 31))) (fun v6 => bX11_wrong_75 r33 x1 x2 x3 v6 x5 h4))))
def lX11_wrong_33   : Nat → Int32 → Int32 → Int32 → Int32 → Int32 → Hp → Option (Int32 × Hp)
  | 0 => fun _ _ _ _ _ _ => none
  | n + 1 => bX11_wrong_33   (lX11_wrong_33   n)
set_option maxRecDepth 20000 in
theorem BX11_wrong_33 {Z : ZT} {G : GT} {r : Int32} {hr : Hp} (X : CX Z G cX11_wrong RX11 6 3) (E : RX Z G (some .int) (some (.int r)) hr) (hz : HZ Z)  (r33 : Int32 → Int32 → Int32 → Int32 → Int32 → Hp → Option (Int32 × Hp)) (hr33 : ∀ (x1 : Int32) (x2 : Int32) (x3 : Int32) (x4 : Int32) (x5 : Int32) (h : Hp), r33 x1 x2 x3 x4 x5 h = some (r, hr) → J Z G 6 h 33 [(0, .ref (Z.2.1 100)), (1, .int x1), (2, .int x2), (3, .int x3), (4, .int x4), (5, .int x5)] []) (x1 : Int32) (x2 : Int32) (x3 : Int32) (x4 : Int32) (x5 : Int32) (h : Hp) (hF : bX11_wrong_33   r33 x1 x2 x3 x4 x5 h = some (r, hr)) : J Z G 6 h 33 [(0, .ref (Z.2.1 100)), (1, .int x1), (2, .int x2), (3, .int x3), (4, .int x4), (5, .int x5)] [] := by
  unfold bX11_wrong_33 at hF
  refine j_iload (pc := 33) 5 X dX11_wrong_33 rfl ?_
  refine j_aload_n (pc := 35) 0 X dX11_wrong_35 rfl ?_
  refine j_getr (pc := 36) X dX11_wrong_36 (hz _ sh_100) fl_X11_26 rfl ?_
  refine j_geti (pc := 39) X dX11_wrong_39 (hz _ sh_108) fl_X11_103 rfl ?_
  refine j_icmp_ge (pc := 42) 81 X dX11_wrong_42 rfl hF (fun hF => ?_) (fun hF => ?_)
  · refine j_aload_n (pc := 81) 0 X dX11_wrong_81 rfl ?_
    refine j_getr (pc := 82) X dX11_wrong_82 (hz _ sh_100) fl_X11_54 rfl ?_
    refine j_iload_n (pc := 85) 1 X dX11_wrong_85 rfl ?_
    refine j_iload_n (pc := 86) 2 X dX11_wrong_86 rfl ?_
    refine j_cVi (pc := 87) (As := [.int x1, .int x2]) (rest := []) X dX11_wrong_87 ml_X11_255 ck_X3_diedBy cv_X3_diedBy (hz _ sh_152) rfl (Nat.le_of_ble_eq_true rfl) rfl (Nat.le_of_ble_eq_true rfl) rfl hF (tX3_diedBy Z x1 x2 hz h) (fun w2 h1 hF => ?_)
    refine j_istore (pc := 90) (fun y => [(5, .int y), (0, .ref (Z.2.1 100)), (1, .int x1), (2, .int x2), (3, .int x3), (4, .int x4)]) X dX11_wrong_90 (by decide) (fun _ => rfl) hF (fun v3 hF => ?_)
    refine j_iload_n (pc := 92) 4 X dX11_wrong_92 rfl ?_
    refine j_if_ne (pc := 93) 106 X dX11_wrong_93 rfl hF (fun hF => ?_) (fun hF => ?_)
    · refine j_iload (pc := 106) 0 X dX11_wrong_106 rfl ?_
      refine j_iload (pc := 108) 5 X dX11_wrong_108 rfl ?_
      refine j_iconst (pc := 110) (-1) X dX11_wrong_110 rfl ?_
      refine j_ixor (pc := 111) X dX11_wrong_111 ?_
      refine j_iand (pc := 112) X dX11_wrong_112 ?_
      exact j_iret (pc := 113) X E dX11_wrong_113 hF
    · refine j_iload (pc := 96) 5 X dX11_wrong_96 rfl ?_
      refine j_iload (pc := 98) 0 X dX11_wrong_98 rfl ?_
      refine j_iconst (pc := 100) (-1) X dX11_wrong_100 rfl ?_
      refine j_ixor (pc := 101) X dX11_wrong_101 ?_
      refine j_iand (pc := 102) X dX11_wrong_102 ?_
      refine j_goto (pc := 103) 113 X dX11_wrong_103 rfl ?_
      exact j_iret (pc := 113) X E dX11_wrong_113 hF
  · refine j_aload_n (pc := 45) 0 X dX11_wrong_45 rfl ?_
    refine j_getr (pc := 46) X dX11_wrong_46 (hz _ sh_100) fl_X11_54 rfl ?_
    refine j_iload (pc := 49) 5 X dX11_wrong_49 rfl ?_
    refine j_iload_n (pc := 51) 1 X dX11_wrong_51 rfl ?_
    refine j_iload_n (pc := 52) 2 X dX11_wrong_52 rfl ?_
    refine j_cVi (pc := 53) (As := [.int x5, .int x1, .int x2]) (rest := []) X dX11_wrong_53 ml_X11_218 ck_X3_weightOf cv_X3_weightOf (hz _ sh_152) rfl (Nat.le_of_ble_eq_true rfl) rfl (Nat.le_of_ble_eq_true rfl) rfl hF (tX3_weightOf Z x5 x1 x2 hz h) (fun w5 h4 hF => ?_)
    refine j_aload_n (pc := 56) 0 X dX11_wrong_56 rfl ?_
    refine j_getr (pc := 57) X dX11_wrong_57 (hz _ sh_100) fl_X11_26 rfl ?_
    refine j_geti (pc := 60) X dX11_wrong_60 (hz _ sh_108) fl_X11_252 rfl ?_
    refine j_icmp_lt (pc := 63) 75 X dX11_wrong_63 rfl hF (fun hF => ?_) (fun hF => ?_)
    · exact BX11_wrong_75 X E hz r33 hr33 x1 x2 x3 x4 x5 h4 hF
    · refine j_iload (pc := 66) 4 X dX11_wrong_66 rfl ?_
      refine j_iconst (pc := 68) 1 X dX11_wrong_68 rfl ?_
      refine j_iload (pc := 69) 5 X dX11_wrong_69 rfl ?_
      refine j_ishl (pc := 71) X dX11_wrong_71 ?_
      refine j_ior (pc := 72) X dX11_wrong_72 ?_
      refine j_istore (pc := 73) (fun y => [(4, .int y), (0, .ref (Z.2.1 100)), (1, .int x1), (2, .int x2), (3, .int x3), (5, .int x5)]) X dX11_wrong_73 (by decide) (fun _ => rfl) hF (fun v6 hF => ?_)
      refine j_lv [(0, .ref (Z.2.1 100)), (1, .int x1), (2, .int x2), (3, .int x3), (4, .int v6), (5, .int x5)] [1, 2, 3, 4, 0, 5] rfl ?_
      exact BX11_wrong_75 X E hz r33 hr33 x1 x2 x3 v6 x5 h4 hF
theorem LX11_wrong_33 {Z : ZT} {G : GT} {r : Int32} {hr : Hp} (X : CX Z G cX11_wrong RX11 6 3) (E : RX Z G (some .int) (some (.int r)) hr) (hz : HZ Z)  : ∀ (n : Nat) (x1 : Int32) (x2 : Int32) (x3 : Int32) (x4 : Int32) (x5 : Int32) (h : Hp), lX11_wrong_33   n x1 x2 x3 x4 x5 h = some (r, hr) → J Z G 6 h 33 [(0, .ref (Z.2.1 100)), (1, .int x1), (2, .int x2), (3, .int x3), (4, .int x4), (5, .int x5)] [] := by
  intro n
  induction n with
  | zero => intro x1 x2 x3 x4 x5 h hF; cases hF
  | succ n ih => intro x1 x2 x3 x4 x5 h hF; exact BX11_wrong_33 X E hz  (lX11_wrong_33   n) ih x1 x2 x3 x4 x5 h hF
def fX11_wrong (a1 : Int32) (a2 : Int32) (a3 : Int32) (h : Hp) : Option (Int32 × Hp) := bi (fX11_isYear a1 h) (fun w2 h1 => (if w2 = 0 then some ((-1), h1) else bi (fX11_isKnown a2 h1) (fun w4 h3 => (if w4 = 0 then some ((-1), h3) else bi (fX11_within a3 0 1 h3) (fun w6 h5 => (if w6 = 0 then some ((-1), h5) else lt 0 (fun v7 => lt 0 (fun v8 => lX11_wrong_33 FU a1 a2 a3 v7 v8 h5))))))))
set_option maxRecDepth 20000 in
theorem tX11_wrong (Z : ZT) (a1 : Int32) (a2 : Int32) (a3 : Int32) (hz : HZ Z) (h : Hp) (r : Int32) (hr : Hp) (hF : fX11_wrong a1 a2 a3 h = some (r, hr)) : MC Z yX11_wrong cX11_wrong 6 (some .int) 3 [.ref (Z.2.1 100), .int a1, .int a2, .int a3] h (some (.int r)) hr := by
  unfold fX11_wrong at hF
  refine mc_start (by decide) (Nat.le_of_ble_eq_true rfl) (fun G X E => ?_)
  refine j_aload_n (pc := 0) 0 X dX11_wrong_0 rfl ?_
  refine j_iload_n (pc := 1) 1 X dX11_wrong_1 rfl ?_
  refine j_cVi (pc := 2) (As := [.int a1]) (rest := []) X dX11_wrong_2 ml_X11_176 ck_X11_isYear cv_X11_isYear (hz _ sh_100) rfl (Nat.le_of_ble_eq_true rfl) rfl (Nat.le_of_ble_eq_true rfl) rfl hF (tX11_isYear Z a1 hz h) (fun w2 h1 hF => ?_)
  refine j_if_eq (pc := 5) 25 X dX11_wrong_5 rfl hF (fun hF => ?_) (fun hF => ?_)
  · refine j_iconst (pc := 25) (-1) X dX11_wrong_25 rfl ?_
    exact j_iret (pc := 26) X E dX11_wrong_26 hF
  · refine j_aload_n (pc := 8) 0 X dX11_wrong_8 rfl ?_
    refine j_iload_n (pc := 9) 2 X dX11_wrong_9 rfl ?_
    refine j_cVi (pc := 10) (As := [.int a2]) (rest := []) X dX11_wrong_10 ml_X11_215 ck_X11_isKnown cv_X11_isKnown (hz _ sh_100) rfl (Nat.le_of_ble_eq_true rfl) rfl (Nat.le_of_ble_eq_true rfl) rfl hF (tX11_isKnown Z a2 hz h1) (fun w4 h3 hF => ?_)
    refine j_if_eq (pc := 13) 25 X dX11_wrong_13 rfl hF (fun hF => ?_) (fun hF => ?_)
    · refine j_iconst (pc := 25) (-1) X dX11_wrong_25 rfl ?_
      exact j_iret (pc := 26) X E dX11_wrong_26 hF
    · refine j_iload_n (pc := 16) 3 X dX11_wrong_16 rfl ?_
      refine j_iconst (pc := 17) 0 X dX11_wrong_17 rfl ?_
      refine j_iconst (pc := 18) 1 X dX11_wrong_18 rfl ?_
      refine j_cSi (pc := 19) (As := [.int a3, .int 0, .int 1]) (rest := []) X dX11_wrong_19 ml_X11_106 ck_X11_within sk_X11_within (Nat.le_of_ble_eq_true rfl) rfl (Nat.le_of_ble_eq_true rfl) rfl hF (tX11_within Z a3 0 1 trivial h3) (fun w6 h5 hF => ?_)
      refine j_if_ne (pc := 22) 27 X dX11_wrong_22 rfl hF (fun hF => ?_) (fun hF => ?_)
      · refine j_iconst (pc := 27) 0 X dX11_wrong_27 rfl ?_
        refine j_istore (pc := 28) (fun y => [(4, .int y), (0, .ref (Z.2.1 100)), (1, .int a1), (2, .int a2), (3, .int a3)]) X dX11_wrong_28 (by decide) (fun _ => rfl) hF (fun v7 hF => ?_)
        refine j_iconst (pc := 30) 0 X dX11_wrong_30 rfl ?_
        refine j_istore (pc := 31) (fun y => [(5, .int y), (4, .int v7), (0, .ref (Z.2.1 100)), (1, .int a1), (2, .int a2), (3, .int a3)]) X dX11_wrong_31 (by decide) (fun _ => rfl) hF (fun v8 hF => ?_)
        refine j_lv [(0, .ref (Z.2.1 100)), (1, .int a1), (2, .int a2), (3, .int a3), (4, .int v7), (5, .int v8)] [2, 3, 4, 5, 1, 0] rfl ?_
        exact LX11_wrong_33 X E hz FU a1 a2 a3 v7 v8 h5 hF
      · refine j_iconst (pc := 25) (-1) X dX11_wrong_25 rfl ?_
        exact j_iret (pc := 26) X E dX11_wrong_26 hF
theorem dX11_late_0 : decode cX11_late 0 = .ok (.aload_n 0, 1) := by decide +kernel
theorem dX11_late_1 : decode cX11_late 1 = .ok (.iload_n 1, 1) := by decide +kernel
theorem dX11_late_2 : decode cX11_late 2 = .ok (.invokevirtual 148, 3) := by decide +kernel
theorem dX11_late_5 : decode cX11_late 5 = .ok (.ifCond .eq 19, 3) := by decide +kernel
theorem dX11_late_8 : decode cX11_late 8 = .ok (.aload_n 0, 1) := by decide +kernel
theorem dX11_late_9 : decode cX11_late 9 = .ok (.iload_n 2, 1) := by decide +kernel
theorem dX11_late_10 : decode cX11_late 10 = .ok (.invokevirtual 215, 3) := by decide +kernel
theorem dX11_late_13 : decode cX11_late 13 = .ok (.ifCond .eq 11, 3) := by decide +kernel
theorem dX11_late_16 : decode cX11_late 16 = .ok (.aload_n 0, 1) := by decide +kernel
theorem dX11_late_17 : decode cX11_late 17 = .ok (.iload_n 3, 1) := by decide +kernel
theorem dX11_late_18 : decode cX11_late 18 = .ok (.invokevirtual 222, 3) := by decide +kernel
theorem dX11_late_21 : decode cX11_late 21 = .ok (.ifCond .ne 5, 3) := by decide +kernel
theorem dX11_late_24 : decode cX11_late 24 = .ok (.iconst (-1), 1) := by decide +kernel
theorem dX11_late_25 : decode cX11_late 25 = .ok (.ireturn, 1) := by decide +kernel
theorem dX11_late_26 : decode cX11_late 26 = .ok (.aload_n 0, 1) := by decide +kernel
theorem dX11_late_27 : decode cX11_late 27 = .ok (.getfield 67, 3) := by decide +kernel
theorem dX11_late_30 : decode cX11_late 30 = .ok (.iload_n 2, 1) := by decide +kernel
theorem dX11_late_31 : decode cX11_late 31 = .ok (.iload_n 3, 1) := by decide +kernel
theorem dX11_late_32 : decode cX11_late 32 = .ok (.invokevirtual 258, 3) := by decide +kernel
theorem dX11_late_35 : decode cX11_late 35 = .ok (.aload_n 0, 1) := by decide +kernel
theorem dX11_late_36 : decode cX11_late 36 = .ok (.getfield 67, 3) := by decide +kernel
theorem dX11_late_39 : decode cX11_late 39 = .ok (.iload_n 1, 1) := by decide +kernel
theorem dX11_late_40 : decode cX11_late 40 = .ok (.invokevirtual 262, 3) := by decide +kernel
theorem dX11_late_43 : decode cX11_late 43 = .ok (.ireturn, 1) := by decide +kernel
def fX11_late (a1 : Int32) (a2 : Int32) (a3 : Int32) (h : Hp) : Option (Int32 × Hp) := bi (fX11_isLetter a1 h) (fun w2 h1 => (if w2 = 0 then some ((-1), h1) else bi (fX11_isKnown a2 h1) (fun w4 h3 => (if w4 = 0 then some ((-1), h3) else bi (fX11_isLook a3 h3) (fun w6 h5 => (if w6 = 0 then some ((-1), h5) else bv (fX2_walkBoth a2 a3 h5) (fun h7 => bi (fX2_lateOf a1 h7) (fun w9 h8 => some (w9, h8)))))))))
set_option maxRecDepth 20000 in
theorem tX11_late (Z : ZT) (a1 : Int32) (a2 : Int32) (a3 : Int32) (hz : HZ Z) (h : Hp) (r : Int32) (hr : Hp) (hF : fX11_late a1 a2 a3 h = some (r, hr)) : MC Z yX11_late cX11_late 4 (some .int) 7 [.ref (Z.2.1 100), .int a1, .int a2, .int a3] h (some (.int r)) hr := by
  unfold fX11_late at hF
  refine mc_start (by decide) (Nat.le_of_ble_eq_true rfl) (fun G X E => ?_)
  refine j_aload_n (pc := 0) 0 X dX11_late_0 rfl ?_
  refine j_iload_n (pc := 1) 1 X dX11_late_1 rfl ?_
  refine j_cVi (pc := 2) (As := [.int a1]) (rest := []) X dX11_late_2 ml_X11_148 ck_X11_isLetter cv_X11_isLetter (hz _ sh_100) rfl (Nat.le_of_ble_eq_true rfl) rfl (Nat.le_of_ble_eq_true rfl) rfl hF (tX11_isLetter Z a1 hz h) (fun w2 h1 hF => ?_)
  refine j_if_eq (pc := 5) 24 X dX11_late_5 rfl hF (fun hF => ?_) (fun hF => ?_)
  · refine j_iconst (pc := 24) (-1) X dX11_late_24 rfl ?_
    exact j_iret (pc := 25) X E dX11_late_25 hF
  · refine j_aload_n (pc := 8) 0 X dX11_late_8 rfl ?_
    refine j_iload_n (pc := 9) 2 X dX11_late_9 rfl ?_
    refine j_cVi (pc := 10) (As := [.int a2]) (rest := []) X dX11_late_10 ml_X11_215 ck_X11_isKnown cv_X11_isKnown (hz _ sh_100) rfl (Nat.le_of_ble_eq_true rfl) rfl (Nat.le_of_ble_eq_true rfl) rfl hF (tX11_isKnown Z a2 hz h1) (fun w4 h3 hF => ?_)
    refine j_if_eq (pc := 13) 24 X dX11_late_13 rfl hF (fun hF => ?_) (fun hF => ?_)
    · refine j_iconst (pc := 24) (-1) X dX11_late_24 rfl ?_
      exact j_iret (pc := 25) X E dX11_late_25 hF
    · refine j_aload_n (pc := 16) 0 X dX11_late_16 rfl ?_
      refine j_iload_n (pc := 17) 3 X dX11_late_17 rfl ?_
      refine j_cVi (pc := 18) (As := [.int a3]) (rest := []) X dX11_late_18 ml_X11_222 ck_X11_isLook cv_X11_isLook (hz _ sh_100) rfl (Nat.le_of_ble_eq_true rfl) rfl (Nat.le_of_ble_eq_true rfl) rfl hF (tX11_isLook Z a3 hz h3) (fun w6 h5 hF => ?_)
      refine j_if_ne (pc := 21) 26 X dX11_late_21 rfl hF (fun hF => ?_) (fun hF => ?_)
      · refine j_aload_n (pc := 26) 0 X dX11_late_26 rfl ?_
        refine j_getr (pc := 27) X dX11_late_27 (hz _ sh_100) fl_X11_67 rfl ?_
        refine j_iload_n (pc := 30) 2 X dX11_late_30 rfl ?_
        refine j_iload_n (pc := 31) 3 X dX11_late_31 rfl ?_
        refine j_cVv (pc := 32) (As := [.int a2, .int a3]) (rest := []) X dX11_late_32 ml_X11_258 ck_X2_walkBoth cv_X2_walkBoth (hz _ sh_181) rfl (Nat.le_of_ble_eq_true rfl) rfl (Nat.le_of_ble_eq_true rfl) rfl hF (tX2_walkBoth Z a2 a3 hz h5) (fun h7 hF => ?_)
        refine j_aload_n (pc := 35) 0 X dX11_late_35 rfl ?_
        refine j_getr (pc := 36) X dX11_late_36 (hz _ sh_100) fl_X11_67 rfl ?_
        refine j_iload_n (pc := 39) 1 X dX11_late_39 rfl ?_
        refine j_cVi (pc := 40) (As := [.int a1]) (rest := []) X dX11_late_40 ml_X11_262 ck_X2_lateOf cv_X2_lateOf (hz _ sh_181) rfl (Nat.le_of_ble_eq_true rfl) rfl (Nat.le_of_ble_eq_true rfl) rfl hF (tX2_lateOf Z a1 hz h7) (fun w9 h8 hF => ?_)
        exact j_iret (pc := 43) X E dX11_late_43 hF
      · refine j_iconst (pc := 24) (-1) X dX11_late_24 rfl ?_
        exact j_iret (pc := 25) X E dX11_late_25 hF
theorem dX11_watch_0 : decode cX11_watch 0 = .ok (.aload_n 0, 1) := by decide +kernel
theorem dX11_watch_1 : decode cX11_watch 1 = .ok (.iload_n 1, 1) := by decide +kernel
theorem dX11_watch_2 : decode cX11_watch 2 = .ok (.invokevirtual 215, 3) := by decide +kernel
theorem dX11_watch_5 : decode cX11_watch 5 = .ok (.ifCond .eq 23, 3) := by decide +kernel
theorem dX11_watch_8 : decode cX11_watch 8 = .ok (.aload_n 0, 1) := by decide +kernel
theorem dX11_watch_9 : decode cX11_watch 9 = .ok (.iload_n 2, 1) := by decide +kernel
theorem dX11_watch_10 : decode cX11_watch 10 = .ok (.invokevirtual 176, 3) := by decide +kernel
theorem dX11_watch_13 : decode cX11_watch 13 = .ok (.ifCond .eq 15, 3) := by decide +kernel
theorem dX11_watch_16 : decode cX11_watch 16 = .ok (.aload_n 0, 1) := by decide +kernel
theorem dX11_watch_17 : decode cX11_watch 17 = .ok (.getfield 67, 3) := by decide +kernel
theorem dX11_watch_20 : decode cX11_watch 20 = .ok (.iload_n 1, 1) := by decide +kernel
theorem dX11_watch_21 : decode cX11_watch 21 = .ok (.iload_n 2, 1) := by decide +kernel
theorem dX11_watch_22 : decode cX11_watch 22 = .ok (.invokevirtual 265, 3) := by decide +kernel
theorem dX11_watch_25 : decode cX11_watch 25 = .ok (.goto 4, 3) := by decide +kernel
theorem dX11_watch_28 : decode cX11_watch 28 = .ok (.iconst (-1), 1) := by decide +kernel
theorem dX11_watch_29 : decode cX11_watch 29 = .ok (.ireturn, 1) := by decide +kernel
def fX11_watch (a1 : Int32) (a2 : Int32) (h : Hp) : Option (Int32 × Hp) := bi (fX11_isKnown a1 h) (fun w2 h1 => (if w2 = 0 then some ((-1), h1) else bi (fX11_isYear a2 h1) (fun w4 h3 => (if w4 = 0 then some ((-1), h3) else bi (fX2_rarestLook a1 a2 h3) (fun w6 h5 => some (w6, h5))))))
set_option maxRecDepth 20000 in
theorem tX11_watch (Z : ZT) (a1 : Int32) (a2 : Int32) (hz : HZ Z) (h : Hp) (r : Int32) (hr : Hp) (hF : fX11_watch a1 a2 h = some (r, hr)) : MC Z yX11_watch cX11_watch 3 (some .int) 7 [.ref (Z.2.1 100), .int a1, .int a2] h (some (.int r)) hr := by
  unfold fX11_watch at hF
  refine mc_start (by decide) (Nat.le_of_ble_eq_true rfl) (fun G X E => ?_)
  refine j_aload_n (pc := 0) 0 X dX11_watch_0 rfl ?_
  refine j_iload_n (pc := 1) 1 X dX11_watch_1 rfl ?_
  refine j_cVi (pc := 2) (As := [.int a1]) (rest := []) X dX11_watch_2 ml_X11_215 ck_X11_isKnown cv_X11_isKnown (hz _ sh_100) rfl (Nat.le_of_ble_eq_true rfl) rfl (Nat.le_of_ble_eq_true rfl) rfl hF (tX11_isKnown Z a1 hz h) (fun w2 h1 hF => ?_)
  refine j_if_eq (pc := 5) 28 X dX11_watch_5 rfl hF (fun hF => ?_) (fun hF => ?_)
  · refine j_iconst (pc := 28) (-1) X dX11_watch_28 rfl ?_
    exact j_iret (pc := 29) X E dX11_watch_29 hF
  · refine j_aload_n (pc := 8) 0 X dX11_watch_8 rfl ?_
    refine j_iload_n (pc := 9) 2 X dX11_watch_9 rfl ?_
    refine j_cVi (pc := 10) (As := [.int a2]) (rest := []) X dX11_watch_10 ml_X11_176 ck_X11_isYear cv_X11_isYear (hz _ sh_100) rfl (Nat.le_of_ble_eq_true rfl) rfl (Nat.le_of_ble_eq_true rfl) rfl hF (tX11_isYear Z a2 hz h1) (fun w4 h3 hF => ?_)
    refine j_if_eq (pc := 13) 28 X dX11_watch_13 rfl hF (fun hF => ?_) (fun hF => ?_)
    · refine j_iconst (pc := 28) (-1) X dX11_watch_28 rfl ?_
      exact j_iret (pc := 29) X E dX11_watch_29 hF
    · refine j_aload_n (pc := 16) 0 X dX11_watch_16 rfl ?_
      refine j_getr (pc := 17) X dX11_watch_17 (hz _ sh_100) fl_X11_67 rfl ?_
      refine j_iload_n (pc := 20) 1 X dX11_watch_20 rfl ?_
      refine j_iload_n (pc := 21) 2 X dX11_watch_21 rfl ?_
      refine j_cVi (pc := 22) (As := [.int a1, .int a2]) (rest := []) X dX11_watch_22 ml_X11_265 ck_X2_rarestLook cv_X2_rarestLook (hz _ sh_181) rfl (Nat.le_of_ble_eq_true rfl) rfl (Nat.le_of_ble_eq_true rfl) rfl hF (tX2_rarestLook Z a1 a2 hz h3) (fun w6 h5 hF => ?_)
      refine j_goto (pc := 25) 29 X dX11_watch_25 rfl ?_
      exact j_iret (pc := 29) X E dX11_watch_29 hF
theorem dX11_gain_0 : decode cX11_gain 0 = .ok (.aload_n 0, 1) := by decide +kernel
theorem dX11_gain_1 : decode cX11_gain 1 = .ok (.iload_n 1, 1) := by decide +kernel
theorem dX11_gain_2 : decode cX11_gain 2 = .ok (.invokevirtual 215, 3) := by decide +kernel
theorem dX11_gain_5 : decode cX11_gain 5 = .ok (.ifCond .eq 11, 3) := by decide +kernel
theorem dX11_gain_8 : decode cX11_gain 8 = .ok (.aload_n 0, 1) := by decide +kernel
theorem dX11_gain_9 : decode cX11_gain 9 = .ok (.iload_n 2, 1) := by decide +kernel
theorem dX11_gain_10 : decode cX11_gain 10 = .ok (.invokevirtual 222, 3) := by decide +kernel
theorem dX11_gain_13 : decode cX11_gain 13 = .ok (.ifCond .ne 5, 3) := by decide +kernel
theorem dX11_gain_16 : decode cX11_gain 16 = .ok (.iconst (-1), 1) := by decide +kernel
theorem dX11_gain_17 : decode cX11_gain 17 = .ok (.ireturn, 1) := by decide +kernel
theorem dX11_gain_18 : decode cX11_gain 18 = .ok (.aload_n 0, 1) := by decide +kernel
theorem dX11_gain_19 : decode cX11_gain 19 = .ok (.getfield 67, 3) := by decide +kernel
theorem dX11_gain_22 : decode cX11_gain 22 = .ok (.iload_n 1, 1) := by decide +kernel
theorem dX11_gain_23 : decode cX11_gain 23 = .ok (.iload_n 2, 1) := by decide +kernel
theorem dX11_gain_24 : decode cX11_gain 24 = .ok (.invokevirtual 258, 3) := by decide +kernel
theorem dX11_gain_27 : decode cX11_gain 27 = .ok (.aload_n 0, 1) := by decide +kernel
theorem dX11_gain_28 : decode cX11_gain 28 = .ok (.getfield 67, 3) := by decide +kernel
theorem dX11_gain_31 : decode cX11_gain 31 = .ok (.iconst 0, 1) := by decide +kernel
theorem dX11_gain_32 : decode cX11_gain 32 = .ok (.invokevirtual 268, 3) := by decide +kernel
theorem dX11_gain_35 : decode cX11_gain 35 = .ok (.ireturn, 1) := by decide +kernel
def fX11_gain (a1 : Int32) (a2 : Int32) (h : Hp) : Option (Int32 × Hp) := bi (fX11_isKnown a1 h) (fun w2 h1 => (if w2 = 0 then some ((-1), h1) else bi (fX11_isLook a2 h1) (fun w4 h3 => (if w4 = 0 then some ((-1), h3) else bv (fX2_walkBoth a1 a2 h3) (fun h5 => bi (fX2_gainsFrom 0 h5) (fun w7 h6 => some (w7, h6)))))))
set_option maxRecDepth 20000 in
theorem tX11_gain (Z : ZT) (a1 : Int32) (a2 : Int32) (hz : HZ Z) (h : Hp) (r : Int32) (hr : Hp) (hF : fX11_gain a1 a2 h = some (r, hr)) : MC Z yX11_gain cX11_gain 3 (some .int) 7 [.ref (Z.2.1 100), .int a1, .int a2] h (some (.int r)) hr := by
  unfold fX11_gain at hF
  refine mc_start (by decide) (Nat.le_of_ble_eq_true rfl) (fun G X E => ?_)
  refine j_aload_n (pc := 0) 0 X dX11_gain_0 rfl ?_
  refine j_iload_n (pc := 1) 1 X dX11_gain_1 rfl ?_
  refine j_cVi (pc := 2) (As := [.int a1]) (rest := []) X dX11_gain_2 ml_X11_215 ck_X11_isKnown cv_X11_isKnown (hz _ sh_100) rfl (Nat.le_of_ble_eq_true rfl) rfl (Nat.le_of_ble_eq_true rfl) rfl hF (tX11_isKnown Z a1 hz h) (fun w2 h1 hF => ?_)
  refine j_if_eq (pc := 5) 16 X dX11_gain_5 rfl hF (fun hF => ?_) (fun hF => ?_)
  · refine j_iconst (pc := 16) (-1) X dX11_gain_16 rfl ?_
    exact j_iret (pc := 17) X E dX11_gain_17 hF
  · refine j_aload_n (pc := 8) 0 X dX11_gain_8 rfl ?_
    refine j_iload_n (pc := 9) 2 X dX11_gain_9 rfl ?_
    refine j_cVi (pc := 10) (As := [.int a2]) (rest := []) X dX11_gain_10 ml_X11_222 ck_X11_isLook cv_X11_isLook (hz _ sh_100) rfl (Nat.le_of_ble_eq_true rfl) rfl (Nat.le_of_ble_eq_true rfl) rfl hF (tX11_isLook Z a2 hz h1) (fun w4 h3 hF => ?_)
    refine j_if_ne (pc := 13) 18 X dX11_gain_13 rfl hF (fun hF => ?_) (fun hF => ?_)
    · refine j_aload_n (pc := 18) 0 X dX11_gain_18 rfl ?_
      refine j_getr (pc := 19) X dX11_gain_19 (hz _ sh_100) fl_X11_67 rfl ?_
      refine j_iload_n (pc := 22) 1 X dX11_gain_22 rfl ?_
      refine j_iload_n (pc := 23) 2 X dX11_gain_23 rfl ?_
      refine j_cVv (pc := 24) (As := [.int a1, .int a2]) (rest := []) X dX11_gain_24 ml_X11_258 ck_X2_walkBoth cv_X2_walkBoth (hz _ sh_181) rfl (Nat.le_of_ble_eq_true rfl) rfl (Nat.le_of_ble_eq_true rfl) rfl hF (tX2_walkBoth Z a1 a2 hz h3) (fun h5 hF => ?_)
      refine j_aload_n (pc := 27) 0 X dX11_gain_27 rfl ?_
      refine j_getr (pc := 28) X dX11_gain_28 (hz _ sh_100) fl_X11_67 rfl ?_
      refine j_iconst (pc := 31) 0 X dX11_gain_31 rfl ?_
      refine j_cVi (pc := 32) (As := [.int 0]) (rest := []) X dX11_gain_32 ml_X11_268 ck_X2_gainsFrom cv_X2_gainsFrom (hz _ sh_181) rfl (Nat.le_of_ble_eq_true rfl) rfl (Nat.le_of_ble_eq_true rfl) rfl hF (tX2_gainsFrom Z 0 hz h5) (fun w7 h6 hF => ?_)
      exact j_iret (pc := 35) X E dX11_gain_35 hF
    · refine j_iconst (pc := 16) (-1) X dX11_gain_16 rfl ?_
      exact j_iret (pc := 17) X E dX11_gain_17 hF
