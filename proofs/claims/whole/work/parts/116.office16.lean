theorem dX11_income_0 : decode cX11_income 0 = .ok (.aload_n 0, 1) := by decide +kernel
theorem dX11_income_1 : decode cX11_income 1 = .ok (.iload_n 1, 1) := by decide +kernel
theorem dX11_income_2 : decode cX11_income 2 = .ok (.invokevirtual 215, 3) := by decide +kernel
theorem dX11_income_5 : decode cX11_income 5 = .ok (.ifCond .eq 24, 3) := by decide +kernel
theorem dX11_income_8 : decode cX11_income 8 = .ok (.aload_n 0, 1) := by decide +kernel
theorem dX11_income_9 : decode cX11_income 9 = .ok (.iload_n 2, 1) := by decide +kernel
theorem dX11_income_10 : decode cX11_income 10 = .ok (.invokevirtual 176, 3) := by decide +kernel
theorem dX11_income_13 : decode cX11_income 13 = .ok (.ifCond .eq 16, 3) := by decide +kernel
theorem dX11_income_16 : decode cX11_income 16 = .ok (.aload_n 0, 1) := by decide +kernel
theorem dX11_income_17 : decode cX11_income 17 = .ok (.iload_n 3, 1) := by decide +kernel
theorem dX11_income_18 : decode cX11_income 18 = .ok (.invokevirtual 176, 3) := by decide +kernel
theorem dX11_income_21 : decode cX11_income 21 = .ok (.ifCond .eq 8, 3) := by decide +kernel
theorem dX11_income_24 : decode cX11_income 24 = .ok (.iload_n 3, 1) := by decide +kernel
theorem dX11_income_25 : decode cX11_income 25 = .ok (.iload_n 2, 1) := by decide +kernel
theorem dX11_income_26 : decode cX11_income 26 = .ok (.if_icmp .ge 5, 3) := by decide +kernel
theorem dX11_income_29 : decode cX11_income 29 = .ok (.iconst (-1), 1) := by decide +kernel
theorem dX11_income_30 : decode cX11_income 30 = .ok (.ireturn, 1) := by decide +kernel
theorem dX11_income_31 : decode cX11_income 31 = .ok (.aload_n 0, 1) := by decide +kernel
theorem dX11_income_32 : decode cX11_income 32 = .ok (.getfield 67, 3) := by decide +kernel
theorem dX11_income_35 : decode cX11_income 35 = .ok (.iload_n 1, 1) := by decide +kernel
theorem dX11_income_36 : decode cX11_income 36 = .ok (.iconst 1, 1) := by decide +kernel
theorem dX11_income_37 : decode cX11_income 37 = .ok (.iload_n 3, 1) := by decide +kernel
theorem dX11_income_38 : decode cX11_income 38 = .ok (.invokevirtual 225, 3) := by decide +kernel
theorem dX11_income_41 : decode cX11_income 41 = .ok (.iload_n 2, 1) := by decide +kernel
theorem dX11_income_42 : decode cX11_income 42 = .ok (.iload_n 3, 1) := by decide +kernel
theorem dX11_income_43 : decode cX11_income 43 = .ok (.invokevirtual 271, 3) := by decide +kernel
theorem dX11_income_46 : decode cX11_income 46 = .ok (.ireturn, 1) := by decide +kernel
def fX11_income (a1 : Int32) (a2 : Int32) (a3 : Int32) (h : Hp) : Option (Int32 × Hp) := bi (fX11_isKnown a1 h) (fun w2 h1 => (if w2 = 0 then some ((-1), h1) else bi (fX11_isYear a2 h1) (fun w4 h3 => (if w4 = 0 then some ((-1), h3) else bi (fX11_isYear a3 h3) (fun w6 h5 => (if w6 = 0 then some ((-1), h5) else (if a2 ≤ a3 then bv (fX2_runOf a1 1 a3 h5) (fun h7 => bi (fX1_paidFrom 190 a2 a3 h7) (fun w9 h8 => some (w9, h8))) else some ((-1), h5))))))))
set_option maxRecDepth 20000 in
theorem tX11_income (Z : ZT) (a1 : Int32) (a2 : Int32) (a3 : Int32) (hz : HZ Z) (h : Hp) (r : Int32) (hr : Hp) (hF : fX11_income a1 a2 a3 h = some (r, hr)) : MC Z yX11_income cX11_income 4 (some .int) 7 [.ref (Z.2.1 100), .int a1, .int a2, .int a3] h (some (.int r)) hr := by
  unfold fX11_income at hF
  refine mc_start (by decide) (Nat.le_of_ble_eq_true rfl) (fun G X E => ?_)
  refine j_aload_n (pc := 0) 0 X dX11_income_0 rfl ?_
  refine j_iload_n (pc := 1) 1 X dX11_income_1 rfl ?_
  refine j_cVi (pc := 2) (As := [.int a1]) (rest := []) X dX11_income_2 ml_X11_215 ck_X11_isKnown cv_X11_isKnown (hz _ sh_100) rfl (Nat.le_of_ble_eq_true rfl) rfl (Nat.le_of_ble_eq_true rfl) rfl hF (tX11_isKnown Z a1 hz h) (fun w2 h1 hF => ?_)
  refine j_if_eq (pc := 5) 29 X dX11_income_5 rfl hF (fun hF => ?_) (fun hF => ?_)
  · refine j_iconst (pc := 29) (-1) X dX11_income_29 rfl ?_
    exact j_iret (pc := 30) X E dX11_income_30 hF
  · refine j_aload_n (pc := 8) 0 X dX11_income_8 rfl ?_
    refine j_iload_n (pc := 9) 2 X dX11_income_9 rfl ?_
    refine j_cVi (pc := 10) (As := [.int a2]) (rest := []) X dX11_income_10 ml_X11_176 ck_X11_isYear cv_X11_isYear (hz _ sh_100) rfl (Nat.le_of_ble_eq_true rfl) rfl (Nat.le_of_ble_eq_true rfl) rfl hF (tX11_isYear Z a2 hz h1) (fun w4 h3 hF => ?_)
    refine j_if_eq (pc := 13) 29 X dX11_income_13 rfl hF (fun hF => ?_) (fun hF => ?_)
    · refine j_iconst (pc := 29) (-1) X dX11_income_29 rfl ?_
      exact j_iret (pc := 30) X E dX11_income_30 hF
    · refine j_aload_n (pc := 16) 0 X dX11_income_16 rfl ?_
      refine j_iload_n (pc := 17) 3 X dX11_income_17 rfl ?_
      refine j_cVi (pc := 18) (As := [.int a3]) (rest := []) X dX11_income_18 ml_X11_176 ck_X11_isYear cv_X11_isYear (hz _ sh_100) rfl (Nat.le_of_ble_eq_true rfl) rfl (Nat.le_of_ble_eq_true rfl) rfl hF (tX11_isYear Z a3 hz h3) (fun w6 h5 hF => ?_)
      refine j_if_eq (pc := 21) 29 X dX11_income_21 rfl hF (fun hF => ?_) (fun hF => ?_)
      · refine j_iconst (pc := 29) (-1) X dX11_income_29 rfl ?_
        exact j_iret (pc := 30) X E dX11_income_30 hF
      · refine j_iload_n (pc := 24) 3 X dX11_income_24 rfl ?_
        refine j_iload_n (pc := 25) 2 X dX11_income_25 rfl ?_
        refine j_icmp_ge (pc := 26) 31 X dX11_income_26 rfl hF (fun hF => ?_) (fun hF => ?_)
        · refine j_aload_n (pc := 31) 0 X dX11_income_31 rfl ?_
          refine j_getr (pc := 32) X dX11_income_32 (hz _ sh_100) fl_X11_67 rfl ?_
          refine j_iload_n (pc := 35) 1 X dX11_income_35 rfl ?_
          refine j_iconst (pc := 36) 1 X dX11_income_36 rfl ?_
          refine j_iload_n (pc := 37) 3 X dX11_income_37 rfl ?_
          refine j_cVr (pc := 38) (As := [.int a1, .int 1, .int a3]) (rest := []) X dX11_income_38 ml_X11_225 ck_X2_runOf cv_X2_runOf (hz _ sh_181) rfl (Nat.le_of_ble_eq_true rfl) rfl (Nat.le_of_ble_eq_true rfl) rfl hF (tX2_runOf Z a1 1 a3 hz h5) (fun h7 hF => ?_)
          refine j_iload_n (pc := 41) 2 X dX11_income_41 rfl ?_
          refine j_iload_n (pc := 42) 3 X dX11_income_42 rfl ?_
          refine j_cVi (pc := 43) (As := [.int a2, .int a3]) (rest := []) X dX11_income_43 ml_X11_271 ck_X1_paidFrom cv_X1_paidFrom (hz _ sh_190) rfl (Nat.le_of_ble_eq_true rfl) rfl (Nat.le_of_ble_eq_true rfl) rfl hF (tX1_paidFrom Z 190 isC_190 a2 a3 hz h7) (fun w9 h8 hF => ?_)
          exact j_iret (pc := 46) X E dX11_income_46 hF
        · refine j_iconst (pc := 29) (-1) X dX11_income_29 rfl ?_
          exact j_iret (pc := 30) X E dX11_income_30 hF
theorem dX11_next_0 : decode cX11_next 0 = .ok (.aload_n 0, 1) := by decide +kernel
theorem dX11_next_1 : decode cX11_next 1 = .ok (.iload_n 1, 1) := by decide +kernel
theorem dX11_next_2 : decode cX11_next 2 = .ok (.invokevirtual 176, 3) := by decide +kernel
theorem dX11_next_5 : decode cX11_next 5 = .ok (.ifCond .eq 29, 3) := by decide +kernel
theorem dX11_next_8 : decode cX11_next 8 = .ok (.aload_n 0, 1) := by decide +kernel
theorem dX11_next_9 : decode cX11_next 9 = .ok (.iload_n 2, 1) := by decide +kernel
theorem dX11_next_10 : decode cX11_next 10 = .ok (.invokevirtual 215, 3) := by decide +kernel
theorem dX11_next_13 : decode cX11_next 13 = .ok (.ifCond .eq 21, 3) := by decide +kernel
theorem dX11_next_16 : decode cX11_next 16 = .ok (.aload_n 0, 1) := by decide +kernel
theorem dX11_next_17 : decode cX11_next 17 = .ok (.getfield 67, 3) := by decide +kernel
theorem dX11_next_20 : decode cX11_next 20 = .ok (.iload_n 2, 1) := by decide +kernel
theorem dX11_next_21 : decode cX11_next 21 = .ok (.iconst 1, 1) := by decide +kernel
theorem dX11_next_22 : decode cX11_next 22 = .ok (.bipush 59, 2) := by decide +kernel
theorem dX11_next_24 : decode cX11_next 24 = .ok (.invokevirtual 225, 3) := by decide +kernel
theorem dX11_next_27 : decode cX11_next 27 = .ok (.iload_n 1, 1) := by decide +kernel
theorem dX11_next_28 : decode cX11_next 28 = .ok (.invokevirtual 274, 3) := by decide +kernel
theorem dX11_next_31 : decode cX11_next 31 = .ok (.goto 4, 3) := by decide +kernel
theorem dX11_next_34 : decode cX11_next 34 = .ok (.iconst (-1), 1) := by decide +kernel
theorem dX11_next_35 : decode cX11_next 35 = .ok (.ireturn, 1) := by decide +kernel
def fX11_next (a1 : Int32) (a2 : Int32) (h : Hp) : Option (Int32 × Hp) := bi (fX11_isYear a1 h) (fun w2 h1 => (if w2 = 0 then some ((-1), h1) else bi (fX11_isKnown a2 h1) (fun w4 h3 => (if w4 = 0 then some ((-1), h3) else bv (fX2_runOf a2 1 59 h3) (fun h5 => bi (fX1_openingBehind 190 a1 h5) (fun w7 h6 => some (w7, h6)))))))
set_option maxRecDepth 20000 in
theorem tX11_next (Z : ZT) (a1 : Int32) (a2 : Int32) (hz : HZ Z) (h : Hp) (r : Int32) (hr : Hp) (hF : fX11_next a1 a2 h = some (r, hr)) : MC Z yX11_next cX11_next 3 (some .int) 7 [.ref (Z.2.1 100), .int a1, .int a2] h (some (.int r)) hr := by
  unfold fX11_next at hF
  refine mc_start (by decide) (Nat.le_of_ble_eq_true rfl) (fun G X E => ?_)
  refine j_aload_n (pc := 0) 0 X dX11_next_0 rfl ?_
  refine j_iload_n (pc := 1) 1 X dX11_next_1 rfl ?_
  refine j_cVi (pc := 2) (As := [.int a1]) (rest := []) X dX11_next_2 ml_X11_176 ck_X11_isYear cv_X11_isYear (hz _ sh_100) rfl (Nat.le_of_ble_eq_true rfl) rfl (Nat.le_of_ble_eq_true rfl) rfl hF (tX11_isYear Z a1 hz h) (fun w2 h1 hF => ?_)
  refine j_if_eq (pc := 5) 34 X dX11_next_5 rfl hF (fun hF => ?_) (fun hF => ?_)
  · refine j_iconst (pc := 34) (-1) X dX11_next_34 rfl ?_
    exact j_iret (pc := 35) X E dX11_next_35 hF
  · refine j_aload_n (pc := 8) 0 X dX11_next_8 rfl ?_
    refine j_iload_n (pc := 9) 2 X dX11_next_9 rfl ?_
    refine j_cVi (pc := 10) (As := [.int a2]) (rest := []) X dX11_next_10 ml_X11_215 ck_X11_isKnown cv_X11_isKnown (hz _ sh_100) rfl (Nat.le_of_ble_eq_true rfl) rfl (Nat.le_of_ble_eq_true rfl) rfl hF (tX11_isKnown Z a2 hz h1) (fun w4 h3 hF => ?_)
    refine j_if_eq (pc := 13) 34 X dX11_next_13 rfl hF (fun hF => ?_) (fun hF => ?_)
    · refine j_iconst (pc := 34) (-1) X dX11_next_34 rfl ?_
      exact j_iret (pc := 35) X E dX11_next_35 hF
    · refine j_aload_n (pc := 16) 0 X dX11_next_16 rfl ?_
      refine j_getr (pc := 17) X dX11_next_17 (hz _ sh_100) fl_X11_67 rfl ?_
      refine j_iload_n (pc := 20) 2 X dX11_next_20 rfl ?_
      refine j_iconst (pc := 21) 1 X dX11_next_21 rfl ?_
      refine j_bipush (pc := 22) 59 X dX11_next_22 rfl ?_
      refine j_cVr (pc := 24) (As := [.int a2, .int 1, .int 59]) (rest := []) X dX11_next_24 ml_X11_225 ck_X2_runOf cv_X2_runOf (hz _ sh_181) rfl (Nat.le_of_ble_eq_true rfl) rfl (Nat.le_of_ble_eq_true rfl) rfl hF (tX2_runOf Z a2 1 59 hz h3) (fun h5 hF => ?_)
      refine j_iload_n (pc := 27) 1 X dX11_next_27 rfl ?_
      refine j_cVi (pc := 28) (As := [.int a1]) (rest := []) X dX11_next_28 ml_X11_274 ck_X1_openingBehind cv_X1_openingBehind (hz _ sh_190) rfl (Nat.le_of_ble_eq_true rfl) rfl (Nat.le_of_ble_eq_true rfl) rfl hF (tX1_openingBehind Z 190 isC_190 a1 hz h5) (fun w7 h6 hF => ?_)
      refine j_goto (pc := 31) 35 X dX11_next_31 rfl ?_
      exact j_iret (pc := 35) X E dX11_next_35 hF
theorem dX11_looks_0 : decode cX11_looks 0 = .ok (.aload_n 0, 1) := by decide +kernel
theorem dX11_looks_1 : decode cX11_looks 1 = .ok (.iload_n 1, 1) := by decide +kernel
theorem dX11_looks_2 : decode cX11_looks 2 = .ok (.invokevirtual 215, 3) := by decide +kernel
theorem dX11_looks_5 : decode cX11_looks 5 = .ok (.ifCond .eq 12, 3) := by decide +kernel
theorem dX11_looks_8 : decode cX11_looks 8 = .ok (.iload_n 2, 1) := by decide +kernel
theorem dX11_looks_9 : decode cX11_looks 9 = .ok (.iconst 0, 1) := by decide +kernel
theorem dX11_looks_10 : decode cX11_looks 10 = .ok (.iconst 2, 1) := by decide +kernel
theorem dX11_looks_11 : decode cX11_looks 11 = .ok (.invokestatic 106, 3) := by decide +kernel
theorem dX11_looks_14 : decode cX11_looks 14 = .ok (.ifCond .ne 5, 3) := by decide +kernel
theorem dX11_looks_17 : decode cX11_looks 17 = .ok (.iconst (-1), 1) := by decide +kernel
theorem dX11_looks_18 : decode cX11_looks 18 = .ok (.ireturn, 1) := by decide +kernel
theorem dX11_looks_19 : decode cX11_looks 19 = .ok (.aload_n 0, 1) := by decide +kernel
theorem dX11_looks_20 : decode cX11_looks 20 = .ok (.getfield 67, 3) := by decide +kernel
theorem dX11_looks_23 : decode cX11_looks 23 = .ok (.iload_n 1, 1) := by decide +kernel
theorem dX11_looks_24 : decode cX11_looks 24 = .ok (.invokevirtual 277, 3) := by decide +kernel
theorem dX11_looks_27 : decode cX11_looks 27 = .ok (.iload_n 2, 1) := by decide +kernel
theorem dX11_looks_28 : decode cX11_looks 28 = .ok (.lookupswitch 44 #[(0, 28), (1, 36)], 28) := by decide +kernel
theorem dX11_looks_56 : decode cX11_looks 56 = .ok (.aload_n 0, 1) := by decide +kernel
theorem dX11_looks_57 : decode cX11_looks 57 = .ok (.getfield 67, 3) := by decide +kernel
theorem dX11_looks_60 : decode cX11_looks 60 = .ok (.getfield 280, 3) := by decide +kernel
theorem dX11_looks_63 : decode cX11_looks 63 = .ok (.ireturn, 1) := by decide +kernel
theorem dX11_looks_64 : decode cX11_looks 64 = .ok (.aload_n 0, 1) := by decide +kernel
theorem dX11_looks_65 : decode cX11_looks 65 = .ok (.getfield 67, 3) := by decide +kernel
theorem dX11_looks_68 : decode cX11_looks 68 = .ok (.getfield 283, 3) := by decide +kernel
theorem dX11_looks_71 : decode cX11_looks 71 = .ok (.ireturn, 1) := by decide +kernel
theorem dX11_looks_72 : decode cX11_looks 72 = .ok (.aload_n 0, 1) := by decide +kernel
theorem dX11_looks_73 : decode cX11_looks 73 = .ok (.getfield 67, 3) := by decide +kernel
theorem dX11_looks_76 : decode cX11_looks 76 = .ok (.getfield 286, 3) := by decide +kernel
theorem dX11_looks_79 : decode cX11_looks 79 = .ok (.ireturn, 1) := by decide +kernel
def fX11_looks (a1 : Int32) (a2 : Int32) (h : Hp) : Option (Int32 × Hp) := bi (fX11_isKnown a1 h) (fun w2 h1 => (if w2 = 0 then some ((-1), h1) else bi (fX11_within a2 0 2 h1) (fun w4 h3 => (if w4 = 0 then some ((-1), h3) else bv (fX2_seekTwoLooks a1 h3) (fun h5 => (if a2 = 0 then some ((h5.1 181 6), h5) else if a2 = 1 then some ((h5.1 181 7), h5) else some ((h5.1 181 8), h5)))))))
set_option maxRecDepth 20000 in
theorem tX11_looks (Z : ZT) (a1 : Int32) (a2 : Int32) (hz : HZ Z) (h : Hp) (r : Int32) (hr : Hp) (hF : fX11_looks a1 a2 h = some (r, hr)) : MC Z yX11_looks cX11_looks 3 (some .int) 7 [.ref (Z.2.1 100), .int a1, .int a2] h (some (.int r)) hr := by
  unfold fX11_looks at hF
  refine mc_start (by decide) (Nat.le_of_ble_eq_true rfl) (fun G X E => ?_)
  refine j_aload_n (pc := 0) 0 X dX11_looks_0 rfl ?_
  refine j_iload_n (pc := 1) 1 X dX11_looks_1 rfl ?_
  refine j_cVi (pc := 2) (As := [.int a1]) (rest := []) X dX11_looks_2 ml_X11_215 ck_X11_isKnown cv_X11_isKnown (hz _ sh_100) rfl (Nat.le_of_ble_eq_true rfl) rfl (Nat.le_of_ble_eq_true rfl) rfl hF (tX11_isKnown Z a1 hz h) (fun w2 h1 hF => ?_)
  refine j_if_eq (pc := 5) 17 X dX11_looks_5 rfl hF (fun hF => ?_) (fun hF => ?_)
  · refine j_iconst (pc := 17) (-1) X dX11_looks_17 rfl ?_
    exact j_iret (pc := 18) X E dX11_looks_18 hF
  · refine j_iload_n (pc := 8) 2 X dX11_looks_8 rfl ?_
    refine j_iconst (pc := 9) 0 X dX11_looks_9 rfl ?_
    refine j_iconst (pc := 10) 2 X dX11_looks_10 rfl ?_
    refine j_cSi (pc := 11) (As := [.int a2, .int 0, .int 2]) (rest := []) X dX11_looks_11 ml_X11_106 ck_X11_within sk_X11_within (Nat.le_of_ble_eq_true rfl) rfl (Nat.le_of_ble_eq_true rfl) rfl hF (tX11_within Z a2 0 2 trivial h1) (fun w4 h3 hF => ?_)
    refine j_if_ne (pc := 14) 19 X dX11_looks_14 rfl hF (fun hF => ?_) (fun hF => ?_)
    · refine j_aload_n (pc := 19) 0 X dX11_looks_19 rfl ?_
      refine j_getr (pc := 20) X dX11_looks_20 (hz _ sh_100) fl_X11_67 rfl ?_
      refine j_iload_n (pc := 23) 1 X dX11_looks_23 rfl ?_
      refine j_cVv (pc := 24) (As := [.int a1]) (rest := []) X dX11_looks_24 ml_X11_277 ck_X2_seekTwoLooks cv_X2_seekTwoLooks (hz _ sh_181) rfl (Nat.le_of_ble_eq_true rfl) rfl (Nat.le_of_ble_eq_true rfl) rfl hF (tX2_seekTwoLooks Z a1 hz h3) (fun h5 hF => ?_)
      refine j_iload_n (pc := 27) 2 X dX11_looks_27 rfl ?_
      refine j_lki (pc := 28) (off := 28) (v := 0) (tgt := 56) X dX11_looks_28 rfl (by decide) rfl hF (fun hF => ?_) (fun c6 hF => ?_)
      · refine j_aload_n (pc := 56) 0 X dX11_looks_56 rfl ?_
        refine j_getr (pc := 57) X dX11_looks_57 (hz _ sh_100) fl_X11_67 rfl ?_
        refine j_geti (pc := 60) X dX11_looks_60 (hz _ sh_181) fl_X11_280 rfl ?_
        exact j_iret (pc := 63) X E dX11_looks_63 hF
      refine j_lki (pc := 28) (off := 36) (v := 1) (tgt := 64) X dX11_looks_28 rfl (by decide) rfl hF (fun hF => ?_) (fun c7 hF => ?_)
      · refine j_aload_n (pc := 64) 0 X dX11_looks_64 rfl ?_
        refine j_getr (pc := 65) X dX11_looks_65 (hz _ sh_100) fl_X11_67 rfl ?_
        refine j_geti (pc := 68) X dX11_looks_68 (hz _ sh_181) fl_X11_283 rfl ?_
        exact j_iret (pc := 71) X E dX11_looks_71 hF
      refine j_lkd (pc := 28) (tgt := 72) X dX11_looks_28 rfl ((lv_osw (a := 0) (o := 28) c6 rfl).trans ((lv_osw (a := 1) (o := 36) c7 rfl).trans rfl)) rfl ?_
      refine j_aload_n (pc := 72) 0 X dX11_looks_72 rfl ?_
      refine j_getr (pc := 73) X dX11_looks_73 (hz _ sh_100) fl_X11_67 rfl ?_
      refine j_geti (pc := 76) X dX11_looks_76 (hz _ sh_181) fl_X11_286 rfl ?_
      exact j_iret (pc := 79) X E dX11_looks_79 hF
    · refine j_iconst (pc := 17) (-1) X dX11_looks_17 rfl ?_
      exact j_iret (pc := 18) X E dX11_looks_18 hF
theorem dX11_need_0 : decode cX11_need 0 = .ok (.aload_n 0, 1) := by decide +kernel
theorem dX11_need_1 : decode cX11_need 1 = .ok (.iload_n 1, 1) := by decide +kernel
theorem dX11_need_2 : decode cX11_need 2 = .ok (.invokevirtual 148, 3) := by decide +kernel
theorem dX11_need_5 : decode cX11_need 5 = .ok (.ifCond .eq 31, 3) := by decide +kernel
theorem dX11_need_8 : decode cX11_need 8 = .ok (.aload_n 0, 1) := by decide +kernel
theorem dX11_need_9 : decode cX11_need 9 = .ok (.iload_n 2, 1) := by decide +kernel
theorem dX11_need_10 : decode cX11_need 10 = .ok (.invokevirtual 176, 3) := by decide +kernel
theorem dX11_need_13 : decode cX11_need 13 = .ok (.ifCond .eq 23, 3) := by decide +kernel
theorem dX11_need_16 : decode cX11_need 16 = .ok (.aload_n 0, 1) := by decide +kernel
theorem dX11_need_17 : decode cX11_need 17 = .ok (.iload_n 3, 1) := by decide +kernel
theorem dX11_need_18 : decode cX11_need 18 = .ok (.iload 4, 2) := by decide +kernel
theorem dX11_need_20 : decode cX11_need 20 = .ok (.invokevirtual 289, 3) := by decide +kernel
theorem dX11_need_23 : decode cX11_need 23 = .ok (.ifCond .eq 13, 3) := by decide +kernel
theorem dX11_need_26 : decode cX11_need 26 = .ok (.iload 5, 2) := by decide +kernel
theorem dX11_need_28 : decode cX11_need 28 = .ok (.iconst 0, 1) := by decide +kernel
theorem dX11_need_29 : decode cX11_need 29 = .ok (.iconst 2, 1) := by decide +kernel
theorem dX11_need_30 : decode cX11_need 30 = .ok (.invokestatic 106, 3) := by decide +kernel
theorem dX11_need_33 : decode cX11_need 33 = .ok (.ifCond .ne 5, 3) := by decide +kernel
theorem dX11_need_36 : decode cX11_need 36 = .ok (.iconst (-1), 1) := by decide +kernel
theorem dX11_need_37 : decode cX11_need 37 = .ok (.ireturn, 1) := by decide +kernel
theorem dX11_need_38 : decode cX11_need 38 = .ok (.aload_n 0, 1) := by decide +kernel
theorem dX11_need_39 : decode cX11_need 39 = .ok (.getfield 76, 3) := by decide +kernel
theorem dX11_need_42 : decode cX11_need 42 = .ok (.aload_n 0, 1) := by decide +kernel
theorem dX11_need_43 : decode cX11_need 43 = .ok (.getfield 26, 3) := by decide +kernel
theorem dX11_need_46 : decode cX11_need 46 = .ok (.getfield 152, 3) := by decide +kernel
theorem dX11_need_49 : decode cX11_need 49 = .ok (.iload_n 1, 1) := by decide +kernel
theorem dX11_need_50 : decode cX11_need 50 = .ok (.aaload, 1) := by decide +kernel
theorem dX11_need_51 : decode cX11_need 51 = .ok (.iload_n 2, 1) := by decide +kernel
theorem dX11_need_52 : decode cX11_need 52 = .ok (.iload_n 3, 1) := by decide +kernel
theorem dX11_need_53 : decode cX11_need 53 = .ok (.iload 4, 2) := by decide +kernel
theorem dX11_need_55 : decode cX11_need 55 = .ok (.invokevirtual 292, 3) := by decide +kernel
theorem dX11_need_58 : decode cX11_need 58 = .ok (.ifCond .ne 6, 3) := by decide +kernel
theorem dX11_need_61 : decode cX11_need 61 = .ok (.bipush (-2), 2) := by decide +kernel
theorem dX11_need_63 : decode cX11_need 63 = .ok (.ireturn, 1) := by decide +kernel
theorem dX11_need_64 : decode cX11_need 64 = .ok (.iload 5, 2) := by decide +kernel
theorem dX11_need_66 : decode cX11_need 66 = .ok (.lookupswitch 56 #[(0, 26), (1, 48)], 26) := by decide +kernel
theorem dX11_need_92 : decode cX11_need 92 = .ok (.aload_n 0, 1) := by decide +kernel
theorem dX11_need_93 : decode cX11_need 93 = .ok (.getfield 76, 3) := by decide +kernel
theorem dX11_need_96 : decode cX11_need 96 = .ok (.getfield 296, 3) := by decide +kernel
theorem dX11_need_99 : decode cX11_need 99 = .ok (.invokestatic 299, 3) := by decide +kernel
theorem dX11_need_102 : decode cX11_need 102 = .ok (.aload_n 0, 1) := by decide +kernel
theorem dX11_need_103 : decode cX11_need 103 = .ok (.getfield 76, 3) := by decide +kernel
theorem dX11_need_106 : decode cX11_need 106 = .ok (.getfield 304, 3) := by decide +kernel
theorem dX11_need_109 : decode cX11_need 109 = .ok (.invokestatic 299, 3) := by decide +kernel
theorem dX11_need_112 : decode cX11_need 112 = .ok (.iadd, 1) := by decide +kernel
theorem dX11_need_113 : decode cX11_need 113 = .ok (.ireturn, 1) := by decide +kernel
theorem dX11_need_114 : decode cX11_need 114 = .ok (.aload_n 0, 1) := by decide +kernel
theorem dX11_need_115 : decode cX11_need 115 = .ok (.getfield 76, 3) := by decide +kernel
theorem dX11_need_118 : decode cX11_need 118 = .ok (.getfield 296, 3) := by decide +kernel
theorem dX11_need_121 : decode cX11_need 121 = .ok (.ireturn, 1) := by decide +kernel
theorem dX11_need_122 : decode cX11_need 122 = .ok (.aload_n 0, 1) := by decide +kernel
theorem dX11_need_123 : decode cX11_need 123 = .ok (.getfield 76, 3) := by decide +kernel
theorem dX11_need_126 : decode cX11_need 126 = .ok (.getfield 304, 3) := by decide +kernel
theorem dX11_need_129 : decode cX11_need 129 = .ok (.ireturn, 1) := by decide +kernel
def fX11_need (a1 : Int32) (a2 : Int32) (a3 : Int32) (a4 : Int32) (a5 : Int32) (h : Hp) : Option (Int32 × Hp) := bi (fX11_isLetter a1 h) (fun w2 h1 => (if w2 = 0 then some ((-1), h1) else bi (fX11_isYear a2 h1) (fun w4 h3 => (if w4 = 0 then some ((-1), h3) else bi (fX11_areThere a3 a4 h3) (fun w6 h5 => (if w6 = 0 then some ((-1), h5) else bi (fX11_within a5 0 2 h5) (fun w8 h7 => (if w8 = 0 then some ((-1), h7) else ck (inb a1 10) (bi (fX10_seekNeed (115 + ix a1) a2 a3 a4 h7) (fun w11 h10 => (if w11 = 0 then some ((-2), h10) else (if a5 = 0 then bi (fJ6_bitCount_0f7a4 (h10.1 206 4) h10) (fun w13 h12 => bi (fJ6_bitCount_0f7a4 (h12.1 206 5) h12) (fun w15 h14 => some ((w13 + w15), h14))) else if a5 = 1 then some ((h10.1 206 4), h10) else some ((h10.1 206 5), h10)))))))))))))
set_option maxRecDepth 20000 in
theorem tX11_need (Z : ZT) (a1 : Int32) (a2 : Int32) (a3 : Int32) (a4 : Int32) (a5 : Int32) (hz : HZ Z) (h : Hp) (r : Int32) (hr : Hp) (hF : fX11_need a1 a2 a3 a4 a5 h = some (r, hr)) : MC Z yX11_need cX11_need 6 (some .int) 5 [.ref (Z.2.1 100), .int a1, .int a2, .int a3, .int a4, .int a5] h (some (.int r)) hr := by
  unfold fX11_need at hF
  refine mc_start (by decide) (Nat.le_of_ble_eq_true rfl) (fun G X E => ?_)
  refine j_aload_n (pc := 0) 0 X dX11_need_0 rfl ?_
  refine j_iload_n (pc := 1) 1 X dX11_need_1 rfl ?_
  refine j_cVi (pc := 2) (As := [.int a1]) (rest := []) X dX11_need_2 ml_X11_148 ck_X11_isLetter cv_X11_isLetter (hz _ sh_100) rfl (Nat.le_of_ble_eq_true rfl) rfl (Nat.le_of_ble_eq_true rfl) rfl hF (tX11_isLetter Z a1 hz h) (fun w2 h1 hF => ?_)
  refine j_if_eq (pc := 5) 36 X dX11_need_5 rfl hF (fun hF => ?_) (fun hF => ?_)
  · refine j_iconst (pc := 36) (-1) X dX11_need_36 rfl ?_
    exact j_iret (pc := 37) X E dX11_need_37 hF
  · refine j_aload_n (pc := 8) 0 X dX11_need_8 rfl ?_
    refine j_iload_n (pc := 9) 2 X dX11_need_9 rfl ?_
    refine j_cVi (pc := 10) (As := [.int a2]) (rest := []) X dX11_need_10 ml_X11_176 ck_X11_isYear cv_X11_isYear (hz _ sh_100) rfl (Nat.le_of_ble_eq_true rfl) rfl (Nat.le_of_ble_eq_true rfl) rfl hF (tX11_isYear Z a2 hz h1) (fun w4 h3 hF => ?_)
    refine j_if_eq (pc := 13) 36 X dX11_need_13 rfl hF (fun hF => ?_) (fun hF => ?_)
    · refine j_iconst (pc := 36) (-1) X dX11_need_36 rfl ?_
      exact j_iret (pc := 37) X E dX11_need_37 hF
    · refine j_aload_n (pc := 16) 0 X dX11_need_16 rfl ?_
      refine j_iload_n (pc := 17) 3 X dX11_need_17 rfl ?_
      refine j_iload (pc := 18) 4 X dX11_need_18 rfl ?_
      refine j_cVi (pc := 20) (As := [.int a3, .int a4]) (rest := []) X dX11_need_20 ml_X11_289 ck_X11_areThere cv_X11_areThere (hz _ sh_100) rfl (Nat.le_of_ble_eq_true rfl) rfl (Nat.le_of_ble_eq_true rfl) rfl hF (tX11_areThere Z a3 a4 hz h3) (fun w6 h5 hF => ?_)
      refine j_if_eq (pc := 23) 36 X dX11_need_23 rfl hF (fun hF => ?_) (fun hF => ?_)
      · refine j_iconst (pc := 36) (-1) X dX11_need_36 rfl ?_
        exact j_iret (pc := 37) X E dX11_need_37 hF
      · refine j_iload (pc := 26) 5 X dX11_need_26 rfl ?_
        refine j_iconst (pc := 28) 0 X dX11_need_28 rfl ?_
        refine j_iconst (pc := 29) 2 X dX11_need_29 rfl ?_
        refine j_cSi (pc := 30) (As := [.int a5, .int 0, .int 2]) (rest := []) X dX11_need_30 ml_X11_106 ck_X11_within sk_X11_within (Nat.le_of_ble_eq_true rfl) rfl (Nat.le_of_ble_eq_true rfl) rfl hF (tX11_within Z a5 0 2 trivial h5) (fun w8 h7 hF => ?_)
        refine j_if_ne (pc := 33) 38 X dX11_need_33 rfl hF (fun hF => ?_) (fun hF => ?_)
        · refine j_aload_n (pc := 38) 0 X dX11_need_38 rfl ?_
          refine j_getr (pc := 39) X dX11_need_39 (hz _ sh_100) fl_X11_76 rfl ?_
          refine j_aload_n (pc := 42) 0 X dX11_need_42 rfl ?_
          refine j_getr (pc := 43) X dX11_need_43 (hz _ sh_100) fl_X11_26 rfl ?_
          refine j_getr (pc := 46) X dX11_need_46 (hz _ sh_108) fl_X11_152 rfl ?_
          refine j_iload_n (pc := 49) 1 X dX11_need_49 rfl ?_
          refine j_aald (pc := 50) (g := fun j => 115 + j) (C := "AfterOffice$Letter") X dX11_need_50 (hz _ sh_111) (fun _ => rfl) rfl al_111 hF (fun hb9 hF => ?_)
          refine j_iload_n (pc := 51) 2 X dX11_need_51 rfl ?_
          refine j_iload_n (pc := 52) 3 X dX11_need_52 rfl ?_
          refine j_iload (pc := 53) 4 X dX11_need_53 rfl ?_
          refine j_cVi (pc := 55) (As := [.ref (Z.2.1 (115 + ix a1)), .int a2, .int a3, .int a4]) (rest := []) X dX11_need_55 ml_X11_292 ck_X10_seekNeed cv_X10_seekNeed (hz _ sh_206) rfl (Nat.le_of_ble_eq_true rfl) rfl (Nat.le_of_ble_eq_true rfl) rfl hF (tX10_seekNeed Z (115 + ix a1) (is_111 hb9) a2 a3 a4 hz h7) (fun w11 h10 hF => ?_)
          refine j_if_ne (pc := 58) 64 X dX11_need_58 rfl hF (fun hF => ?_) (fun hF => ?_)
          · refine j_iload (pc := 64) 5 X dX11_need_64 rfl ?_
            refine j_lki (pc := 66) (off := 26) (v := 0) (tgt := 92) X dX11_need_66 rfl (by decide) rfl hF (fun hF => ?_) (fun c16 hF => ?_)
            · refine j_aload_n (pc := 92) 0 X dX11_need_92 rfl ?_
              refine j_getr (pc := 93) X dX11_need_93 (hz _ sh_100) fl_X11_76 rfl ?_
              refine j_geti (pc := 96) X dX11_need_96 (hz _ sh_206) fl_X11_296 rfl ?_
              refine j_cSi (pc := 99) (As := [.int (h10.1 206 4)]) (rest := []) X dX11_need_99 ml_X11_299 ck_J6_bitCount_0f7a4 sk_J6_bitCount_0f7a4 (Nat.le_of_ble_eq_true rfl) rfl (Nat.le_of_ble_eq_true rfl) rfl hF (tJ6_bitCount_0f7a4 Z (h10.1 206 4) trivial h10) (fun w13 h12 hF => ?_)
              refine j_aload_n (pc := 102) 0 X dX11_need_102 rfl ?_
              refine j_getr (pc := 103) X dX11_need_103 (hz _ sh_100) fl_X11_76 rfl ?_
              refine j_geti (pc := 106) X dX11_need_106 (hz _ sh_206) fl_X11_304 rfl ?_
              refine j_cSi (pc := 109) (As := [.int (h12.1 206 5)]) (rest := [.int w13]) X dX11_need_109 ml_X11_299 ck_J6_bitCount_0f7a4 sk_J6_bitCount_0f7a4 (Nat.le_of_ble_eq_true rfl) rfl (Nat.le_of_ble_eq_true rfl) rfl hF (tJ6_bitCount_0f7a4 Z (h12.1 206 5) trivial h12) (fun w15 h14 hF => ?_)
              refine j_iadd (pc := 112) X dX11_need_112 ?_
              exact j_iret (pc := 113) X E dX11_need_113 hF
            refine j_lki (pc := 66) (off := 48) (v := 1) (tgt := 114) X dX11_need_66 rfl (by decide) rfl hF (fun hF => ?_) (fun c17 hF => ?_)
            · refine j_aload_n (pc := 114) 0 X dX11_need_114 rfl ?_
              refine j_getr (pc := 115) X dX11_need_115 (hz _ sh_100) fl_X11_76 rfl ?_
              refine j_geti (pc := 118) X dX11_need_118 (hz _ sh_206) fl_X11_296 rfl ?_
              exact j_iret (pc := 121) X E dX11_need_121 hF
            refine j_lkd (pc := 66) (tgt := 122) X dX11_need_66 rfl ((lv_osw (a := 0) (o := 26) c16 rfl).trans ((lv_osw (a := 1) (o := 48) c17 rfl).trans rfl)) rfl ?_
            refine j_aload_n (pc := 122) 0 X dX11_need_122 rfl ?_
            refine j_getr (pc := 123) X dX11_need_123 (hz _ sh_100) fl_X11_76 rfl ?_
            refine j_geti (pc := 126) X dX11_need_126 (hz _ sh_206) fl_X11_304 rfl ?_
            exact j_iret (pc := 129) X E dX11_need_129 hF
          · refine j_bipush (pc := 61) (-2) X dX11_need_61 rfl ?_
            exact j_iret (pc := 63) X E dX11_need_63 hF
        · refine j_iconst (pc := 36) (-1) X dX11_need_36 rfl ?_
          exact j_iret (pc := 37) X E dX11_need_37 hF
theorem dX11_asks_0 : decode cX11_asks 0 = .ok (.aload_n 0, 1) := by decide +kernel
theorem dX11_asks_1 : decode cX11_asks 1 = .ok (.iload_n 1, 1) := by decide +kernel
theorem dX11_asks_2 : decode cX11_asks 2 = .ok (.invokevirtual 148, 3) := by decide +kernel
theorem dX11_asks_5 : decode cX11_asks 5 = .ok (.ifCond .eq 18, 3) := by decide +kernel
theorem dX11_asks_8 : decode cX11_asks 8 = .ok (.aload_n 0, 1) := by decide +kernel
theorem dX11_asks_9 : decode cX11_asks 9 = .ok (.getfield 26, 3) := by decide +kernel
theorem dX11_asks_12 : decode cX11_asks 12 = .ok (.getfield 152, 3) := by decide +kernel
theorem dX11_asks_15 : decode cX11_asks 15 = .ok (.iload_n 1, 1) := by decide +kernel
theorem dX11_asks_16 : decode cX11_asks 16 = .ok (.aaload, 1) := by decide +kernel
theorem dX11_asks_17 : decode cX11_asks 17 = .ok (.getfield 307, 3) := by decide +kernel
theorem dX11_asks_20 : decode cX11_asks 20 = .ok (.goto 4, 3) := by decide +kernel
theorem dX11_asks_23 : decode cX11_asks 23 = .ok (.iconst (-1), 1) := by decide +kernel
theorem dX11_asks_24 : decode cX11_asks 24 = .ok (.ireturn, 1) := by decide +kernel
def fX11_asks (a1 : Int32) (h : Hp) : Option (Int32 × Hp) := bi (fX11_isLetter a1 h) (fun w2 h1 => (if w2 = 0 then some ((-1), h1) else ck (inb a1 10) (some ((h1.1 (115 + ix a1) 7), h1))))
set_option maxRecDepth 20000 in
theorem tX11_asks (Z : ZT) (a1 : Int32) (hz : HZ Z) (h : Hp) (r : Int32) (hr : Hp) (hF : fX11_asks a1 h = some (r, hr)) : MC Z yX11_asks cX11_asks 2 (some .int) 2 [.ref (Z.2.1 100), .int a1] h (some (.int r)) hr := by
  unfold fX11_asks at hF
  refine mc_start (by decide) (Nat.le_of_ble_eq_true rfl) (fun G X E => ?_)
  refine j_aload_n (pc := 0) 0 X dX11_asks_0 rfl ?_
  refine j_iload_n (pc := 1) 1 X dX11_asks_1 rfl ?_
  refine j_cVi (pc := 2) (As := [.int a1]) (rest := []) X dX11_asks_2 ml_X11_148 ck_X11_isLetter cv_X11_isLetter (hz _ sh_100) rfl (Nat.le_of_ble_eq_true rfl) rfl (Nat.le_of_ble_eq_true rfl) rfl hF (tX11_isLetter Z a1 hz h) (fun w2 h1 hF => ?_)
  refine j_if_eq (pc := 5) 23 X dX11_asks_5 rfl hF (fun hF => ?_) (fun hF => ?_)
  · refine j_iconst (pc := 23) (-1) X dX11_asks_23 rfl ?_
    exact j_iret (pc := 24) X E dX11_asks_24 hF
  · refine j_aload_n (pc := 8) 0 X dX11_asks_8 rfl ?_
    refine j_getr (pc := 9) X dX11_asks_9 (hz _ sh_100) fl_X11_26 rfl ?_
    refine j_getr (pc := 12) X dX11_asks_12 (hz _ sh_108) fl_X11_152 rfl ?_
    refine j_iload_n (pc := 15) 1 X dX11_asks_15 rfl ?_
    refine j_aald (pc := 16) (g := fun j => 115 + j) (C := "AfterOffice$Letter") X dX11_asks_16 (hz _ sh_111) (fun _ => rfl) rfl al_111 hF (fun hb3 hF => ?_)
    refine j_geti (pc := 17) X dX11_asks_17 (hz _ (shL (is_111 hb3))) fl_X11_307 rfl ?_
    refine j_goto (pc := 20) 24 X dX11_asks_20 rfl ?_
    exact j_iret (pc := 24) X E dX11_asks_24 hF
theorem dX11_ring_0 : decode cX11_ring 0 = .ok (.aload_n 0, 1) := by decide +kernel
theorem dX11_ring_1 : decode cX11_ring 1 = .ok (.iload_n 1, 1) := by decide +kernel
theorem dX11_ring_2 : decode cX11_ring 2 = .ok (.invokevirtual 148, 3) := by decide +kernel
theorem dX11_ring_5 : decode cX11_ring 5 = .ok (.ifCond .eq 14, 3) := by decide +kernel
theorem dX11_ring_8 : decode cX11_ring 8 = .ok (.aload_n 0, 1) := by decide +kernel
theorem dX11_ring_9 : decode cX11_ring 9 = .ok (.getfield 83, 3) := by decide +kernel
theorem dX11_ring_12 : decode cX11_ring 12 = .ok (.iload_n 1, 1) := by decide +kernel
theorem dX11_ring_13 : decode cX11_ring 13 = .ok (.invokevirtual 310, 3) := by decide +kernel
theorem dX11_ring_16 : decode cX11_ring 16 = .ok (.goto 4, 3) := by decide +kernel
theorem dX11_ring_19 : decode cX11_ring 19 = .ok (.iconst (-1), 1) := by decide +kernel
theorem dX11_ring_20 : decode cX11_ring 20 = .ok (.ireturn, 1) := by decide +kernel
def fX11_ring (a1 : Int32) (h : Hp) : Option (Int32 × Hp) := bi (fX11_isLetter a1 h) (fun w2 h1 => (if w2 = 0 then some ((-1), h1) else bi (fX7_ringOf a1 h1) (fun w4 h3 => some (w4, h3))))
set_option maxRecDepth 20000 in
theorem tX11_ring (Z : ZT) (a1 : Int32) (hz : HZ Z) (h : Hp) (r : Int32) (hr : Hp) (hF : fX11_ring a1 h = some (r, hr)) : MC Z yX11_ring cX11_ring 2 (some .int) 3 [.ref (Z.2.1 100), .int a1] h (some (.int r)) hr := by
  unfold fX11_ring at hF
  refine mc_start (by decide) (Nat.le_of_ble_eq_true rfl) (fun G X E => ?_)
  refine j_aload_n (pc := 0) 0 X dX11_ring_0 rfl ?_
  refine j_iload_n (pc := 1) 1 X dX11_ring_1 rfl ?_
  refine j_cVi (pc := 2) (As := [.int a1]) (rest := []) X dX11_ring_2 ml_X11_148 ck_X11_isLetter cv_X11_isLetter (hz _ sh_100) rfl (Nat.le_of_ble_eq_true rfl) rfl (Nat.le_of_ble_eq_true rfl) rfl hF (tX11_isLetter Z a1 hz h) (fun w2 h1 hF => ?_)
  refine j_if_eq (pc := 5) 19 X dX11_ring_5 rfl hF (fun hF => ?_) (fun hF => ?_)
  · refine j_iconst (pc := 19) (-1) X dX11_ring_19 rfl ?_
    exact j_iret (pc := 20) X E dX11_ring_20 hF
  · refine j_aload_n (pc := 8) 0 X dX11_ring_8 rfl ?_
    refine j_getr (pc := 9) X dX11_ring_9 (hz _ sh_100) fl_X11_83 rfl ?_
    refine j_iload_n (pc := 12) 1 X dX11_ring_12 rfl ?_
    refine j_cVi (pc := 13) (As := [.int a1]) (rest := []) X dX11_ring_13 ml_X11_310 ck_X7_ringOf cv_X7_ringOf (hz _ sh_209) rfl (Nat.le_of_ble_eq_true rfl) rfl (Nat.le_of_ble_eq_true rfl) rfl hF (tX7_ringOf Z a1 hz h1) (fun w4 h3 hF => ?_)
    refine j_goto (pc := 16) 20 X dX11_ring_16 rfl ?_
    exact j_iret (pc := 20) X E dX11_ring_20 hF
theorem dX11_rings_0 : decode cX11_rings 0 = .ok (.aload_n 0, 1) := by decide +kernel
theorem dX11_rings_1 : decode cX11_rings 1 = .ok (.getfield 83, 3) := by decide +kernel
theorem dX11_rings_4 : decode cX11_rings 4 = .ok (.invokevirtual 313, 3) := by decide +kernel
theorem dX11_rings_7 : decode cX11_rings 7 = .ok (.ireturn, 1) := by decide +kernel
def fX11_rings  (h : Hp) : Option (Int32 × Hp) := bi (fX7_howMany h) (fun w2 h1 => some (w2, h1))
set_option maxRecDepth 20000 in
theorem tX11_rings (Z : ZT)  (hz : HZ Z) (h : Hp) (r : Int32) (hr : Hp) (hF : fX11_rings  h = some (r, hr)) : MC Z yX11_rings cX11_rings 1 (some .int) 3 [.ref (Z.2.1 100)] h (some (.int r)) hr := by
  unfold fX11_rings at hF
  refine mc_start (by decide) (Nat.le_of_ble_eq_true rfl) (fun G X E => ?_)
  refine j_aload_n (pc := 0) 0 X dX11_rings_0 rfl ?_
  refine j_getr (pc := 1) X dX11_rings_1 (hz _ sh_100) fl_X11_83 rfl ?_
  refine j_cVi (pc := 4) (As := []) (rest := []) X dX11_rings_4 ml_X11_313 ck_X7_howMany cv_X7_howMany (hz _ sh_209) rfl (Nat.le_of_ble_eq_true rfl) rfl (Nat.le_of_ble_eq_true rfl) rfl hF (tX7_howMany Z hz h) (fun w2 h1 hF => ?_)
  exact j_iret (pc := 7) X E dX11_rings_7 hF
theorem dX11_burn_0 : decode cX11_burn 0 = .ok (.aload_n 0, 1) := by decide +kernel
theorem dX11_burn_1 : decode cX11_burn 1 = .ok (.getfield 83, 3) := by decide +kernel
theorem dX11_burn_4 : decode cX11_burn 4 = .ok (.invokevirtual 317, 3) := by decide +kernel
theorem dX11_burn_7 : decode cX11_burn 7 = .ok (.ireturn, 1) := by decide +kernel
def fX11_burn  (h : Hp) : Option (Int32 × Hp) := bi (fX7_fewestToBurn h) (fun w2 h1 => some (w2, h1))
set_option maxRecDepth 20000 in
theorem tX11_burn (Z : ZT)  (hz : HZ Z) (h : Hp) (r : Int32) (hr : Hp) (hF : fX11_burn  h = some (r, hr)) : MC Z yX11_burn cX11_burn 1 (some .int) 3 [.ref (Z.2.1 100)] h (some (.int r)) hr := by
  unfold fX11_burn at hF
  refine mc_start (by decide) (Nat.le_of_ble_eq_true rfl) (fun G X E => ?_)
  refine j_aload_n (pc := 0) 0 X dX11_burn_0 rfl ?_
  refine j_getr (pc := 1) X dX11_burn_1 (hz _ sh_100) fl_X11_83 rfl ?_
  refine j_cVi (pc := 4) (As := []) (rest := []) X dX11_burn_4 ml_X11_317 ck_X7_fewestToBurn cv_X7_fewestToBurn (hz _ sh_209) rfl (Nat.le_of_ble_eq_true rfl) rfl (Nat.le_of_ble_eq_true rfl) rfl hF (tX7_fewestToBurn Z hz h) (fun w2 h1 hF => ?_)
  exact j_iret (pc := 7) X E dX11_burn_7 hF
theorem dX11_future_0 : decode cX11_future 0 = .ok (.aload_n 0, 1) := by decide +kernel
theorem dX11_future_1 : decode cX11_future 1 = .ok (.iload_n 1, 1) := by decide +kernel
theorem dX11_future_2 : decode cX11_future 2 = .ok (.invokevirtual 148, 3) := by decide +kernel
theorem dX11_future_5 : decode cX11_future 5 = .ok (.ifCond .eq 35, 3) := by decide +kernel
theorem dX11_future_8 : decode cX11_future 8 = .ok (.aload_n 0, 1) := by decide +kernel
theorem dX11_future_9 : decode cX11_future 9 = .ok (.iload_n 2, 1) := by decide +kernel
theorem dX11_future_10 : decode cX11_future 10 = .ok (.invokevirtual 176, 3) := by decide +kernel
theorem dX11_future_13 : decode cX11_future 13 = .ok (.ifCond .eq 27, 3) := by decide +kernel
theorem dX11_future_16 : decode cX11_future 16 = .ok (.aload_n 0, 1) := by decide +kernel
theorem dX11_future_17 : decode cX11_future 17 = .ok (.iload_n 3, 1) := by decide +kernel
theorem dX11_future_18 : decode cX11_future 18 = .ok (.iload 4, 2) := by decide +kernel
theorem dX11_future_20 : decode cX11_future 20 = .ok (.invokevirtual 289, 3) := by decide +kernel
theorem dX11_future_23 : decode cX11_future 23 = .ok (.ifCond .eq 17, 3) := by decide +kernel
theorem dX11_future_26 : decode cX11_future 26 = .ok (.iload 5, 2) := by decide +kernel
theorem dX11_future_28 : decode cX11_future 28 = .ok (.iconst 0, 1) := by decide +kernel
theorem dX11_future_29 : decode cX11_future 29 = .ok (.iconst 2, 1) := by decide +kernel
theorem dX11_future_30 : decode cX11_future 30 = .ok (.invokestatic 106, 3) := by decide +kernel
theorem dX11_future_33 : decode cX11_future 33 = .ok (.ifCond .eq 7, 3) := by decide +kernel
theorem dX11_future_36 : decode cX11_future 36 = .ok (.iconst 1, 1) := by decide +kernel
theorem dX11_future_37 : decode cX11_future 37 = .ok (.goto 4, 3) := by decide +kernel
theorem dX11_future_40 : decode cX11_future 40 = .ok (.iconst 0, 1) := by decide +kernel
theorem dX11_future_41 : decode cX11_future 41 = .ok (.istore 6, 2) := by decide +kernel
theorem dX11_future_43 : decode cX11_future 43 = .ok (.iload 6, 2) := by decide +kernel
theorem dX11_future_45 : decode cX11_future 45 = .ok (.ifCond .eq 12, 3) := by decide +kernel
theorem dX11_future_48 : decode cX11_future 48 = .ok (.iload 4, 2) := by decide +kernel
theorem dX11_future_50 : decode cX11_future 50 = .ok (.iload_n 1, 1) := by decide +kernel
theorem dX11_future_51 : decode cX11_future 51 = .ok (.invokestatic 196, 3) := by decide +kernel
theorem dX11_future_54 : decode cX11_future 54 = .ok (.ifCond .eq 5, 3) := by decide +kernel
theorem dX11_future_57 : decode cX11_future 57 = .ok (.iconst (-1), 1) := by decide +kernel
theorem dX11_future_58 : decode cX11_future 58 = .ok (.ireturn, 1) := by decide +kernel
theorem dX11_future_59 : decode cX11_future 59 = .ok (.aload_n 0, 1) := by decide +kernel
theorem dX11_future_60 : decode cX11_future 60 = .ok (.getfield 26, 3) := by decide +kernel
theorem dX11_future_63 : decode cX11_future 63 = .ok (.getfield 103, 3) := by decide +kernel
theorem dX11_future_66 : decode cX11_future 66 = .ok (.iconst 5, 1) := by decide +kernel
theorem dX11_future_67 : decode cX11_future 67 = .ok (.if_icmp .gt 15, 3) := by decide +kernel
theorem dX11_future_70 : decode cX11_future 70 = .ok (.aload_n 0, 1) := by decide +kernel
theorem dX11_future_71 : decode cX11_future 71 = .ok (.getfield 26, 3) := by decide +kernel
theorem dX11_future_74 : decode cX11_future 74 = .ok (.getfield 110, 3) := by decide +kernel
theorem dX11_future_77 : decode cX11_future 77 = .ok (.bipush 6, 2) := by decide +kernel
theorem dX11_future_79 : decode cX11_future 79 = .ok (.if_icmp .le 6, 3) := by decide +kernel
theorem dX11_future_82 : decode cX11_future 82 = .ok (.bipush (-2), 2) := by decide +kernel
theorem dX11_future_84 : decode cX11_future 84 = .ok (.ireturn, 1) := by decide +kernel
theorem dX11_future_85 : decode cX11_future 85 = .ok (.aload_n 0, 1) := by decide +kernel
theorem dX11_future_86 : decode cX11_future 86 = .ok (.getfield 76, 3) := by decide +kernel
theorem dX11_future_89 : decode cX11_future 89 = .ok (.iload_n 1, 1) := by decide +kernel
theorem dX11_future_90 : decode cX11_future 90 = .ok (.iload_n 2, 1) := by decide +kernel
theorem dX11_future_91 : decode cX11_future 91 = .ok (.iload_n 3, 1) := by decide +kernel
theorem dX11_future_92 : decode cX11_future 92 = .ok (.iload 4, 2) := by decide +kernel
theorem dX11_future_94 : decode cX11_future 94 = .ok (.invokevirtual 320, 3) := by decide +kernel
theorem dX11_future_97 : decode cX11_future 97 = .ok (.iload 5, 2) := by decide +kernel
theorem dX11_future_99 : decode cX11_future 99 = .ok (.lookupswitch 41 #[(0, 25), (1, 33)], 25) := by decide +kernel
theorem dX11_future_124 : decode cX11_future 124 = .ok (.aload_n 0, 1) := by decide +kernel
theorem dX11_future_125 : decode cX11_future 125 = .ok (.getfield 76, 3) := by decide +kernel
theorem dX11_future_128 : decode cX11_future 128 = .ok (.getfield 324, 3) := by decide +kernel
theorem dX11_future_131 : decode cX11_future 131 = .ok (.ireturn, 1) := by decide +kernel
theorem dX11_future_132 : decode cX11_future 132 = .ok (.aload_n 0, 1) := by decide +kernel
theorem dX11_future_133 : decode cX11_future 133 = .ok (.getfield 76, 3) := by decide +kernel
theorem dX11_future_136 : decode cX11_future 136 = .ok (.getfield 327, 3) := by decide +kernel
theorem dX11_future_139 : decode cX11_future 139 = .ok (.ireturn, 1) := by decide +kernel
theorem dX11_future_140 : decode cX11_future 140 = .ok (.aload_n 0, 1) := by decide +kernel
theorem dX11_future_141 : decode cX11_future 141 = .ok (.getfield 76, 3) := by decide +kernel
theorem dX11_future_144 : decode cX11_future 144 = .ok (.getfield 330, 3) := by decide +kernel
theorem dX11_future_147 : decode cX11_future 147 = .ok (.ifCond .eq 7, 3) := by decide +kernel
theorem dX11_future_150 : decode cX11_future 150 = .ok (.iconst 1, 1) := by decide +kernel
theorem dX11_future_151 : decode cX11_future 151 = .ok (.goto 4, 3) := by decide +kernel
theorem dX11_future_154 : decode cX11_future 154 = .ok (.iconst 0, 1) := by decide +kernel
theorem dX11_future_155 : decode cX11_future 155 = .ok (.ireturn, 1) := by decide +kernel
def bX11_future_41   (x1 : Int32) (x2 : Int32) (x3 : Int32) (x4 : Int32) (x5 : Int32) (s0 : Int32) (h : Hp) : Option (Int32 × Hp) := lt s0 (fun v1 => (if v1 = 0 then some ((-1), h) else bi (fX11_has x4 x1 h) (fun w3 h2 => (if w3 = 0 then (if 5 < (h2.1 108 6) then some ((-2), h2) else (if (h2.1 108 9) ≤ 6 then bv (fX10_foresee x1 x2 x3 x4 h2) (fun h4 => (if x5 = 0 then some ((h4.1 206 6), h4) else if x5 = 1 then some ((h4.1 206 7), h4) else (if (h4.1 206 8) = 0 then some (0, h4) else some (1, h4)))) else some ((-2), h2))) else some ((-1), h2)))))
set_option maxRecDepth 20000 in
theorem BX11_future_41 {Z : ZT} {G : GT} {r : Int32} {hr : Hp} (X : CX Z G cX11_future RX11 7 7) (E : RX Z G (some .int) (some (.int r)) hr) (hz : HZ Z)  (x1 : Int32) (x2 : Int32) (x3 : Int32) (x4 : Int32) (x5 : Int32) (s0 : Int32) (h : Hp) (hF : bX11_future_41   x1 x2 x3 x4 x5 s0 h = some (r, hr)) : J Z G 7 h 41 [(0, .ref (Z.2.1 100)), (1, .int x1), (2, .int x2), (3, .int x3), (4, .int x4), (5, .int x5)] [.int s0] := by
  unfold bX11_future_41 at hF
  refine j_istore (pc := 41) (fun y => [(6, .int y), (0, .ref (Z.2.1 100)), (1, .int x1), (2, .int x2), (3, .int x3), (4, .int x4), (5, .int x5)]) X dX11_future_41 (by decide) (fun _ => rfl) hF (fun v1 hF => ?_)
  refine j_iload (pc := 43) 0 X dX11_future_43 rfl ?_
  refine j_if_eq (pc := 45) 57 X dX11_future_45 rfl hF (fun hF => ?_) (fun hF => ?_)
  · refine j_iconst (pc := 57) (-1) X dX11_future_57 rfl ?_
    exact j_iret (pc := 58) X E dX11_future_58 hF
  · refine j_iload (pc := 48) 5 X dX11_future_48 rfl ?_
    refine j_iload_n (pc := 50) 2 X dX11_future_50 rfl ?_
    refine j_cSi (pc := 51) (As := [.int x4, .int x1]) (rest := []) X dX11_future_51 ml_X11_196 ck_X11_has sk_X11_has (Nat.le_of_ble_eq_true rfl) rfl (Nat.le_of_ble_eq_true rfl) rfl hF (tX11_has Z x4 x1 trivial h) (fun w3 h2 hF => ?_)
    refine j_if_eq (pc := 54) 59 X dX11_future_54 rfl hF (fun hF => ?_) (fun hF => ?_)
    · refine j_aload_n (pc := 59) 1 X dX11_future_59 rfl ?_
      refine j_getr (pc := 60) X dX11_future_60 (hz _ sh_100) fl_X11_26 rfl ?_
      refine j_geti (pc := 63) X dX11_future_63 (hz _ sh_108) fl_X11_103 rfl ?_
      refine j_iconst (pc := 66) 5 X dX11_future_66 rfl ?_
      refine j_icmp_gt (pc := 67) 82 X dX11_future_67 rfl hF (fun hF => ?_) (fun hF => ?_)
      · refine j_bipush (pc := 82) (-2) X dX11_future_82 rfl ?_
        exact j_iret (pc := 84) X E dX11_future_84 hF
      · refine j_aload_n (pc := 70) 1 X dX11_future_70 rfl ?_
        refine j_getr (pc := 71) X dX11_future_71 (hz _ sh_100) fl_X11_26 rfl ?_
        refine j_geti (pc := 74) X dX11_future_74 (hz _ sh_108) fl_X11_110 rfl ?_
        refine j_bipush (pc := 77) 6 X dX11_future_77 rfl ?_
        refine j_icmp_le (pc := 79) 85 X dX11_future_79 rfl hF (fun hF => ?_) (fun hF => ?_)
        · refine j_aload_n (pc := 85) 1 X dX11_future_85 rfl ?_
          refine j_getr (pc := 86) X dX11_future_86 (hz _ sh_100) fl_X11_76 rfl ?_
          refine j_iload_n (pc := 89) 2 X dX11_future_89 rfl ?_
          refine j_iload_n (pc := 90) 3 X dX11_future_90 rfl ?_
          refine j_iload_n (pc := 91) 4 X dX11_future_91 rfl ?_
          refine j_iload (pc := 92) 5 X dX11_future_92 rfl ?_
          refine j_cVv (pc := 94) (As := [.int x1, .int x2, .int x3, .int x4]) (rest := []) X dX11_future_94 ml_X11_320 ck_X10_foresee cv_X10_foresee (hz _ sh_206) rfl (Nat.le_of_ble_eq_true rfl) rfl (Nat.le_of_ble_eq_true rfl) rfl hF (tX10_foresee Z x1 x2 x3 x4 hz h2) (fun h4 hF => ?_)
          refine j_iload (pc := 97) 6 X dX11_future_97 rfl ?_
          refine j_lki (pc := 99) (off := 25) (v := 0) (tgt := 124) X dX11_future_99 rfl (by decide) rfl hF (fun hF => ?_) (fun c5 hF => ?_)
          · refine j_aload_n (pc := 124) 1 X dX11_future_124 rfl ?_
            refine j_getr (pc := 125) X dX11_future_125 (hz _ sh_100) fl_X11_76 rfl ?_
            refine j_geti (pc := 128) X dX11_future_128 (hz _ sh_206) fl_X11_324 rfl ?_
            exact j_iret (pc := 131) X E dX11_future_131 hF
          refine j_lki (pc := 99) (off := 33) (v := 1) (tgt := 132) X dX11_future_99 rfl (by decide) rfl hF (fun hF => ?_) (fun c6 hF => ?_)
          · refine j_aload_n (pc := 132) 1 X dX11_future_132 rfl ?_
            refine j_getr (pc := 133) X dX11_future_133 (hz _ sh_100) fl_X11_76 rfl ?_
            refine j_geti (pc := 136) X dX11_future_136 (hz _ sh_206) fl_X11_327 rfl ?_
            exact j_iret (pc := 139) X E dX11_future_139 hF
          refine j_lkd (pc := 99) (tgt := 140) X dX11_future_99 rfl ((lv_osw (a := 0) (o := 25) c5 rfl).trans ((lv_osw (a := 1) (o := 33) c6 rfl).trans rfl)) rfl ?_
          refine j_aload_n (pc := 140) 1 X dX11_future_140 rfl ?_
          refine j_getr (pc := 141) X dX11_future_141 (hz _ sh_100) fl_X11_76 rfl ?_
          refine j_geti (pc := 144) X dX11_future_144 (hz _ sh_206) fl_X11_330 rfl ?_
          refine j_if_eq (pc := 147) 154 X dX11_future_147 rfl hF (fun hF => ?_) (fun hF => ?_)
          · refine j_iconst (pc := 154) 0 X dX11_future_154 rfl ?_
            exact j_iret (pc := 155) X E dX11_future_155 hF
          · refine j_iconst (pc := 150) 1 X dX11_future_150 rfl ?_
            refine j_goto (pc := 151) 155 X dX11_future_151 rfl ?_
            exact j_iret (pc := 155) X E dX11_future_155 hF
        · refine j_bipush (pc := 82) (-2) X dX11_future_82 rfl ?_
          exact j_iret (pc := 84) X E dX11_future_84 hF
    · refine j_iconst (pc := 57) (-1) X dX11_future_57 rfl ?_
      exact j_iret (pc := 58) X E dX11_future_58 hF
def bX11_future_40   (x1 : Int32) (x2 : Int32) (x3 : Int32) (x4 : Int32) (x5 : Int32) (h : Hp) : Option (Int32 × Hp) := bX11_future_41 x1 x2 x3 x4 x5 0 h
set_option maxRecDepth 20000 in
theorem BX11_future_40 {Z : ZT} {G : GT} {r : Int32} {hr : Hp} (X : CX Z G cX11_future RX11 7 7) (E : RX Z G (some .int) (some (.int r)) hr) (hz : HZ Z)  (x1 : Int32) (x2 : Int32) (x3 : Int32) (x4 : Int32) (x5 : Int32) (h : Hp) (hF : bX11_future_40   x1 x2 x3 x4 x5 h = some (r, hr)) : J Z G 7 h 40 [(0, .ref (Z.2.1 100)), (1, .int x1), (2, .int x2), (3, .int x3), (4, .int x4), (5, .int x5)] [] := by
  unfold bX11_future_40 at hF
  refine j_iconst (pc := 40) 0 X dX11_future_40 rfl ?_
  exact BX11_future_41 X E hz x1 x2 x3 x4 x5 0 h hF
def fX11_future (a1 : Int32) (a2 : Int32) (a3 : Int32) (a4 : Int32) (a5 : Int32) (h : Hp) : Option (Int32 × Hp) := bi (fX11_isLetter a1 h) (fun w2 h1 => (if w2 = 0 then bX11_future_40 a1 a2 a3 a4 a5 h1 else bi (fX11_isYear a2 h1) (fun w4 h3 => (if w4 = 0 then bX11_future_40 a1 a2 a3 a4 a5 h3 else bi (fX11_areThere a3 a4 h3) (fun w6 h5 => (if w6 = 0 then bX11_future_40 a1 a2 a3 a4 a5 h5 else bi (fX11_within a5 0 2 h5) (fun w8 h7 => (if w8 = 0 then bX11_future_40 a1 a2 a3 a4 a5 h7 else bX11_future_41 a1 a2 a3 a4 a5 1 h7))))))))
set_option maxRecDepth 20000 in
theorem tX11_future (Z : ZT) (a1 : Int32) (a2 : Int32) (a3 : Int32) (a4 : Int32) (a5 : Int32) (hz : HZ Z) (h : Hp) (r : Int32) (hr : Hp) (hF : fX11_future a1 a2 a3 a4 a5 h = some (r, hr)) : MC Z yX11_future cX11_future 7 (some .int) 7 [.ref (Z.2.1 100), .int a1, .int a2, .int a3, .int a4, .int a5] h (some (.int r)) hr := by
  unfold fX11_future at hF
  refine mc_start (by decide) (Nat.le_of_ble_eq_true rfl) (fun G X E => ?_)
  refine j_aload_n (pc := 0) 0 X dX11_future_0 rfl ?_
  refine j_iload_n (pc := 1) 1 X dX11_future_1 rfl ?_
  refine j_cVi (pc := 2) (As := [.int a1]) (rest := []) X dX11_future_2 ml_X11_148 ck_X11_isLetter cv_X11_isLetter (hz _ sh_100) rfl (Nat.le_of_ble_eq_true rfl) rfl (Nat.le_of_ble_eq_true rfl) rfl hF (tX11_isLetter Z a1 hz h) (fun w2 h1 hF => ?_)
  refine j_if_eq (pc := 5) 40 X dX11_future_5 rfl hF (fun hF => ?_) (fun hF => ?_)
  · exact BX11_future_40 X E hz a1 a2 a3 a4 a5 h1 hF
  · refine j_aload_n (pc := 8) 0 X dX11_future_8 rfl ?_
    refine j_iload_n (pc := 9) 2 X dX11_future_9 rfl ?_
    refine j_cVi (pc := 10) (As := [.int a2]) (rest := []) X dX11_future_10 ml_X11_176 ck_X11_isYear cv_X11_isYear (hz _ sh_100) rfl (Nat.le_of_ble_eq_true rfl) rfl (Nat.le_of_ble_eq_true rfl) rfl hF (tX11_isYear Z a2 hz h1) (fun w4 h3 hF => ?_)
    refine j_if_eq (pc := 13) 40 X dX11_future_13 rfl hF (fun hF => ?_) (fun hF => ?_)
    · exact BX11_future_40 X E hz a1 a2 a3 a4 a5 h3 hF
    · refine j_aload_n (pc := 16) 0 X dX11_future_16 rfl ?_
      refine j_iload_n (pc := 17) 3 X dX11_future_17 rfl ?_
      refine j_iload (pc := 18) 4 X dX11_future_18 rfl ?_
      refine j_cVi (pc := 20) (As := [.int a3, .int a4]) (rest := []) X dX11_future_20 ml_X11_289 ck_X11_areThere cv_X11_areThere (hz _ sh_100) rfl (Nat.le_of_ble_eq_true rfl) rfl (Nat.le_of_ble_eq_true rfl) rfl hF (tX11_areThere Z a3 a4 hz h3) (fun w6 h5 hF => ?_)
      refine j_if_eq (pc := 23) 40 X dX11_future_23 rfl hF (fun hF => ?_) (fun hF => ?_)
      · exact BX11_future_40 X E hz a1 a2 a3 a4 a5 h5 hF
      · refine j_iload (pc := 26) 5 X dX11_future_26 rfl ?_
        refine j_iconst (pc := 28) 0 X dX11_future_28 rfl ?_
        refine j_iconst (pc := 29) 2 X dX11_future_29 rfl ?_
        refine j_cSi (pc := 30) (As := [.int a5, .int 0, .int 2]) (rest := []) X dX11_future_30 ml_X11_106 ck_X11_within sk_X11_within (Nat.le_of_ble_eq_true rfl) rfl (Nat.le_of_ble_eq_true rfl) rfl hF (tX11_within Z a5 0 2 trivial h5) (fun w8 h7 hF => ?_)
        refine j_if_eq (pc := 33) 40 X dX11_future_33 rfl hF (fun hF => ?_) (fun hF => ?_)
        · exact BX11_future_40 X E hz a1 a2 a3 a4 a5 h7 hF
        · refine j_iconst (pc := 36) 1 X dX11_future_36 rfl ?_
          refine j_goto (pc := 37) 41 X dX11_future_37 rfl ?_
          exact BX11_future_41 X E hz a1 a2 a3 a4 a5 1 h7 hF
theorem dX11_lives_0 : decode cX11_lives 0 = .ok (.aload_n 0, 1) := by decide +kernel
theorem dX11_lives_1 : decode cX11_lives 1 = .ok (.iload_n 1, 1) := by decide +kernel
theorem dX11_lives_2 : decode cX11_lives 2 = .ok (.invokevirtual 173, 3) := by decide +kernel
theorem dX11_lives_5 : decode cX11_lives 5 = .ok (.ifCond .eq 29, 3) := by decide +kernel
theorem dX11_lives_8 : decode cX11_lives 8 = .ok (.aload_n 0, 1) := by decide +kernel
theorem dX11_lives_9 : decode cX11_lives 9 = .ok (.iload_n 2, 1) := by decide +kernel
theorem dX11_lives_10 : decode cX11_lives 10 = .ok (.invokevirtual 176, 3) := by decide +kernel
theorem dX11_lives_13 : decode cX11_lives 13 = .ok (.ifCond .eq 21, 3) := by decide +kernel
theorem dX11_lives_16 : decode cX11_lives 16 = .ok (.iload_n 3, 1) := by decide +kernel
theorem dX11_lives_17 : decode cX11_lives 17 = .ok (.iconst 0, 1) := by decide +kernel
theorem dX11_lives_18 : decode cX11_lives 18 = .ok (.bipush 8, 2) := by decide +kernel
theorem dX11_lives_20 : decode cX11_lives 20 = .ok (.invokestatic 106, 3) := by decide +kernel
theorem dX11_lives_23 : decode cX11_lives 23 = .ok (.ifCond .eq 11, 3) := by decide +kernel
theorem dX11_lives_26 : decode cX11_lives 26 = .ok (.iload_n 2, 1) := by decide +kernel
theorem dX11_lives_27 : decode cX11_lives 27 = .ok (.iload_n 3, 1) := by decide +kernel
theorem dX11_lives_28 : decode cX11_lives 28 = .ok (.iadd, 1) := by decide +kernel
theorem dX11_lives_29 : decode cX11_lives 29 = .ok (.bipush 60, 2) := by decide +kernel
theorem dX11_lives_31 : decode cX11_lives 31 = .ok (.if_icmp .le 7, 3) := by decide +kernel
theorem dX11_lives_34 : decode cX11_lives 34 = .ok (.ldc2_w 334, 3) := by decide +kernel
theorem dX11_lives_37 : decode cX11_lives 37 = .ok (.lreturn, 1) := by decide +kernel
theorem dX11_lives_38 : decode cX11_lives 38 = .ok (.aload_n 0, 1) := by decide +kernel
theorem dX11_lives_39 : decode cX11_lives 39 = .ok (.getfield 76, 3) := by decide +kernel
theorem dX11_lives_42 : decode cX11_lives 42 = .ok (.iload_n 1, 1) := by decide +kernel
theorem dX11_lives_43 : decode cX11_lives 43 = .ok (.iload_n 2, 1) := by decide +kernel
theorem dX11_lives_44 : decode cX11_lives 44 = .ok (.iload_n 3, 1) := by decide +kernel
theorem dX11_lives_45 : decode cX11_lives 45 = .ok (.invokevirtual 336, 3) := by decide +kernel
theorem dX11_lives_48 : decode cX11_lives 48 = .ok (.lreturn, 1) := by decide +kernel
def fX11_lives (a1 : Int32) (a2 : Int32) (a3 : Int32) (h : Hp) : Option (Int64 × Hp) := bi (fX11_isPerson a1 h) (fun w2 h1 => (if w2 = 0 then some ((-1), h1) else bi (fX11_isYear a2 h1) (fun w4 h3 => (if w4 = 0 then some ((-1), h3) else bi (fX11_within a3 0 8 h3) (fun w6 h5 => (if w6 = 0 then some ((-1), h5) else (if (a2 + a3) ≤ 60 then bi (fX10_livesThrough a1 a2 a3 h5) (fun w8 h7 => some (w8, h7)) else some ((-1), h5))))))))
set_option maxRecDepth 20000 in
theorem tX11_lives (Z : ZT) (a1 : Int32) (a2 : Int32) (a3 : Int32) (hz : HZ Z) (h : Hp) (r : Int64) (hr : Hp) (hF : fX11_lives a1 a2 a3 h = some (r, hr)) : MC Z yX11_lives cX11_lives 4 (some .long) 2 [.ref (Z.2.1 100), .int a1, .int a2, .int a3] h (some (.long r)) hr := by
  unfold fX11_lives at hF
  refine mc_start (by decide) (Nat.le_of_ble_eq_true rfl) (fun G X E => ?_)
  refine j_aload_n (pc := 0) 0 X dX11_lives_0 rfl ?_
  refine j_iload_n (pc := 1) 1 X dX11_lives_1 rfl ?_
  refine j_cVi (pc := 2) (As := [.int a1]) (rest := []) X dX11_lives_2 ml_X11_173 ck_X11_isPerson cv_X11_isPerson (hz _ sh_100) rfl (Nat.le_of_ble_eq_true rfl) rfl (Nat.le_of_ble_eq_true rfl) rfl hF (tX11_isPerson Z a1 hz h) (fun w2 h1 hF => ?_)
  refine j_if_eq (pc := 5) 34 X dX11_lives_5 rfl hF (fun hF => ?_) (fun hF => ?_)
  · refine j_ldc2_w (pc := 34) X dX11_lives_34 k_X11_334 ?_
    exact j_lret (pc := 37) X E dX11_lives_37 hF
  · refine j_aload_n (pc := 8) 0 X dX11_lives_8 rfl ?_
    refine j_iload_n (pc := 9) 2 X dX11_lives_9 rfl ?_
    refine j_cVi (pc := 10) (As := [.int a2]) (rest := []) X dX11_lives_10 ml_X11_176 ck_X11_isYear cv_X11_isYear (hz _ sh_100) rfl (Nat.le_of_ble_eq_true rfl) rfl (Nat.le_of_ble_eq_true rfl) rfl hF (tX11_isYear Z a2 hz h1) (fun w4 h3 hF => ?_)
    refine j_if_eq (pc := 13) 34 X dX11_lives_13 rfl hF (fun hF => ?_) (fun hF => ?_)
    · refine j_ldc2_w (pc := 34) X dX11_lives_34 k_X11_334 ?_
      exact j_lret (pc := 37) X E dX11_lives_37 hF
    · refine j_iload_n (pc := 16) 3 X dX11_lives_16 rfl ?_
      refine j_iconst (pc := 17) 0 X dX11_lives_17 rfl ?_
      refine j_bipush (pc := 18) 8 X dX11_lives_18 rfl ?_
      refine j_cSi (pc := 20) (As := [.int a3, .int 0, .int 8]) (rest := []) X dX11_lives_20 ml_X11_106 ck_X11_within sk_X11_within (Nat.le_of_ble_eq_true rfl) rfl (Nat.le_of_ble_eq_true rfl) rfl hF (tX11_within Z a3 0 8 trivial h3) (fun w6 h5 hF => ?_)
      refine j_if_eq (pc := 23) 34 X dX11_lives_23 rfl hF (fun hF => ?_) (fun hF => ?_)
      · refine j_ldc2_w (pc := 34) X dX11_lives_34 k_X11_334 ?_
        exact j_lret (pc := 37) X E dX11_lives_37 hF
      · refine j_iload_n (pc := 26) 2 X dX11_lives_26 rfl ?_
        refine j_iload_n (pc := 27) 3 X dX11_lives_27 rfl ?_
        refine j_iadd (pc := 28) X dX11_lives_28 ?_
        refine j_bipush (pc := 29) 60 X dX11_lives_29 rfl ?_
        refine j_icmp_le (pc := 31) 38 X dX11_lives_31 rfl hF (fun hF => ?_) (fun hF => ?_)
        · refine j_aload_n (pc := 38) 0 X dX11_lives_38 rfl ?_
          refine j_getr (pc := 39) X dX11_lives_39 (hz _ sh_100) fl_X11_76 rfl ?_
          refine j_iload_n (pc := 42) 1 X dX11_lives_42 rfl ?_
          refine j_iload_n (pc := 43) 2 X dX11_lives_43 rfl ?_
          refine j_iload_n (pc := 44) 3 X dX11_lives_44 rfl ?_
          refine j_cVl (pc := 45) (As := [.int a1, .int a2, .int a3]) (rest := []) X dX11_lives_45 ml_X11_336 ck_X10_livesThrough cv_X10_livesThrough (hz _ sh_206) rfl (Nat.le_of_ble_eq_true rfl) rfl (Nat.le_of_ble_eq_true rfl) rfl hF (tX10_livesThrough Z a1 a2 a3 hz h5) (fun w8 h7 hF => ?_)
          exact j_lret (pc := 48) X E dX11_lives_48 hF
        · refine j_ldc2_w (pc := 34) X dX11_lives_34 k_X11_334 ?_
          exact j_lret (pc := 37) X E dX11_lives_37 hF
theorem dX11_odds_0 : decode cX11_odds 0 = .ok (.aload_n 0, 1) := by decide +kernel
theorem dX11_odds_1 : decode cX11_odds 1 = .ok (.iload_n 1, 1) := by decide +kernel
theorem dX11_odds_2 : decode cX11_odds 2 = .ok (.invokevirtual 148, 3) := by decide +kernel
theorem dX11_odds_5 : decode cX11_odds 5 = .ok (.ifCond .eq 28, 3) := by decide +kernel
theorem dX11_odds_8 : decode cX11_odds 8 = .ok (.aload_n 0, 1) := by decide +kernel
theorem dX11_odds_9 : decode cX11_odds 9 = .ok (.iload_n 2, 1) := by decide +kernel
theorem dX11_odds_10 : decode cX11_odds 10 = .ok (.invokevirtual 176, 3) := by decide +kernel
theorem dX11_odds_13 : decode cX11_odds 13 = .ok (.ifCond .eq 20, 3) := by decide +kernel
theorem dX11_odds_16 : decode cX11_odds 16 = .ok (.iload_n 3, 1) := by decide +kernel
theorem dX11_odds_17 : decode cX11_odds 17 = .ok (.iconst 1, 1) := by decide +kernel
theorem dX11_odds_18 : decode cX11_odds 18 = .ok (.iconst 2, 1) := by decide +kernel
theorem dX11_odds_19 : decode cX11_odds 19 = .ok (.invokestatic 106, 3) := by decide +kernel
theorem dX11_odds_22 : decode cX11_odds 22 = .ok (.ifCond .eq 11, 3) := by decide +kernel
theorem dX11_odds_25 : decode cX11_odds 25 = .ok (.iload_n 2, 1) := by decide +kernel
theorem dX11_odds_26 : decode cX11_odds 26 = .ok (.iload_n 3, 1) := by decide +kernel
theorem dX11_odds_27 : decode cX11_odds 27 = .ok (.iadd, 1) := by decide +kernel
theorem dX11_odds_28 : decode cX11_odds 28 = .ok (.bipush 60, 2) := by decide +kernel
theorem dX11_odds_30 : decode cX11_odds 30 = .ok (.if_icmp .le 7, 3) := by decide +kernel
theorem dX11_odds_33 : decode cX11_odds 33 = .ok (.ldc2_w 334, 3) := by decide +kernel
theorem dX11_odds_36 : decode cX11_odds 36 = .ok (.lreturn, 1) := by decide +kernel
theorem dX11_odds_37 : decode cX11_odds 37 = .ok (.aload_n 0, 1) := by decide +kernel
theorem dX11_odds_38 : decode cX11_odds 38 = .ok (.getfield 26, 3) := by decide +kernel
theorem dX11_odds_41 : decode cX11_odds 41 = .ok (.getfield 103, 3) := by decide +kernel
theorem dX11_odds_44 : decode cX11_odds 44 = .ok (.iconst 4, 1) := by decide +kernel
theorem dX11_odds_45 : decode cX11_odds 45 = .ok (.if_icmp .le 9, 3) := by decide +kernel
theorem dX11_odds_48 : decode cX11_odds 48 = .ok (.ldc2_w 340, 3) := by decide +kernel
theorem dX11_odds_51 : decode cX11_odds 51 = .ok (.goto 13, 3) := by decide +kernel
theorem dX11_odds_54 : decode cX11_odds 54 = .ok (.aload_n 0, 1) := by decide +kernel
theorem dX11_odds_55 : decode cX11_odds 55 = .ok (.getfield 76, 3) := by decide +kernel
theorem dX11_odds_58 : decode cX11_odds 58 = .ok (.iload_n 1, 1) := by decide +kernel
theorem dX11_odds_59 : decode cX11_odds 59 = .ok (.iload_n 2, 1) := by decide +kernel
theorem dX11_odds_60 : decode cX11_odds 60 = .ok (.iload_n 3, 1) := by decide +kernel
theorem dX11_odds_61 : decode cX11_odds 61 = .ok (.invokevirtual 342, 3) := by decide +kernel
theorem dX11_odds_64 : decode cX11_odds 64 = .ok (.lreturn, 1) := by decide +kernel
def fX11_odds (a1 : Int32) (a2 : Int32) (a3 : Int32) (h : Hp) : Option (Int64 × Hp) := bi (fX11_isLetter a1 h) (fun w2 h1 => (if w2 = 0 then some ((-1), h1) else bi (fX11_isYear a2 h1) (fun w4 h3 => (if w4 = 0 then some ((-1), h3) else bi (fX11_within a3 1 2 h3) (fun w6 h5 => (if w6 = 0 then some ((-1), h5) else (if (a2 + a3) ≤ 60 then (if (h5.1 108 6) ≤ 4 then bi (fX10_oddsOf a1 a2 a3 h5) (fun w8 h7 => some (w8, h7)) else some ((-2), h5)) else some ((-1), h5))))))))
set_option maxRecDepth 20000 in
theorem tX11_odds (Z : ZT) (a1 : Int32) (a2 : Int32) (a3 : Int32) (hz : HZ Z) (h : Hp) (r : Int64) (hr : Hp) (hF : fX11_odds a1 a2 a3 h = some (r, hr)) : MC Z yX11_odds cX11_odds 4 (some .long) 7 [.ref (Z.2.1 100), .int a1, .int a2, .int a3] h (some (.long r)) hr := by
  unfold fX11_odds at hF
  refine mc_start (by decide) (Nat.le_of_ble_eq_true rfl) (fun G X E => ?_)
  refine j_aload_n (pc := 0) 0 X dX11_odds_0 rfl ?_
  refine j_iload_n (pc := 1) 1 X dX11_odds_1 rfl ?_
  refine j_cVi (pc := 2) (As := [.int a1]) (rest := []) X dX11_odds_2 ml_X11_148 ck_X11_isLetter cv_X11_isLetter (hz _ sh_100) rfl (Nat.le_of_ble_eq_true rfl) rfl (Nat.le_of_ble_eq_true rfl) rfl hF (tX11_isLetter Z a1 hz h) (fun w2 h1 hF => ?_)
  refine j_if_eq (pc := 5) 33 X dX11_odds_5 rfl hF (fun hF => ?_) (fun hF => ?_)
  · refine j_ldc2_w (pc := 33) X dX11_odds_33 k_X11_334 ?_
    exact j_lret (pc := 36) X E dX11_odds_36 hF
  · refine j_aload_n (pc := 8) 0 X dX11_odds_8 rfl ?_
    refine j_iload_n (pc := 9) 2 X dX11_odds_9 rfl ?_
    refine j_cVi (pc := 10) (As := [.int a2]) (rest := []) X dX11_odds_10 ml_X11_176 ck_X11_isYear cv_X11_isYear (hz _ sh_100) rfl (Nat.le_of_ble_eq_true rfl) rfl (Nat.le_of_ble_eq_true rfl) rfl hF (tX11_isYear Z a2 hz h1) (fun w4 h3 hF => ?_)
    refine j_if_eq (pc := 13) 33 X dX11_odds_13 rfl hF (fun hF => ?_) (fun hF => ?_)
    · refine j_ldc2_w (pc := 33) X dX11_odds_33 k_X11_334 ?_
      exact j_lret (pc := 36) X E dX11_odds_36 hF
    · refine j_iload_n (pc := 16) 3 X dX11_odds_16 rfl ?_
      refine j_iconst (pc := 17) 1 X dX11_odds_17 rfl ?_
      refine j_iconst (pc := 18) 2 X dX11_odds_18 rfl ?_
      refine j_cSi (pc := 19) (As := [.int a3, .int 1, .int 2]) (rest := []) X dX11_odds_19 ml_X11_106 ck_X11_within sk_X11_within (Nat.le_of_ble_eq_true rfl) rfl (Nat.le_of_ble_eq_true rfl) rfl hF (tX11_within Z a3 1 2 trivial h3) (fun w6 h5 hF => ?_)
      refine j_if_eq (pc := 22) 33 X dX11_odds_22 rfl hF (fun hF => ?_) (fun hF => ?_)
      · refine j_ldc2_w (pc := 33) X dX11_odds_33 k_X11_334 ?_
        exact j_lret (pc := 36) X E dX11_odds_36 hF
      · refine j_iload_n (pc := 25) 2 X dX11_odds_25 rfl ?_
        refine j_iload_n (pc := 26) 3 X dX11_odds_26 rfl ?_
        refine j_iadd (pc := 27) X dX11_odds_27 ?_
        refine j_bipush (pc := 28) 60 X dX11_odds_28 rfl ?_
        refine j_icmp_le (pc := 30) 37 X dX11_odds_30 rfl hF (fun hF => ?_) (fun hF => ?_)
        · refine j_aload_n (pc := 37) 0 X dX11_odds_37 rfl ?_
          refine j_getr (pc := 38) X dX11_odds_38 (hz _ sh_100) fl_X11_26 rfl ?_
          refine j_geti (pc := 41) X dX11_odds_41 (hz _ sh_108) fl_X11_103 rfl ?_
          refine j_iconst (pc := 44) 4 X dX11_odds_44 rfl ?_
          refine j_icmp_le (pc := 45) 54 X dX11_odds_45 rfl hF (fun hF => ?_) (fun hF => ?_)
          · refine j_aload_n (pc := 54) 0 X dX11_odds_54 rfl ?_
            refine j_getr (pc := 55) X dX11_odds_55 (hz _ sh_100) fl_X11_76 rfl ?_
            refine j_iload_n (pc := 58) 1 X dX11_odds_58 rfl ?_
            refine j_iload_n (pc := 59) 2 X dX11_odds_59 rfl ?_
            refine j_iload_n (pc := 60) 3 X dX11_odds_60 rfl ?_
            refine j_cVl (pc := 61) (As := [.int a1, .int a2, .int a3]) (rest := []) X dX11_odds_61 ml_X11_342 ck_X10_oddsOf cv_X10_oddsOf (hz _ sh_206) rfl (Nat.le_of_ble_eq_true rfl) rfl (Nat.le_of_ble_eq_true rfl) rfl hF (tX10_oddsOf Z a1 a2 a3 hz h5) (fun w8 h7 hF => ?_)
            exact j_lret (pc := 64) X E dX11_odds_64 hF
          · refine j_ldc2_w (pc := 48) X dX11_odds_48 k_X11_340 ?_
            refine j_goto (pc := 51) 64 X dX11_odds_51 rfl ?_
            exact j_lret (pc := 64) X E dX11_odds_64 hF
        · refine j_ldc2_w (pc := 33) X dX11_odds_33 k_X11_334 ?_
          exact j_lret (pc := 36) X E dX11_odds_36 hF
theorem dX11_life_0 : decode cX11_life 0 = .ok (.iload_n 2, 1) := by decide +kernel
theorem dX11_life_1 : decode cX11_life 1 = .ok (.iconst 0, 1) := by decide +kernel
theorem dX11_life_2 : decode cX11_life 2 = .ok (.bipush 100, 2) := by decide +kernel
theorem dX11_life_4 : decode cX11_life 4 = .ok (.invokestatic 106, 3) := by decide +kernel
theorem dX11_life_7 : decode cX11_life 7 = .ok (.ifCond .eq 12, 3) := by decide +kernel
theorem dX11_life_10 : decode cX11_life 10 = .ok (.iload_n 3, 1) := by decide +kernel
theorem dX11_life_11 : decode cX11_life 11 = .ok (.iconst 0, 1) := by decide +kernel
theorem dX11_life_12 : decode cX11_life 12 = .ok (.iconst 4, 1) := by decide +kernel
theorem dX11_life_13 : decode cX11_life 13 = .ok (.invokestatic 106, 3) := by decide +kernel
theorem dX11_life_16 : decode cX11_life 16 = .ok (.ifCond .ne 5, 3) := by decide +kernel
theorem dX11_life_19 : decode cX11_life 19 = .ok (.iconst (-1), 1) := by decide +kernel
theorem dX11_life_20 : decode cX11_life 20 = .ok (.ireturn, 1) := by decide +kernel
theorem dX11_life_21 : decode cX11_life 21 = .ok (.aload_n 0, 1) := by decide +kernel
theorem dX11_life_22 : decode cX11_life 22 = .ok (.getfield 67, 3) := by decide +kernel
theorem dX11_life_25 : decode cX11_life 25 = .ok (.iload_n 1, 1) := by decide +kernel
theorem dX11_life_26 : decode cX11_life 26 = .ok (.iload_n 2, 1) := by decide +kernel
theorem dX11_life_27 : decode cX11_life 27 = .ok (.invokevirtual 345, 3) := by decide +kernel
theorem dX11_life_30 : decode cX11_life 30 = .ok (.astore 4, 2) := by decide +kernel
theorem dX11_life_32 : decode cX11_life 32 = .ok (.iload_n 3, 1) := by decide +kernel
theorem dX11_life_33 : decode cX11_life 33 = .ok (.tableswitch 72 0 3 #[31, 38, 45, 52], 31) := by decide +kernel
theorem dX11_life_64 : decode cX11_life 64 = .ok (.aload 4, 2) := by decide +kernel
theorem dX11_life_66 : decode cX11_life 66 = .ok (.iconst 1, 1) := by decide +kernel
theorem dX11_life_67 : decode cX11_life 67 = .ok (.invokevirtual 349, 3) := by decide +kernel
theorem dX11_life_70 : decode cX11_life 70 = .ok (.ireturn, 1) := by decide +kernel
theorem dX11_life_71 : decode cX11_life 71 = .ok (.aload 4, 2) := by decide +kernel
theorem dX11_life_73 : decode cX11_life 73 = .ok (.iconst 4, 1) := by decide +kernel
theorem dX11_life_74 : decode cX11_life 74 = .ok (.invokevirtual 349, 3) := by decide +kernel
theorem dX11_life_77 : decode cX11_life 77 = .ok (.ireturn, 1) := by decide +kernel
theorem dX11_life_78 : decode cX11_life 78 = .ok (.aload 4, 2) := by decide +kernel
theorem dX11_life_80 : decode cX11_life 80 = .ok (.iconst 5, 1) := by decide +kernel
theorem dX11_life_81 : decode cX11_life 81 = .ok (.invokevirtual 349, 3) := by decide +kernel
theorem dX11_life_84 : decode cX11_life 84 = .ok (.ireturn, 1) := by decide +kernel
theorem dX11_life_85 : decode cX11_life 85 = .ok (.iconst 1, 1) := by decide +kernel
theorem dX11_life_86 : decode cX11_life 86 = .ok (.aload_n 0, 1) := by decide +kernel
theorem dX11_life_87 : decode cX11_life 87 = .ok (.getfield 26, 3) := by decide +kernel
theorem dX11_life_90 : decode cX11_life 90 = .ok (.getfield 103, 3) := by decide +kernel
theorem dX11_life_93 : decode cX11_life 93 = .ok (.ishl, 1) := by decide +kernel
theorem dX11_life_94 : decode cX11_life 94 = .ok (.iconst 1, 1) := by decide +kernel
theorem dX11_life_95 : decode cX11_life 95 = .ok (.isub, 1) := by decide +kernel
theorem dX11_life_96 : decode cX11_life 96 = .ok (.aload 4, 2) := by decide +kernel
theorem dX11_life_98 : decode cX11_life 98 = .ok (.getfield 352, 3) := by decide +kernel
theorem dX11_life_101 : decode cX11_life 101 = .ok (.iconst (-1), 1) := by decide +kernel
theorem dX11_life_102 : decode cX11_life 102 = .ok (.ixor, 1) := by decide +kernel
theorem dX11_life_103 : decode cX11_life 103 = .ok (.iand, 1) := by decide +kernel
theorem dX11_life_104 : decode cX11_life 104 = .ok (.ireturn, 1) := by decide +kernel
theorem dX11_life_105 : decode cX11_life 105 = .ok (.aload 4, 2) := by decide +kernel
theorem dX11_life_107 : decode cX11_life 107 = .ok (.iconst 0, 1) := by decide +kernel
theorem dX11_life_108 : decode cX11_life 108 = .ok (.bipush 59, 2) := by decide +kernel
theorem dX11_life_110 : decode cX11_life 110 = .ok (.invokevirtual 271, 3) := by decide +kernel
theorem dX11_life_113 : decode cX11_life 113 = .ok (.ireturn, 1) := by decide +kernel
def fX11_life (a1 : Int32) (a2 : Int32) (a3 : Int32) (h : Hp) : Option (Int32 × Hp) := bi (fX11_within a2 0 100 h) (fun w2 h1 => (if w2 = 0 then some ((-1), h1) else bi (fX11_within a3 0 4 h1) (fun w4 h3 => (if w4 = 0 then some ((-1), h3) else bv (fX2_lifeOf a1 a2 h3) (fun h5 => (if a3.toInt < 0 ∨ 3 < a3.toInt then bi (fX1_paidFrom 190 0 59 h5) (fun w7 h6 => some (w7, h6)) else if a3 = 0 then bi (fX1_lettersThatAre 190 1 h5) (fun w9 h8 => some (w9, h8)) else if a3 = 1 then bi (fX1_lettersThatAre 190 4 h5) (fun w11 h10 => some (w11, h10)) else if a3 = 2 then bi (fX1_lettersThatAre 190 5 h5) (fun w13 h12 => some (w13, h12)) else if a3 = 3 then some (((((1 : Int32) <<< ((h5.1 108 6) &&& 31)) - 1) &&& ((h5.1 190 11) ^^^ (-1))), h5) else none))))))
set_option maxRecDepth 20000 in
theorem tX11_life (Z : ZT) (a1 : Int32) (a2 : Int32) (a3 : Int32) (hz : HZ Z) (h : Hp) (r : Int32) (hr : Hp) (hF : fX11_life a1 a2 a3 h = some (r, hr)) : MC Z yX11_life cX11_life 5 (some .int) 7 [.ref (Z.2.1 100), .int a1, .int a2, .int a3] h (some (.int r)) hr := by
  unfold fX11_life at hF
  refine mc_start (by decide) (Nat.le_of_ble_eq_true rfl) (fun G X E => ?_)
  refine j_iload_n (pc := 0) 2 X dX11_life_0 rfl ?_
  refine j_iconst (pc := 1) 0 X dX11_life_1 rfl ?_
  refine j_bipush (pc := 2) 100 X dX11_life_2 rfl ?_
  refine j_cSi (pc := 4) (As := [.int a2, .int 0, .int 100]) (rest := []) X dX11_life_4 ml_X11_106 ck_X11_within sk_X11_within (Nat.le_of_ble_eq_true rfl) rfl (Nat.le_of_ble_eq_true rfl) rfl hF (tX11_within Z a2 0 100 trivial h) (fun w2 h1 hF => ?_)
  refine j_if_eq (pc := 7) 19 X dX11_life_7 rfl hF (fun hF => ?_) (fun hF => ?_)
  · refine j_iconst (pc := 19) (-1) X dX11_life_19 rfl ?_
    exact j_iret (pc := 20) X E dX11_life_20 hF
  · refine j_iload_n (pc := 10) 3 X dX11_life_10 rfl ?_
    refine j_iconst (pc := 11) 0 X dX11_life_11 rfl ?_
    refine j_iconst (pc := 12) 4 X dX11_life_12 rfl ?_
    refine j_cSi (pc := 13) (As := [.int a3, .int 0, .int 4]) (rest := []) X dX11_life_13 ml_X11_106 ck_X11_within sk_X11_within (Nat.le_of_ble_eq_true rfl) rfl (Nat.le_of_ble_eq_true rfl) rfl hF (tX11_within Z a3 0 4 trivial h1) (fun w4 h3 hF => ?_)
    refine j_if_ne (pc := 16) 21 X dX11_life_16 rfl hF (fun hF => ?_) (fun hF => ?_)
    · refine j_aload_n (pc := 21) 0 X dX11_life_21 rfl ?_
      refine j_getr (pc := 22) X dX11_life_22 (hz _ sh_100) fl_X11_67 rfl ?_
      refine j_iload_n (pc := 25) 1 X dX11_life_25 rfl ?_
      refine j_iload_n (pc := 26) 2 X dX11_life_26 rfl ?_
      refine j_cVr (pc := 27) (As := [.int a1, .int a2]) (rest := []) X dX11_life_27 ml_X11_345 ck_X2_lifeOf cv_X2_lifeOf (hz _ sh_181) rfl (Nat.le_of_ble_eq_true rfl) rfl (Nat.le_of_ble_eq_true rfl) rfl hF (tX2_lifeOf Z a1 a2 hz h3) (fun h5 hF => ?_)
      refine j_astore (pc := 30) [(4, .ref (Z.2.1 190)), (0, .ref (Z.2.1 100)), (1, .int a1), (2, .int a2), (3, .int a3)] X dX11_life_30 (by decide) rfl ?_
      refine j_iload_n (pc := 32) 4 X dX11_life_32 rfl ?_
      refine j_tab (pc := 33) (tgt := 105) X dX11_life_33 rfl hF (fun hF => ?_) (fun hF => ?_)
      · refine j_aload (pc := 105) 0 X dX11_life_105 rfl ?_
        refine j_iconst (pc := 107) 0 X dX11_life_107 rfl ?_
        refine j_bipush (pc := 108) 59 X dX11_life_108 rfl ?_
        refine j_cVi (pc := 110) (As := [.int 0, .int 59]) (rest := []) X dX11_life_110 ml_X11_271 ck_X1_paidFrom cv_X1_paidFrom (hz _ sh_190) rfl (Nat.le_of_ble_eq_true rfl) rfl (Nat.le_of_ble_eq_true rfl) rfl hF (tX1_paidFrom Z 190 isC_190 0 59 hz h5) (fun w7 h6 hF => ?_)
        exact j_iret (pc := 113) X E dX11_life_113 hF
      refine j_tabi (pc := 33) (v := 0) (tgt := 64) X dX11_life_33 rfl rfl rfl rfl hF (fun hF => ?_) (fun hF => ?_)
      · refine j_aload (pc := 64) 0 X dX11_life_64 rfl ?_
        refine j_iconst (pc := 66) 1 X dX11_life_66 rfl ?_
        refine j_cVi (pc := 67) (As := [.int 1]) (rest := []) X dX11_life_67 ml_X11_349 ck_X1_lettersThatAre cv_X1_lettersThatAre (hz _ sh_190) rfl (Nat.le_of_ble_eq_true rfl) rfl (Nat.le_of_ble_eq_true rfl) rfl hF (tX1_lettersThatAre Z 190 isC_190 1 hz h5) (fun w9 h8 hF => ?_)
        exact j_iret (pc := 70) X E dX11_life_70 hF
      refine j_tabi (pc := 33) (v := 1) (tgt := 71) X dX11_life_33 rfl rfl rfl rfl hF (fun hF => ?_) (fun hF => ?_)
      · refine j_aload (pc := 71) 0 X dX11_life_71 rfl ?_
        refine j_iconst (pc := 73) 4 X dX11_life_73 rfl ?_
        refine j_cVi (pc := 74) (As := [.int 4]) (rest := []) X dX11_life_74 ml_X11_349 ck_X1_lettersThatAre cv_X1_lettersThatAre (hz _ sh_190) rfl (Nat.le_of_ble_eq_true rfl) rfl (Nat.le_of_ble_eq_true rfl) rfl hF (tX1_lettersThatAre Z 190 isC_190 4 hz h5) (fun w11 h10 hF => ?_)
        exact j_iret (pc := 77) X E dX11_life_77 hF
      refine j_tabi (pc := 33) (v := 2) (tgt := 78) X dX11_life_33 rfl rfl rfl rfl hF (fun hF => ?_) (fun hF => ?_)
      · refine j_aload (pc := 78) 0 X dX11_life_78 rfl ?_
        refine j_iconst (pc := 80) 5 X dX11_life_80 rfl ?_
        refine j_cVi (pc := 81) (As := [.int 5]) (rest := []) X dX11_life_81 ml_X11_349 ck_X1_lettersThatAre cv_X1_lettersThatAre (hz _ sh_190) rfl (Nat.le_of_ble_eq_true rfl) rfl (Nat.le_of_ble_eq_true rfl) rfl hF (tX1_lettersThatAre Z 190 isC_190 5 hz h5) (fun w13 h12 hF => ?_)
        exact j_iret (pc := 84) X E dX11_life_84 hF
      refine j_tabi (pc := 33) (v := 3) (tgt := 85) X dX11_life_33 rfl rfl rfl rfl hF (fun hF => ?_) (fun hF => ?_)
      · refine j_iconst (pc := 85) 1 X dX11_life_85 rfl ?_
        refine j_aload_n (pc := 86) 1 X dX11_life_86 rfl ?_
        refine j_getr (pc := 87) X dX11_life_87 (hz _ sh_100) fl_X11_26 rfl ?_
        refine j_geti (pc := 90) X dX11_life_90 (hz _ sh_108) fl_X11_103 rfl ?_
        refine j_ishl (pc := 93) X dX11_life_93 ?_
        refine j_iconst (pc := 94) 1 X dX11_life_94 rfl ?_
        refine j_isub (pc := 95) X dX11_life_95 ?_
        refine j_aload (pc := 96) 0 X dX11_life_96 rfl ?_
        refine j_geti (pc := 98) X dX11_life_98 (hz _ sh_190) fl_X11_352 rfl ?_
        refine j_iconst (pc := 101) (-1) X dX11_life_101 rfl ?_
        refine j_ixor (pc := 102) X dX11_life_102 ?_
        refine j_iand (pc := 103) X dX11_life_103 ?_
        exact j_iret (pc := 104) X E dX11_life_104 hF
      cases hF
    · refine j_iconst (pc := 19) (-1) X dX11_life_19 rfl ?_
      exact j_iret (pc := 20) X E dX11_life_20 hF
theorem dX11_chance_0 : decode cX11_chance 0 = .ok (.aload_n 0, 1) := by decide +kernel
theorem dX11_chance_1 : decode cX11_chance 1 = .ok (.iload_n 1, 1) := by decide +kernel
theorem dX11_chance_2 : decode cX11_chance 2 = .ok (.invokevirtual 148, 3) := by decide +kernel
theorem dX11_chance_5 : decode cX11_chance 5 = .ok (.ifCond .eq 24, 3) := by decide +kernel
theorem dX11_chance_8 : decode cX11_chance 8 = .ok (.iload_n 3, 1) := by decide +kernel
theorem dX11_chance_9 : decode cX11_chance 9 = .ok (.iconst 1, 1) := by decide +kernel
theorem dX11_chance_10 : decode cX11_chance 10 = .ok (.bipush 50, 2) := by decide +kernel
theorem dX11_chance_12 : decode cX11_chance 12 = .ok (.invokestatic 106, 3) := by decide +kernel
theorem dX11_chance_15 : decode cX11_chance 15 = .ok (.ifCond .eq 14, 3) := by decide +kernel
theorem dX11_chance_18 : decode cX11_chance 18 = .ok (.iload 4, 2) := by decide +kernel
theorem dX11_chance_20 : decode cX11_chance 20 = .ok (.iconst 0, 1) := by decide +kernel
theorem dX11_chance_21 : decode cX11_chance 21 = .ok (.bipush 100, 2) := by decide +kernel
theorem dX11_chance_23 : decode cX11_chance 23 = .ok (.invokestatic 106, 3) := by decide +kernel
theorem dX11_chance_26 : decode cX11_chance 26 = .ok (.ifCond .ne 5, 3) := by decide +kernel
theorem dX11_chance_29 : decode cX11_chance 29 = .ok (.iconst (-1), 1) := by decide +kernel
theorem dX11_chance_30 : decode cX11_chance 30 = .ok (.ireturn, 1) := by decide +kernel
theorem dX11_chance_31 : decode cX11_chance 31 = .ok (.iconst 0, 1) := by decide +kernel
theorem dX11_chance_32 : decode cX11_chance 32 = .ok (.istore 5, 2) := by decide +kernel
theorem dX11_chance_34 : decode cX11_chance 34 = .ok (.iconst 0, 1) := by decide +kernel
theorem dX11_chance_35 : decode cX11_chance 35 = .ok (.istore 6, 2) := by decide +kernel
theorem dX11_chance_37 : decode cX11_chance 37 = .ok (.iload 6, 2) := by decide +kernel
theorem dX11_chance_39 : decode cX11_chance 39 = .ok (.iload_n 3, 1) := by decide +kernel
theorem dX11_chance_40 : decode cX11_chance 40 = .ok (.if_icmp .ge 34, 3) := by decide +kernel
theorem dX11_chance_43 : decode cX11_chance 43 = .ok (.aload_n 0, 1) := by decide +kernel
theorem dX11_chance_44 : decode cX11_chance 44 = .ok (.getfield 67, 3) := by decide +kernel
theorem dX11_chance_47 : decode cX11_chance 47 = .ok (.iload_n 2, 1) := by decide +kernel
theorem dX11_chance_48 : decode cX11_chance 48 = .ok (.iload 6, 2) := by decide +kernel
theorem dX11_chance_50 : decode cX11_chance 50 = .ok (.iadd, 1) := by decide +kernel
theorem dX11_chance_51 : decode cX11_chance 51 = .ok (.iload 4, 2) := by decide +kernel
theorem dX11_chance_53 : decode cX11_chance 53 = .ok (.invokevirtual 345, 3) := by decide +kernel
theorem dX11_chance_56 : decode cX11_chance 56 = .ok (.getfield 229, 3) := by decide +kernel
theorem dX11_chance_59 : decode cX11_chance 59 = .ok (.iload_n 1, 1) := by decide +kernel
theorem dX11_chance_60 : decode cX11_chance 60 = .ok (.iaload, 1) := by decide +kernel
theorem dX11_chance_61 : decode cX11_chance 61 = .ok (.iconst 1, 1) := by decide +kernel
theorem dX11_chance_62 : decode cX11_chance 62 = .ok (.if_icmp .ne 6, 3) := by decide +kernel
theorem dX11_chance_65 : decode cX11_chance 65 = .ok (.iinc 5 1, 3) := by decide +kernel
theorem dX11_chance_68 : decode cX11_chance 68 = .ok (.iinc 6 1, 3) := by decide +kernel
theorem dX11_chance_71 : decode cX11_chance 71 = .ok (.goto (-34), 3) := by decide +kernel
theorem dX11_chance_74 : decode cX11_chance 74 = .ok (.iload 5, 2) := by decide +kernel
theorem dX11_chance_76 : decode cX11_chance 76 = .ok (.ireturn, 1) := by decide +kernel
def bX11_chance_68  (r37 : Int32 → Int32 → Int32 → Int32 → Int32 → Int32 → Hp → Option (Int32 × Hp)) (x1 : Int32) (x2 : Int32) (x3 : Int32) (x4 : Int32) (x5 : Int32) (x6 : Int32) (h : Hp) : Option (Int32 × Hp) := lt (x6 + 1) (fun v1 => r37 x1 x2 x3 x4 x5 v1 h)
set_option maxRecDepth 20000 in
theorem BX11_chance_68 {Z : ZT} {G : GT} {r : Int32} {hr : Hp} (X : CX Z G cX11_chance RX11 7 7) (E : RX Z G (some .int) (some (.int r)) hr) (hz : HZ Z) (r37 : Int32 → Int32 → Int32 → Int32 → Int32 → Int32 → Hp → Option (Int32 × Hp)) (hr37 : ∀ (x1 : Int32) (x2 : Int32) (x3 : Int32) (x4 : Int32) (x5 : Int32) (x6 : Int32) (h : Hp), r37 x1 x2 x3 x4 x5 x6 h = some (r, hr) → J Z G 7 h 37 [(0, .ref (Z.2.1 100)), (1, .int x1), (2, .int x2), (3, .int x3), (4, .int x4), (5, .int x5), (6, .int x6)] []) (x1 : Int32) (x2 : Int32) (x3 : Int32) (x4 : Int32) (x5 : Int32) (x6 : Int32) (h : Hp) (hF : bX11_chance_68  r37 x1 x2 x3 x4 x5 x6 h = some (r, hr)) : J Z G 7 h 68 [(0, .ref (Z.2.1 100)), (1, .int x1), (2, .int x2), (3, .int x3), (4, .int x4), (5, .int x5), (6, .int x6)] [] := by
  unfold bX11_chance_68 at hF
  refine j_iinc (pc := 68) 6 (x6 + 1) (fun y => [(6, .int y), (0, .ref (Z.2.1 100)), (1, .int x1), (2, .int x2), (3, .int x3), (4, .int x4), (5, .int x5)]) X dX11_chance_68 rfl rfl (by decide) (fun _ => rfl) hF (fun v1 hF => ?_)
  refine j_goto (pc := 71) 37 X dX11_chance_71 rfl ?_
  refine j_lv [(0, .ref (Z.2.1 100)), (1, .int x1), (2, .int x2), (3, .int x3), (4, .int x4), (5, .int x5), (6, .int v1)] [1, 2, 3, 4, 5, 6, 0] rfl ?_
  exact hr37 x1 x2 x3 x4 x5 v1 h hF
def bX11_chance_37   (r37 : Int32 → Int32 → Int32 → Int32 → Int32 → Int32 → Hp → Option (Int32 × Hp)) (x1 : Int32) (x2 : Int32) (x3 : Int32) (x4 : Int32) (x5 : Int32) (x6 : Int32) (h : Hp) : Option (Int32 × Hp) := (if x3 ≤ x6 then some (x5, h) else bv (fX2_lifeOf (x2 + x6) x4 h) (fun h1 => ck (inb x1 10) ((if (h1.1 191 (ix x1)) = 1 then lt (x5 + 1) (fun v2 => bX11_chance_68 r37 x1 x2 x3 x4 v2 x6 h1) else bX11_chance_68 r37 x1 x2 x3 x4 x5 x6 h1))))
def lX11_chance_37   : Nat → Int32 → Int32 → Int32 → Int32 → Int32 → Int32 → Hp → Option (Int32 × Hp)
  | 0 => fun _ _ _ _ _ _ _ => none
  | n + 1 => bX11_chance_37   (lX11_chance_37   n)
set_option maxRecDepth 20000 in
theorem BX11_chance_37 {Z : ZT} {G : GT} {r : Int32} {hr : Hp} (X : CX Z G cX11_chance RX11 7 7) (E : RX Z G (some .int) (some (.int r)) hr) (hz : HZ Z)  (r37 : Int32 → Int32 → Int32 → Int32 → Int32 → Int32 → Hp → Option (Int32 × Hp)) (hr37 : ∀ (x1 : Int32) (x2 : Int32) (x3 : Int32) (x4 : Int32) (x5 : Int32) (x6 : Int32) (h : Hp), r37 x1 x2 x3 x4 x5 x6 h = some (r, hr) → J Z G 7 h 37 [(0, .ref (Z.2.1 100)), (1, .int x1), (2, .int x2), (3, .int x3), (4, .int x4), (5, .int x5), (6, .int x6)] []) (x1 : Int32) (x2 : Int32) (x3 : Int32) (x4 : Int32) (x5 : Int32) (x6 : Int32) (h : Hp) (hF : bX11_chance_37   r37 x1 x2 x3 x4 x5 x6 h = some (r, hr)) : J Z G 7 h 37 [(0, .ref (Z.2.1 100)), (1, .int x1), (2, .int x2), (3, .int x3), (4, .int x4), (5, .int x5), (6, .int x6)] [] := by
  unfold bX11_chance_37 at hF
  refine j_iload (pc := 37) 6 X dX11_chance_37 rfl ?_
  refine j_iload_n (pc := 39) 3 X dX11_chance_39 rfl ?_
  refine j_icmp_ge (pc := 40) 74 X dX11_chance_40 rfl hF (fun hF => ?_) (fun hF => ?_)
  · refine j_iload (pc := 74) 5 X dX11_chance_74 rfl ?_
    exact j_iret (pc := 76) X E dX11_chance_76 hF
  · refine j_aload_n (pc := 43) 0 X dX11_chance_43 rfl ?_
    refine j_getr (pc := 44) X dX11_chance_44 (hz _ sh_100) fl_X11_67 rfl ?_
    refine j_iload_n (pc := 47) 2 X dX11_chance_47 rfl ?_
    refine j_iload (pc := 48) 6 X dX11_chance_48 rfl ?_
    refine j_iadd (pc := 50) X dX11_chance_50 ?_
    refine j_iload (pc := 51) 4 X dX11_chance_51 rfl ?_
    refine j_cVr (pc := 53) (As := [.int (x2 + x6), .int x4]) (rest := []) X dX11_chance_53 ml_X11_345 ck_X2_lifeOf cv_X2_lifeOf (hz _ sh_181) rfl (Nat.le_of_ble_eq_true rfl) rfl (Nat.le_of_ble_eq_true rfl) rfl hF (tX2_lifeOf Z (x2 + x6) x4 hz h) (fun h1 hF => ?_)
    refine j_getr (pc := 56) X dX11_chance_56 (hz _ sh_190) fl_X11_229 rfl ?_
    refine j_iload_n (pc := 59) 1 X dX11_chance_59 rfl ?_
    refine j_iald (pc := 60) X dX11_chance_60 (hz _ sh_191) hF (fun hF => ?_)
    refine j_iconst (pc := 61) 1 X dX11_chance_61 rfl ?_
    refine j_icmp_ne (pc := 62) 68 X dX11_chance_62 rfl hF (fun hF => ?_) (fun hF => ?_)
    · exact BX11_chance_68 X E hz r37 hr37 x1 x2 x3 x4 x5 x6 h1 hF
    · refine j_iinc (pc := 65) 5 (x5 + 1) (fun y => [(5, .int y), (0, .ref (Z.2.1 100)), (1, .int x1), (2, .int x2), (3, .int x3), (4, .int x4), (6, .int x6)]) X dX11_chance_65 rfl rfl (by decide) (fun _ => rfl) hF (fun v2 hF => ?_)
      refine j_lv [(0, .ref (Z.2.1 100)), (1, .int x1), (2, .int x2), (3, .int x3), (4, .int x4), (5, .int v2), (6, .int x6)] [1, 2, 3, 4, 5, 0, 6] rfl ?_
      exact BX11_chance_68 X E hz r37 hr37 x1 x2 x3 x4 v2 x6 h1 hF
theorem LX11_chance_37 {Z : ZT} {G : GT} {r : Int32} {hr : Hp} (X : CX Z G cX11_chance RX11 7 7) (E : RX Z G (some .int) (some (.int r)) hr) (hz : HZ Z)  : ∀ (n : Nat) (x1 : Int32) (x2 : Int32) (x3 : Int32) (x4 : Int32) (x5 : Int32) (x6 : Int32) (h : Hp), lX11_chance_37   n x1 x2 x3 x4 x5 x6 h = some (r, hr) → J Z G 7 h 37 [(0, .ref (Z.2.1 100)), (1, .int x1), (2, .int x2), (3, .int x3), (4, .int x4), (5, .int x5), (6, .int x6)] [] := by
  intro n
  induction n with
  | zero => intro x1 x2 x3 x4 x5 x6 h hF; cases hF
  | succ n ih => intro x1 x2 x3 x4 x5 x6 h hF; exact BX11_chance_37 X E hz  (lX11_chance_37   n) ih x1 x2 x3 x4 x5 x6 h hF
def fX11_chance (a1 : Int32) (a2 : Int32) (a3 : Int32) (a4 : Int32) (h : Hp) : Option (Int32 × Hp) := bi (fX11_isLetter a1 h) (fun w2 h1 => (if w2 = 0 then some ((-1), h1) else bi (fX11_within a3 1 50 h1) (fun w4 h3 => (if w4 = 0 then some ((-1), h3) else bi (fX11_within a4 0 100 h3) (fun w6 h5 => (if w6 = 0 then some ((-1), h5) else lt 0 (fun v7 => lt 0 (fun v8 => lX11_chance_37 FU a1 a2 a3 a4 v7 v8 h5))))))))
set_option maxRecDepth 20000 in
theorem tX11_chance (Z : ZT) (a1 : Int32) (a2 : Int32) (a3 : Int32) (a4 : Int32) (hz : HZ Z) (h : Hp) (r : Int32) (hr : Hp) (hF : fX11_chance a1 a2 a3 a4 h = some (r, hr)) : MC Z yX11_chance cX11_chance 7 (some .int) 7 [.ref (Z.2.1 100), .int a1, .int a2, .int a3, .int a4] h (some (.int r)) hr := by
  unfold fX11_chance at hF
  refine mc_start (by decide) (Nat.le_of_ble_eq_true rfl) (fun G X E => ?_)
  refine j_aload_n (pc := 0) 0 X dX11_chance_0 rfl ?_
  refine j_iload_n (pc := 1) 1 X dX11_chance_1 rfl ?_
  refine j_cVi (pc := 2) (As := [.int a1]) (rest := []) X dX11_chance_2 ml_X11_148 ck_X11_isLetter cv_X11_isLetter (hz _ sh_100) rfl (Nat.le_of_ble_eq_true rfl) rfl (Nat.le_of_ble_eq_true rfl) rfl hF (tX11_isLetter Z a1 hz h) (fun w2 h1 hF => ?_)
  refine j_if_eq (pc := 5) 29 X dX11_chance_5 rfl hF (fun hF => ?_) (fun hF => ?_)
  · refine j_iconst (pc := 29) (-1) X dX11_chance_29 rfl ?_
    exact j_iret (pc := 30) X E dX11_chance_30 hF
  · refine j_iload_n (pc := 8) 3 X dX11_chance_8 rfl ?_
    refine j_iconst (pc := 9) 1 X dX11_chance_9 rfl ?_
    refine j_bipush (pc := 10) 50 X dX11_chance_10 rfl ?_
    refine j_cSi (pc := 12) (As := [.int a3, .int 1, .int 50]) (rest := []) X dX11_chance_12 ml_X11_106 ck_X11_within sk_X11_within (Nat.le_of_ble_eq_true rfl) rfl (Nat.le_of_ble_eq_true rfl) rfl hF (tX11_within Z a3 1 50 trivial h1) (fun w4 h3 hF => ?_)
    refine j_if_eq (pc := 15) 29 X dX11_chance_15 rfl hF (fun hF => ?_) (fun hF => ?_)
    · refine j_iconst (pc := 29) (-1) X dX11_chance_29 rfl ?_
      exact j_iret (pc := 30) X E dX11_chance_30 hF
    · refine j_iload (pc := 18) 4 X dX11_chance_18 rfl ?_
      refine j_iconst (pc := 20) 0 X dX11_chance_20 rfl ?_
      refine j_bipush (pc := 21) 100 X dX11_chance_21 rfl ?_
      refine j_cSi (pc := 23) (As := [.int a4, .int 0, .int 100]) (rest := []) X dX11_chance_23 ml_X11_106 ck_X11_within sk_X11_within (Nat.le_of_ble_eq_true rfl) rfl (Nat.le_of_ble_eq_true rfl) rfl hF (tX11_within Z a4 0 100 trivial h3) (fun w6 h5 hF => ?_)
      refine j_if_ne (pc := 26) 31 X dX11_chance_26 rfl hF (fun hF => ?_) (fun hF => ?_)
      · refine j_iconst (pc := 31) 0 X dX11_chance_31 rfl ?_
        refine j_istore (pc := 32) (fun y => [(5, .int y), (0, .ref (Z.2.1 100)), (1, .int a1), (2, .int a2), (3, .int a3), (4, .int a4)]) X dX11_chance_32 (by decide) (fun _ => rfl) hF (fun v7 hF => ?_)
        refine j_iconst (pc := 34) 0 X dX11_chance_34 rfl ?_
        refine j_istore (pc := 35) (fun y => [(6, .int y), (5, .int v7), (0, .ref (Z.2.1 100)), (1, .int a1), (2, .int a2), (3, .int a3), (4, .int a4)]) X dX11_chance_35 (by decide) (fun _ => rfl) hF (fun v8 hF => ?_)
        refine j_lv [(0, .ref (Z.2.1 100)), (1, .int a1), (2, .int a2), (3, .int a3), (4, .int a4), (5, .int v7), (6, .int v8)] [2, 3, 4, 5, 6, 1, 0] rfl ?_
        exact LX11_chance_37 X E hz FU a1 a2 a3 a4 v7 v8 h5 hF
      · refine j_iconst (pc := 29) (-1) X dX11_chance_29 rfl ?_
        exact j_iret (pc := 30) X E dX11_chance_30 hF
theorem dX11_hold_0 : decode cX11_hold 0 = .ok (.iload_n 1, 1) := by decide +kernel
theorem dX11_hold_1 : decode cX11_hold 1 = .ok (.iconst 0, 1) := by decide +kernel
theorem dX11_hold_2 : decode cX11_hold 2 = .ok (.iconst 2, 1) := by decide +kernel
theorem dX11_hold_3 : decode cX11_hold 3 = .ok (.invokestatic 106, 3) := by decide +kernel
theorem dX11_hold_6 : decode cX11_hold 6 = .ok (.ifCond .ne 5, 3) := by decide +kernel
theorem dX11_hold_9 : decode cX11_hold 9 = .ok (.iconst 0, 1) := by decide +kernel
theorem dX11_hold_10 : decode cX11_hold 10 = .ok (.ireturn, 1) := by decide +kernel
theorem dX11_hold_11 : decode cX11_hold 11 = .ok (.aload_n 0, 1) := by decide +kernel
theorem dX11_hold_12 : decode cX11_hold 12 = .ok (.getfield 58, 3) := by decide +kernel
theorem dX11_hold_15 : decode cX11_hold 15 = .ok (.iload_n 1, 1) := by decide +kernel
theorem dX11_hold_16 : decode cX11_hold 16 = .ok (.aaload, 1) := by decide +kernel
theorem dX11_hold_17 : decode cX11_hold 17 = .ok (.aload_n 0, 1) := by decide +kernel
theorem dX11_hold_18 : decode cX11_hold 18 = .ok (.getfield 54, 3) := by decide +kernel
theorem dX11_hold_21 : decode cX11_hold 21 = .ok (.invokevirtual 355, 3) := by decide +kernel
theorem dX11_hold_24 : decode cX11_hold 24 = .ok (.aload_n 0, 1) := by decide +kernel
theorem dX11_hold_25 : decode cX11_hold 25 = .ok (.dup, 1) := by decide +kernel
theorem dX11_hold_26 : decode cX11_hold 26 = .ok (.getfield 87, 3) := by decide +kernel
theorem dX11_hold_29 : decode cX11_hold 29 = .ok (.iconst 1, 1) := by decide +kernel
theorem dX11_hold_30 : decode cX11_hold 30 = .ok (.iload_n 1, 1) := by decide +kernel
theorem dX11_hold_31 : decode cX11_hold 31 = .ok (.ishl, 1) := by decide +kernel
theorem dX11_hold_32 : decode cX11_hold 32 = .ok (.ior, 1) := by decide +kernel
theorem dX11_hold_33 : decode cX11_hold 33 = .ok (.putfield 87, 3) := by decide +kernel
theorem dX11_hold_36 : decode cX11_hold 36 = .ok (.iconst 1, 1) := by decide +kernel
theorem dX11_hold_37 : decode cX11_hold 37 = .ok (.ireturn, 1) := by decide +kernel
def fX11_hold (a1 : Int32) (h : Hp) : Option (Int32 × Hp) := bi (fX11_within a1 0 2 h) (fun w2 h1 => (if w2 = 0 then ck (zb 0) (some (0, h1)) else ck (inb a1 3) (bv (fX3_become (160 + 7 * ix a1) 152 h1) (fun h4 => lt (wI h4 100 11 ((h4.1 100 11) ||| ((1 : Int32) <<< (a1 &&& 31)))) (fun h5 => ck (zb 1) (some (1, h5)))))))
set_option maxRecDepth 20000 in
theorem tX11_hold (Z : ZT) (a1 : Int32) (hz : HZ Z) (h : Hp) (r : Int32) (hr : Hp) (hF : fX11_hold a1 h = some (r, hr)) : MC Z yX11_hold cX11_hold 2 (some .boolean) 2 [.ref (Z.2.1 100), .int a1] h (some (.int r)) hr := by
  unfold fX11_hold at hF
  refine mc_start (by decide) (Nat.le_of_ble_eq_true rfl) (fun G X E => ?_)
  refine j_iload_n (pc := 0) 1 X dX11_hold_0 rfl ?_
  refine j_iconst (pc := 1) 0 X dX11_hold_1 rfl ?_
  refine j_iconst (pc := 2) 2 X dX11_hold_2 rfl ?_
  refine j_cSi (pc := 3) (As := [.int a1, .int 0, .int 2]) (rest := []) X dX11_hold_3 ml_X11_106 ck_X11_within sk_X11_within (Nat.le_of_ble_eq_true rfl) rfl (Nat.le_of_ble_eq_true rfl) rfl hF (tX11_within Z a1 0 2 trivial h) (fun w2 h1 hF => ?_)
  refine j_if_ne (pc := 6) 11 X dX11_hold_6 rfl hF (fun hF => ?_) (fun hF => ?_)
  · refine j_aload_n (pc := 11) 0 X dX11_hold_11 rfl ?_
    refine j_getr (pc := 12) X dX11_hold_12 (hz _ sh_100) fl_X11_58 rfl ?_
    refine j_iload_n (pc := 15) 1 X dX11_hold_15 rfl ?_
    refine j_aald (pc := 16) (g := fun j => 160 + 7 * j) (C := "AfterOffice$Facts") X dX11_hold_16 (hz _ sh_159) (fun _ => rfl) rfl al_159 hF (fun hb3 hF => ?_)
    refine j_aload_n (pc := 17) 0 X dX11_hold_17 rfl ?_
    refine j_getr (pc := 18) X dX11_hold_18 (hz _ sh_100) fl_X11_54 rfl ?_
    refine j_cVv (pc := 21) (As := [.ref (Z.2.1 152)]) (rest := []) X dX11_hold_21 ml_X11_355 ck_X3_become cv_X3_become (hz _ (shF (is_159 hb3))) rfl (Nat.le_of_ble_eq_true rfl) rfl (Nat.le_of_ble_eq_true rfl) rfl hF (tX3_become Z (160 + 7 * ix a1) (is_159 hb3) 152 isF_152 hz h1) (fun h4 hF => ?_)
    refine j_aload_n (pc := 24) 0 X dX11_hold_24 rfl ?_
    refine j_dup (pc := 25) X dX11_hold_25 rfl ?_
    refine j_geti (pc := 26) X dX11_hold_26 (hz _ sh_100) fl_X11_87 rfl ?_
    refine j_iconst (pc := 29) 1 X dX11_hold_29 rfl ?_
    refine j_iload_n (pc := 30) 1 X dX11_hold_30 rfl ?_
    refine j_ishl (pc := 31) X dX11_hold_31 ?_
    refine j_ior (pc := 32) X dX11_hold_32 ?_
    refine j_puti (pc := 33) X dX11_hold_33 (hz _ sh_100) fp_X11_87 rfl hF (fun h5 hF => ?_)
    refine j_iconst (pc := 36) 1 X dX11_hold_36 rfl ?_
    exact j_zret (pc := 37) X E dX11_hold_37 hF
  · refine j_iconst (pc := 9) 0 X dX11_hold_9 rfl ?_
    exact j_zret (pc := 10) X E dX11_hold_10 hF
theorem dX11_restore_0 : decode cX11_restore 0 = .ok (.iload_n 1, 1) := by decide +kernel
theorem dX11_restore_1 : decode cX11_restore 1 = .ok (.iconst 0, 1) := by decide +kernel
theorem dX11_restore_2 : decode cX11_restore 2 = .ok (.iconst 2, 1) := by decide +kernel
theorem dX11_restore_3 : decode cX11_restore 3 = .ok (.invokestatic 106, 3) := by decide +kernel
theorem dX11_restore_6 : decode cX11_restore 6 = .ok (.ifCond .eq 14, 3) := by decide +kernel
theorem dX11_restore_9 : decode cX11_restore 9 = .ok (.aload_n 0, 1) := by decide +kernel
theorem dX11_restore_10 : decode cX11_restore 10 = .ok (.getfield 87, 3) := by decide +kernel
theorem dX11_restore_13 : decode cX11_restore 13 = .ok (.iload_n 1, 1) := by decide +kernel
theorem dX11_restore_14 : decode cX11_restore 14 = .ok (.invokestatic 196, 3) := by decide +kernel
theorem dX11_restore_17 : decode cX11_restore 17 = .ok (.ifCond .ne 5, 3) := by decide +kernel
theorem dX11_restore_20 : decode cX11_restore 20 = .ok (.iconst 0, 1) := by decide +kernel
theorem dX11_restore_21 : decode cX11_restore 21 = .ok (.ireturn, 1) := by decide +kernel
theorem dX11_restore_22 : decode cX11_restore 22 = .ok (.aload_n 0, 1) := by decide +kernel
theorem dX11_restore_23 : decode cX11_restore 23 = .ok (.getfield 54, 3) := by decide +kernel
theorem dX11_restore_26 : decode cX11_restore 26 = .ok (.aload_n 0, 1) := by decide +kernel
theorem dX11_restore_27 : decode cX11_restore 27 = .ok (.getfield 58, 3) := by decide +kernel
theorem dX11_restore_30 : decode cX11_restore 30 = .ok (.iload_n 1, 1) := by decide +kernel
theorem dX11_restore_31 : decode cX11_restore 31 = .ok (.aaload, 1) := by decide +kernel
theorem dX11_restore_32 : decode cX11_restore 32 = .ok (.invokevirtual 355, 3) := by decide +kernel
theorem dX11_restore_35 : decode cX11_restore 35 = .ok (.iconst 1, 1) := by decide +kernel
theorem dX11_restore_36 : decode cX11_restore 36 = .ok (.ireturn, 1) := by decide +kernel
def fX11_restore (a1 : Int32) (h : Hp) : Option (Int32 × Hp) := bi (fX11_within a1 0 2 h) (fun w2 h1 => (if w2 = 0 then ck (zb 0) (some (0, h1)) else bi (fX11_has (h1.1 100 11) a1 h1) (fun w4 h3 => (if w4 = 0 then ck (zb 0) (some (0, h3)) else ck (inb a1 3) (bv (fX3_become 152 (160 + 7 * ix a1) h3) (fun h6 => ck (zb 1) (some (1, h6))))))))
set_option maxRecDepth 20000 in
theorem tX11_restore (Z : ZT) (a1 : Int32) (hz : HZ Z) (h : Hp) (r : Int32) (hr : Hp) (hF : fX11_restore a1 h = some (r, hr)) : MC Z yX11_restore cX11_restore 2 (some .boolean) 2 [.ref (Z.2.1 100), .int a1] h (some (.int r)) hr := by
  unfold fX11_restore at hF
  refine mc_start (by decide) (Nat.le_of_ble_eq_true rfl) (fun G X E => ?_)
  refine j_iload_n (pc := 0) 1 X dX11_restore_0 rfl ?_
  refine j_iconst (pc := 1) 0 X dX11_restore_1 rfl ?_
  refine j_iconst (pc := 2) 2 X dX11_restore_2 rfl ?_
  refine j_cSi (pc := 3) (As := [.int a1, .int 0, .int 2]) (rest := []) X dX11_restore_3 ml_X11_106 ck_X11_within sk_X11_within (Nat.le_of_ble_eq_true rfl) rfl (Nat.le_of_ble_eq_true rfl) rfl hF (tX11_within Z a1 0 2 trivial h) (fun w2 h1 hF => ?_)
  refine j_if_eq (pc := 6) 20 X dX11_restore_6 rfl hF (fun hF => ?_) (fun hF => ?_)
  · refine j_iconst (pc := 20) 0 X dX11_restore_20 rfl ?_
    exact j_zret (pc := 21) X E dX11_restore_21 hF
  · refine j_aload_n (pc := 9) 0 X dX11_restore_9 rfl ?_
    refine j_geti (pc := 10) X dX11_restore_10 (hz _ sh_100) fl_X11_87 rfl ?_
    refine j_iload_n (pc := 13) 1 X dX11_restore_13 rfl ?_
    refine j_cSi (pc := 14) (As := [.int (h1.1 100 11), .int a1]) (rest := []) X dX11_restore_14 ml_X11_196 ck_X11_has sk_X11_has (Nat.le_of_ble_eq_true rfl) rfl (Nat.le_of_ble_eq_true rfl) rfl hF (tX11_has Z (h1.1 100 11) a1 trivial h1) (fun w4 h3 hF => ?_)
    refine j_if_ne (pc := 17) 22 X dX11_restore_17 rfl hF (fun hF => ?_) (fun hF => ?_)
    · refine j_aload_n (pc := 22) 0 X dX11_restore_22 rfl ?_
      refine j_getr (pc := 23) X dX11_restore_23 (hz _ sh_100) fl_X11_54 rfl ?_
      refine j_aload_n (pc := 26) 0 X dX11_restore_26 rfl ?_
      refine j_getr (pc := 27) X dX11_restore_27 (hz _ sh_100) fl_X11_58 rfl ?_
      refine j_iload_n (pc := 30) 1 X dX11_restore_30 rfl ?_
      refine j_aald (pc := 31) (g := fun j => 160 + 7 * j) (C := "AfterOffice$Facts") X dX11_restore_31 (hz _ sh_159) (fun _ => rfl) rfl al_159 hF (fun hb5 hF => ?_)
      refine j_cVv (pc := 32) (As := [.ref (Z.2.1 (160 + 7 * ix a1))]) (rest := []) X dX11_restore_32 ml_X11_355 ck_X3_become cv_X3_become (hz _ sh_152) rfl (Nat.le_of_ble_eq_true rfl) rfl (Nat.le_of_ble_eq_true rfl) rfl hF (tX3_become Z 152 isF_152 (160 + 7 * ix a1) (is_159 hb5) hz h3) (fun h6 hF => ?_)
      refine j_iconst (pc := 35) 1 X dX11_restore_35 rfl ?_
      exact j_zret (pc := 36) X E dX11_restore_36 hF
    · refine j_iconst (pc := 20) 0 X dX11_restore_20 rfl ?_
      exact j_zret (pc := 21) X E dX11_restore_21 hF
theorem dX11_count_0 : decode cX11_count 0 = .ok (.iload_n 1, 1) := by decide +kernel
theorem dX11_count_1 : decode cX11_count 1 = .ok (.tableswitch 111 0 7 #[47, 55, 63, 71, 79, 87, 95, 103], 47) := by decide +kernel
theorem dX11_count_48 : decode cX11_count 48 = .ok (.aload_n 0, 1) := by decide +kernel
theorem dX11_count_49 : decode cX11_count 49 = .ok (.getfield 26, 3) := by decide +kernel
theorem dX11_count_52 : decode cX11_count 52 = .ok (.getfield 103, 3) := by decide +kernel
theorem dX11_count_55 : decode cX11_count 55 = .ok (.ireturn, 1) := by decide +kernel
theorem dX11_count_56 : decode cX11_count 56 = .ok (.aload_n 0, 1) := by decide +kernel
theorem dX11_count_57 : decode cX11_count 57 = .ok (.getfield 26, 3) := by decide +kernel
theorem dX11_count_60 : decode cX11_count 60 = .ok (.getfield 189, 3) := by decide +kernel
theorem dX11_count_63 : decode cX11_count 63 = .ok (.ireturn, 1) := by decide +kernel
theorem dX11_count_64 : decode cX11_count 64 = .ok (.aload_n 0, 1) := by decide +kernel
theorem dX11_count_65 : decode cX11_count 65 = .ok (.getfield 26, 3) := by decide +kernel
theorem dX11_count_68 : decode cX11_count 68 = .ok (.getfield 110, 3) := by decide +kernel
theorem dX11_count_71 : decode cX11_count 71 = .ok (.ireturn, 1) := by decide +kernel
theorem dX11_count_72 : decode cX11_count 72 = .ok (.aload_n 0, 1) := by decide +kernel
theorem dX11_count_73 : decode cX11_count 73 = .ok (.getfield 26, 3) := by decide +kernel
theorem dX11_count_76 : decode cX11_count 76 = .ok (.getfield 358, 3) := by decide +kernel
theorem dX11_count_79 : decode cX11_count 79 = .ok (.ireturn, 1) := by decide +kernel
theorem dX11_count_80 : decode cX11_count 80 = .ok (.aload_n 0, 1) := by decide +kernel
theorem dX11_count_81 : decode cX11_count 81 = .ok (.getfield 26, 3) := by decide +kernel
theorem dX11_count_84 : decode cX11_count 84 = .ok (.getfield 252, 3) := by decide +kernel
theorem dX11_count_87 : decode cX11_count 87 = .ok (.ireturn, 1) := by decide +kernel
theorem dX11_count_88 : decode cX11_count 88 = .ok (.aload_n 0, 1) := by decide +kernel
theorem dX11_count_89 : decode cX11_count 89 = .ok (.getfield 54, 3) := by decide +kernel
theorem dX11_count_92 : decode cX11_count 92 = .ok (.getfield 113, 3) := by decide +kernel
theorem dX11_count_95 : decode cX11_count 95 = .ok (.ireturn, 1) := by decide +kernel
theorem dX11_count_96 : decode cX11_count 96 = .ok (.aload_n 0, 1) := by decide +kernel
theorem dX11_count_97 : decode cX11_count 97 = .ok (.getfield 10, 3) := by decide +kernel
theorem dX11_count_100 : decode cX11_count 100 = .ok (.getfield 124, 3) := by decide +kernel
theorem dX11_count_103 : decode cX11_count 103 = .ok (.ireturn, 1) := by decide +kernel
theorem dX11_count_104 : decode cX11_count 104 = .ok (.aload_n 0, 1) := by decide +kernel
theorem dX11_count_105 : decode cX11_count 105 = .ok (.getfield 87, 3) := by decide +kernel
theorem dX11_count_108 : decode cX11_count 108 = .ok (.invokestatic 299, 3) := by decide +kernel
theorem dX11_count_111 : decode cX11_count 111 = .ok (.ireturn, 1) := by decide +kernel
theorem dX11_count_112 : decode cX11_count 112 = .ok (.iconst (-1), 1) := by decide +kernel
theorem dX11_count_113 : decode cX11_count 113 = .ok (.ireturn, 1) := by decide +kernel
def fX11_count (a1 : Int32) (h : Hp) : Option (Int32 × Hp) := (if a1.toInt < 0 ∨ 7 < a1.toInt then some ((-1), h) else if a1 = 0 then some ((h.1 108 6), h) else if a1 = 1 then some ((h.1 108 7), h) else if a1 = 2 then some ((h.1 108 9), h) else if a1 = 3 then some ((h.1 108 8), h) else if a1 = 4 then some ((h.1 108 10), h) else if a1 = 5 then some ((h.1 152 6), h) else if a1 = 6 then some ((h.1 101 1), h) else if a1 = 7 then bi (fJ6_bitCount_0f7a4 (h.1 100 11) h) (fun w2 h1 => some (w2, h1)) else none)
set_option maxRecDepth 20000 in
theorem tX11_count (Z : ZT) (a1 : Int32) (hz : HZ Z) (h : Hp) (r : Int32) (hr : Hp) (hF : fX11_count a1 h = some (r, hr)) : MC Z yX11_count cX11_count 2 (some .int) 1 [.ref (Z.2.1 100), .int a1] h (some (.int r)) hr := by
  unfold fX11_count at hF
  refine mc_start (by decide) (Nat.le_of_ble_eq_true rfl) (fun G X E => ?_)
  refine j_iload_n (pc := 0) 1 X dX11_count_0 rfl ?_
  refine j_tab (pc := 1) (tgt := 112) X dX11_count_1 rfl hF (fun hF => ?_) (fun hF => ?_)
  · refine j_iconst (pc := 112) (-1) X dX11_count_112 rfl ?_
    exact j_iret (pc := 113) X E dX11_count_113 hF
  refine j_tabi (pc := 1) (v := 0) (tgt := 48) X dX11_count_1 rfl rfl rfl rfl hF (fun hF => ?_) (fun hF => ?_)
  · refine j_aload_n (pc := 48) 0 X dX11_count_48 rfl ?_
    refine j_getr (pc := 49) X dX11_count_49 (hz _ sh_100) fl_X11_26 rfl ?_
    refine j_geti (pc := 52) X dX11_count_52 (hz _ sh_108) fl_X11_103 rfl ?_
    exact j_iret (pc := 55) X E dX11_count_55 hF
  refine j_tabi (pc := 1) (v := 1) (tgt := 56) X dX11_count_1 rfl rfl rfl rfl hF (fun hF => ?_) (fun hF => ?_)
  · refine j_aload_n (pc := 56) 0 X dX11_count_56 rfl ?_
    refine j_getr (pc := 57) X dX11_count_57 (hz _ sh_100) fl_X11_26 rfl ?_
    refine j_geti (pc := 60) X dX11_count_60 (hz _ sh_108) fl_X11_189 rfl ?_
    exact j_iret (pc := 63) X E dX11_count_63 hF
  refine j_tabi (pc := 1) (v := 2) (tgt := 64) X dX11_count_1 rfl rfl rfl rfl hF (fun hF => ?_) (fun hF => ?_)
  · refine j_aload_n (pc := 64) 0 X dX11_count_64 rfl ?_
    refine j_getr (pc := 65) X dX11_count_65 (hz _ sh_100) fl_X11_26 rfl ?_
    refine j_geti (pc := 68) X dX11_count_68 (hz _ sh_108) fl_X11_110 rfl ?_
    exact j_iret (pc := 71) X E dX11_count_71 hF
  refine j_tabi (pc := 1) (v := 3) (tgt := 72) X dX11_count_1 rfl rfl rfl rfl hF (fun hF => ?_) (fun hF => ?_)
  · refine j_aload_n (pc := 72) 0 X dX11_count_72 rfl ?_
    refine j_getr (pc := 73) X dX11_count_73 (hz _ sh_100) fl_X11_26 rfl ?_
    refine j_geti (pc := 76) X dX11_count_76 (hz _ sh_108) fl_X11_358 rfl ?_
    exact j_iret (pc := 79) X E dX11_count_79 hF
  refine j_tabi (pc := 1) (v := 4) (tgt := 80) X dX11_count_1 rfl rfl rfl rfl hF (fun hF => ?_) (fun hF => ?_)
  · refine j_aload_n (pc := 80) 0 X dX11_count_80 rfl ?_
    refine j_getr (pc := 81) X dX11_count_81 (hz _ sh_100) fl_X11_26 rfl ?_
    refine j_geti (pc := 84) X dX11_count_84 (hz _ sh_108) fl_X11_252 rfl ?_
    exact j_iret (pc := 87) X E dX11_count_87 hF
  refine j_tabi (pc := 1) (v := 5) (tgt := 88) X dX11_count_1 rfl rfl rfl rfl hF (fun hF => ?_) (fun hF => ?_)
  · refine j_aload_n (pc := 88) 0 X dX11_count_88 rfl ?_
    refine j_getr (pc := 89) X dX11_count_89 (hz _ sh_100) fl_X11_54 rfl ?_
    refine j_geti (pc := 92) X dX11_count_92 (hz _ sh_152) fl_X11_113 rfl ?_
    exact j_iret (pc := 95) X E dX11_count_95 hF
  refine j_tabi (pc := 1) (v := 6) (tgt := 96) X dX11_count_1 rfl rfl rfl rfl hF (fun hF => ?_) (fun hF => ?_)
  · refine j_aload_n (pc := 96) 0 X dX11_count_96 rfl ?_
    refine j_getr (pc := 97) X dX11_count_97 (hz _ sh_100) fl_X11_10 rfl ?_
    refine j_geti (pc := 100) X dX11_count_100 (hz _ sh_101) fl_X11_124 rfl ?_
    exact j_iret (pc := 103) X E dX11_count_103 hF
  refine j_tabi (pc := 1) (v := 7) (tgt := 104) X dX11_count_1 rfl rfl rfl rfl hF (fun hF => ?_) (fun hF => ?_)
  · refine j_aload_n (pc := 104) 0 X dX11_count_104 rfl ?_
    refine j_geti (pc := 105) X dX11_count_105 (hz _ sh_100) fl_X11_87 rfl ?_
    refine j_cSi (pc := 108) (As := [.int (h.1 100 11)]) (rest := []) X dX11_count_108 ml_X11_299 ck_J6_bitCount_0f7a4 sk_J6_bitCount_0f7a4 (Nat.le_of_ble_eq_true rfl) rfl (Nat.le_of_ble_eq_true rfl) rfl hF (tJ6_bitCount_0f7a4 Z (h.1 100 11) trivial h) (fun w2 h1 hF => ?_)
    exact j_iret (pc := 111) X E dX11_count_111 hF
  cases hF
