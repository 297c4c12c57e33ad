theorem dX5_tellBarred_0 : decode cX5_tellBarred 0 = .ok (.aload_n 0, 1) := by decide +kernel
theorem dX5_tellBarred_1 : decode cX5_tellBarred 1 = .ok (.getfield 29, 3) := by decide +kernel
theorem dX5_tellBarred_4 : decode cX5_tellBarred 4 = .ok (.getfield 123, 3) := by decide +kernel
theorem dX5_tellBarred_7 : decode cX5_tellBarred 7 = .ok (.bipush 12, 2) := by decide +kernel
theorem dX5_tellBarred_9 : decode cX5_tellBarred 9 = .ok (.if_icmp .lt 9, 3) := by decide +kernel
theorem dX5_tellBarred_12 : decode cX5_tellBarred 12 = .ok (.aload_n 0, 1) := by decide +kernel
theorem dX5_tellBarred_13 : decode cX5_tellBarred 13 = .ok (.iconst 2, 1) := by decide +kernel
theorem dX5_tellBarred_14 : decode cX5_tellBarred 14 = .ok (.invokevirtual 79, 3) := by decide +kernel
theorem dX5_tellBarred_17 : decode cX5_tellBarred 17 = .ok (.ireturn, 1) := by decide +kernel
theorem dX5_tellBarred_18 : decode cX5_tellBarred 18 = .ok (.aload_n 0, 1) := by decide +kernel
theorem dX5_tellBarred_19 : decode cX5_tellBarred 19 = .ok (.bipush 18, 2) := by decide +kernel
theorem dX5_tellBarred_21 : decode cX5_tellBarred 21 = .ok (.invokevirtual 88, 3) := by decide +kernel
theorem dX5_tellBarred_24 : decode cX5_tellBarred 24 = .ok (.ifCond .ne 5, 3) := by decide +kernel
theorem dX5_tellBarred_27 : decode cX5_tellBarred 27 = .ok (.iconst 0, 1) := by decide +kernel
theorem dX5_tellBarred_28 : decode cX5_tellBarred 28 = .ok (.ireturn, 1) := by decide +kernel
theorem dX5_tellBarred_29 : decode cX5_tellBarred 29 = .ok (.aload_n 0, 1) := by decide +kernel
theorem dX5_tellBarred_30 : decode cX5_tellBarred 30 = .ok (.aload_n 0, 1) := by decide +kernel
theorem dX5_tellBarred_31 : decode cX5_tellBarred 31 = .ok (.getfield 15, 3) := by decide +kernel
theorem dX5_tellBarred_34 : decode cX5_tellBarred 34 = .ok (.aload_n 0, 1) := by decide +kernel
theorem dX5_tellBarred_35 : decode cX5_tellBarred 35 = .ok (.getfield 29, 3) := by decide +kernel
theorem dX5_tellBarred_38 : decode cX5_tellBarred 38 = .ok (.getfield 98, 3) := by decide +kernel
theorem dX5_tellBarred_41 : decode cX5_tellBarred 41 = .ok (.invokevirtual 126, 3) := by decide +kernel
theorem dX5_tellBarred_44 : decode cX5_tellBarred 44 = .ok (.istore_n 1, 1) := by decide +kernel
theorem dX5_tellBarred_45 : decode cX5_tellBarred 45 = .ok (.iload_n 1, 1) := by decide +kernel
theorem dX5_tellBarred_46 : decode cX5_tellBarred 46 = .ok (.ifCond .ge 5, 3) := by decide +kernel
theorem dX5_tellBarred_49 : decode cX5_tellBarred 49 = .ok (.iconst 0, 1) := by decide +kernel
theorem dX5_tellBarred_50 : decode cX5_tellBarred 50 = .ok (.ireturn, 1) := by decide +kernel
theorem dX5_tellBarred_51 : decode cX5_tellBarred 51 = .ok (.aload_n 0, 1) := by decide +kernel
theorem dX5_tellBarred_52 : decode cX5_tellBarred 52 = .ok (.aload_n 0, 1) := by decide +kernel
theorem dX5_tellBarred_53 : decode cX5_tellBarred 53 = .ok (.getfield 9, 3) := by decide +kernel
theorem dX5_tellBarred_56 : decode cX5_tellBarred 56 = .ok (.aload_n 0, 1) := by decide +kernel
theorem dX5_tellBarred_57 : decode cX5_tellBarred 57 = .ok (.getfield 29, 3) := by decide +kernel
theorem dX5_tellBarred_60 : decode cX5_tellBarred 60 = .ok (.getfield 91, 3) := by decide +kernel
theorem dX5_tellBarred_63 : decode cX5_tellBarred 63 = .ok (.invokevirtual 126, 3) := by decide +kernel
theorem dX5_tellBarred_66 : decode cX5_tellBarred 66 = .ok (.istore_n 2, 1) := by decide +kernel
theorem dX5_tellBarred_67 : decode cX5_tellBarred 67 = .ok (.iload_n 2, 1) := by decide +kernel
theorem dX5_tellBarred_68 : decode cX5_tellBarred 68 = .ok (.ifCond .ge 5, 3) := by decide +kernel
theorem dX5_tellBarred_71 : decode cX5_tellBarred 71 = .ok (.iconst 0, 1) := by decide +kernel
theorem dX5_tellBarred_72 : decode cX5_tellBarred 72 = .ok (.ireturn, 1) := by decide +kernel
theorem dX5_tellBarred_73 : decode cX5_tellBarred 73 = .ok (.aload_n 0, 1) := by decide +kernel
theorem dX5_tellBarred_74 : decode cX5_tellBarred 74 = .ok (.getfield 29, 3) := by decide +kernel
theorem dX5_tellBarred_77 : decode cX5_tellBarred 77 = .ok (.getfield 130, 3) := by decide +kernel
theorem dX5_tellBarred_80 : decode cX5_tellBarred 80 = .ok (.iload_n 1, 1) := by decide +kernel
theorem dX5_tellBarred_81 : decode cX5_tellBarred 81 = .ok (.dup2, 1) := by decide +kernel
theorem dX5_tellBarred_82 : decode cX5_tellBarred 82 = .ok (.iaload, 1) := by decide +kernel
theorem dX5_tellBarred_83 : decode cX5_tellBarred 83 = .ok (.iconst 1, 1) := by decide +kernel
theorem dX5_tellBarred_84 : decode cX5_tellBarred 84 = .ok (.iload_n 2, 1) := by decide +kernel
theorem dX5_tellBarred_85 : decode cX5_tellBarred 85 = .ok (.ishl, 1) := by decide +kernel
theorem dX5_tellBarred_86 : decode cX5_tellBarred 86 = .ok (.ior, 1) := by decide +kernel
theorem dX5_tellBarred_87 : decode cX5_tellBarred 87 = .ok (.iastore, 1) := by decide +kernel
theorem dX5_tellBarred_88 : decode cX5_tellBarred 88 = .ok (.aload_n 0, 1) := by decide +kernel
theorem dX5_tellBarred_89 : decode cX5_tellBarred 89 = .ok (.getfield 29, 3) := by decide +kernel
theorem dX5_tellBarred_92 : decode cX5_tellBarred 92 = .ok (.dup, 1) := by decide +kernel
theorem dX5_tellBarred_93 : decode cX5_tellBarred 93 = .ok (.getfield 123, 3) := by decide +kernel
theorem dX5_tellBarred_96 : decode cX5_tellBarred 96 = .ok (.iconst 1, 1) := by decide +kernel
theorem dX5_tellBarred_97 : decode cX5_tellBarred 97 = .ok (.iadd, 1) := by decide +kernel
theorem dX5_tellBarred_98 : decode cX5_tellBarred 98 = .ok (.putfield 123, 3) := by decide +kernel
theorem dX5_tellBarred_101 : decode cX5_tellBarred 101 = .ok (.aload_n 0, 1) := by decide +kernel
theorem dX5_tellBarred_102 : decode cX5_tellBarred 102 = .ok (.iconst 4, 1) := by decide +kernel
theorem dX5_tellBarred_103 : decode cX5_tellBarred 103 = .ok (.invokevirtual 88, 3) := by decide +kernel
theorem dX5_tellBarred_106 : decode cX5_tellBarred 106 = .ok (.ireturn, 1) := by decide +kernel
def fX5_tellBarred  (h : Hp) : Option (Int32 × Hp) := (if (h.1 125 8) < 12 then bi (fX5_take 18 h) (fun w2 h1 => (if w2 = 0 then ck (zb 0) (some (0, h1)) else bi (fX5_takeTold 144 4 (h1.1 125 7) h1) (fun w4 h3 => lt w4 (fun v5 => (if 0 ≤ v5 then bi (fX5_takeTold 143 10 (h3.1 125 6) h3) (fun w7 h6 => lt w7 (fun v8 => (if 0 ≤ v8 then ck (inb v5 4) (ck (inb v5 4) (lt (wI h6 127 (ix v5) ((h6.1 127 (ix v5)) ||| ((1 : Int32) <<< (v8 &&& 31)))) (fun h9 => lt (wI h9 125 8 ((h9.1 125 8) + 1)) (fun h10 => bi (fX5_take 4 h10) (fun w12 h11 => ck (zb w12) (some (w12, h11))))))) else ck (zb 0) (some (0, h6))))) else ck (zb 0) (some (0, h3))))))) else bi (fX5_stop 2 h) (fun w14 h13 => ck (zb w14) (some (w14, h13))))
set_option maxRecDepth 20000 in
theorem tX5_tellBarred (Z : ZT)  (hz : HZ Z) (h : Hp) (r : Int32) (hr : Hp) (hF : fX5_tellBarred  h = some (r, hr)) : MC Z yX5_tellBarred cX5_tellBarred 3 (some .boolean) 2 [.ref (Z.2.1 142)] h (some (.int r)) hr := by
  unfold fX5_tellBarred at hF
  refine mc_start (by decide) (Nat.le_of_ble_eq_true rfl) (fun G X E => ?_)
  refine j_aload_n (pc := 0) 0 X dX5_tellBarred_0 rfl ?_
  refine j_getr (pc := 1) X dX5_tellBarred_1 (hz _ sh_142) fl_X5_29 rfl ?_
  refine j_geti (pc := 4) X dX5_tellBarred_4 (hz _ sh_125) fl_X5_123 rfl ?_
  refine j_bipush (pc := 7) 12 X dX5_tellBarred_7 rfl ?_
  refine j_icmp_lt (pc := 9) 18 X dX5_tellBarred_9 rfl hF (fun hF => ?_) (fun hF => ?_)
  · refine j_aload_n (pc := 18) 0 X dX5_tellBarred_18 rfl ?_
    refine j_bipush (pc := 19) 18 X dX5_tellBarred_19 rfl ?_
    refine j_cVi (pc := 21) (As := [.int 18]) (rest := []) X dX5_tellBarred_21 ml_X5_88 ck_X5_take cv_X5_take (hz _ sh_142) rfl (Nat.le_of_ble_eq_true rfl) rfl (Nat.le_of_ble_eq_true rfl) rfl hF (tX5_take Z 18 hz h) (fun w2 h1 hF => ?_)
    refine j_if_ne (pc := 24) 29 X dX5_tellBarred_24 rfl hF (fun hF => ?_) (fun hF => ?_)
    · refine j_aload_n (pc := 29) 0 X dX5_tellBarred_29 rfl ?_
      refine j_aload_n (pc := 30) 0 X dX5_tellBarred_30 rfl ?_
      refine j_getr (pc := 31) X dX5_tellBarred_31 (hz _ sh_142) fl_X5_15 rfl ?_
      refine j_aload_n (pc := 34) 0 X dX5_tellBarred_34 rfl ?_
      refine j_getr (pc := 35) X dX5_tellBarred_35 (hz _ sh_142) fl_X5_29 rfl ?_
      refine j_geti (pc := 38) X dX5_tellBarred_38 (hz _ sh_125) fl_X5_98 rfl ?_
      refine j_cVi (pc := 41) (As := [.ref (Z.2.1 144), .int (h1.1 125 7)]) (rest := []) X dX5_tellBarred_41 ml_X5_126 ck_X5_takeTold cv_X5_takeTold (hz _ sh_142) rfl (Nat.le_of_ble_eq_true rfl) rfl (Nat.le_of_ble_eq_true rfl) rfl hF (tX5_takeTold Z 144 4 (hz _ sh_144) (h1.1 125 7) hz h1) (fun w4 h3 hF => ?_)
      refine j_istore_n (pc := 44) (fun y => [(1, .int y), (0, .ref (Z.2.1 142))]) X dX5_tellBarred_44 (by decide) (fun _ => rfl) hF (fun v5 hF => ?_)
      refine j_iload_n (pc := 45) 0 X dX5_tellBarred_45 rfl ?_
      refine j_if_ge (pc := 46) 51 X dX5_tellBarred_46 rfl hF (fun hF => ?_) (fun hF => ?_)
      · refine j_aload_n (pc := 51) 1 X dX5_tellBarred_51 rfl ?_
        refine j_aload_n (pc := 52) 1 X dX5_tellBarred_52 rfl ?_
        refine j_getr (pc := 53) X dX5_tellBarred_53 (hz _ sh_142) fl_X5_9 rfl ?_
        refine j_aload_n (pc := 56) 1 X dX5_tellBarred_56 rfl ?_
        refine j_getr (pc := 57) X dX5_tellBarred_57 (hz _ sh_142) fl_X5_29 rfl ?_
        refine j_geti (pc := 60) X dX5_tellBarred_60 (hz _ sh_125) fl_X5_91 rfl ?_
        refine j_cVi (pc := 63) (As := [.ref (Z.2.1 143), .int (h3.1 125 6)]) (rest := []) X dX5_tellBarred_63 ml_X5_126 ck_X5_takeTold cv_X5_takeTold (hz _ sh_142) rfl (Nat.le_of_ble_eq_true rfl) rfl (Nat.le_of_ble_eq_true rfl) rfl hF (tX5_takeTold Z 143 10 (hz _ sh_143) (h3.1 125 6) hz h3) (fun w7 h6 hF => ?_)
        refine j_istore_n (pc := 66) (fun y => [(2, .int y), (1, .int v5), (0, .ref (Z.2.1 142))]) X dX5_tellBarred_66 (by decide) (fun _ => rfl) hF (fun v8 hF => ?_)
        refine j_iload_n (pc := 67) 0 X dX5_tellBarred_67 rfl ?_
        refine j_if_ge (pc := 68) 73 X dX5_tellBarred_68 rfl hF (fun hF => ?_) (fun hF => ?_)
        · refine j_aload_n (pc := 73) 2 X dX5_tellBarred_73 rfl ?_
          refine j_getr (pc := 74) X dX5_tellBarred_74 (hz _ sh_142) fl_X5_29 rfl ?_
          refine j_getr (pc := 77) X dX5_tellBarred_77 (hz _ sh_125) fl_X5_130 rfl ?_
          refine j_iload_n (pc := 80) 1 X dX5_tellBarred_80 rfl ?_
          refine j_dup2 (pc := 81) X dX5_tellBarred_81 rfl rfl ?_
          refine j_iald (pc := 82) X dX5_tellBarred_82 (hz _ sh_127) hF (fun hF => ?_)
          refine j_iconst (pc := 83) 1 X dX5_tellBarred_83 rfl ?_
          refine j_iload_n (pc := 84) 0 X dX5_tellBarred_84 rfl ?_
          refine j_ishl (pc := 85) X dX5_tellBarred_85 ?_
          refine j_ior (pc := 86) X dX5_tellBarred_86 ?_
          refine j_iast (pc := 87) X dX5_tellBarred_87 (hz _ sh_127) hF (fun h9 hF => ?_)
          refine j_aload_n (pc := 88) 2 X dX5_tellBarred_88 rfl ?_
          refine j_getr (pc := 89) X dX5_tellBarred_89 (hz _ sh_142) fl_X5_29 rfl ?_
          refine j_dup (pc := 92) X dX5_tellBarred_92 rfl ?_
          refine j_geti (pc := 93) X dX5_tellBarred_93 (hz _ sh_125) fl_X5_123 rfl ?_
          refine j_iconst (pc := 96) 1 X dX5_tellBarred_96 rfl ?_
          refine j_iadd (pc := 97) X dX5_tellBarred_97 ?_
          refine j_puti (pc := 98) X dX5_tellBarred_98 (hz _ sh_125) fp_X5_123 rfl hF (fun h10 hF => ?_)
          refine j_aload_n (pc := 101) 2 X dX5_tellBarred_101 rfl ?_
          refine j_iconst (pc := 102) 4 X dX5_tellBarred_102 rfl ?_
          refine j_cVi (pc := 103) (As := [.int 4]) (rest := []) X dX5_tellBarred_103 ml_X5_88 ck_X5_take cv_X5_take (hz _ sh_142) rfl (Nat.le_of_ble_eq_true rfl) rfl (Nat.le_of_ble_eq_true rfl) rfl hF (tX5_take Z 4 hz h10) (fun w12 h11 hF => ?_)
          exact j_zret (pc := 106) X E dX5_tellBarred_106 hF
        · refine j_iconst (pc := 71) 0 X dX5_tellBarred_71 rfl ?_
          exact j_zret (pc := 72) X E dX5_tellBarred_72 hF
      · refine j_iconst (pc := 49) 0 X dX5_tellBarred_49 rfl ?_
        exact j_zret (pc := 50) X E dX5_tellBarred_50 hF
    · refine j_iconst (pc := 27) 0 X dX5_tellBarred_27 rfl ?_
      exact j_zret (pc := 28) X E dX5_tellBarred_28 hF
  · refine j_aload_n (pc := 12) 0 X dX5_tellBarred_12 rfl ?_
    refine j_iconst (pc := 13) 2 X dX5_tellBarred_13 rfl ?_
    refine j_cVi (pc := 14) (As := [.int 2]) (rest := []) X dX5_tellBarred_14 ml_X5_79 ck_X5_stop cv_X5_stop (hz _ sh_142) rfl (Nat.le_of_ble_eq_true rfl) rfl (Nat.le_of_ble_eq_true rfl) rfl hF (tX5_stop Z 2 hz h) (fun w14 h13 hF => ?_)
    exact j_zret (pc := 17) X E dX5_tellBarred_17 hF
theorem dX5_takeLetterInts_0 : decode cX5_takeLetterInts 0 = .ok (.aload_n 1, 1) := by decide +kernel
theorem dX5_takeLetterInts_1 : decode cX5_takeLetterInts 1 = .ok (.aload_n 0, 1) := by decide +kernel
theorem dX5_takeLetterInts_2 : decode cX5_takeLetterInts 2 = .ok (.iconst 0, 1) := by decide +kernel
theorem dX5_takeLetterInts_3 : decode cX5_takeLetterInts 3 = .ok (.iconst 3, 1) := by decide +kernel
theorem dX5_takeLetterInts_4 : decode cX5_takeLetterInts 4 = .ok (.invokevirtual 116, 3) := by decide +kernel
theorem dX5_takeLetterInts_7 : decode cX5_takeLetterInts 7 = .ok (.putfield 161, 3) := by decide +kernel
theorem dX5_takeLetterInts_10 : decode cX5_takeLetterInts 10 = .ok (.aload_n 1, 1) := by decide +kernel
theorem dX5_takeLetterInts_11 : decode cX5_takeLetterInts 11 = .ok (.getfield 161, 3) := by decide +kernel
theorem dX5_takeLetterInts_14 : decode cX5_takeLetterInts 14 = .ok (.ifCond .ge 5, 3) := by decide +kernel
theorem dX5_takeLetterInts_17 : decode cX5_takeLetterInts 17 = .ok (.iconst 0, 1) := by decide +kernel
theorem dX5_takeLetterInts_18 : decode cX5_takeLetterInts 18 = .ok (.ireturn, 1) := by decide +kernel
theorem dX5_takeLetterInts_19 : decode cX5_takeLetterInts 19 = .ok (.aload_n 1, 1) := by decide +kernel
theorem dX5_takeLetterInts_20 : decode cX5_takeLetterInts 20 = .ok (.aload_n 0, 1) := by decide +kernel
theorem dX5_takeLetterInts_21 : decode cX5_takeLetterInts 21 = .ok (.iconst 0, 1) := by decide +kernel
theorem dX5_takeLetterInts_22 : decode cX5_takeLetterInts 22 = .ok (.sipush 999, 3) := by decide +kernel
theorem dX5_takeLetterInts_25 : decode cX5_takeLetterInts 25 = .ok (.invokevirtual 116, 3) := by decide +kernel
theorem dX5_takeLetterInts_28 : decode cX5_takeLetterInts 28 = .ok (.putfield 164, 3) := by decide +kernel
theorem dX5_takeLetterInts_31 : decode cX5_takeLetterInts 31 = .ok (.aload_n 1, 1) := by decide +kernel
theorem dX5_takeLetterInts_32 : decode cX5_takeLetterInts 32 = .ok (.getfield 164, 3) := by decide +kernel
theorem dX5_takeLetterInts_35 : decode cX5_takeLetterInts 35 = .ok (.ifCond .ge 5, 3) := by decide +kernel
theorem dX5_takeLetterInts_38 : decode cX5_takeLetterInts 38 = .ok (.iconst 0, 1) := by decide +kernel
theorem dX5_takeLetterInts_39 : decode cX5_takeLetterInts 39 = .ok (.ireturn, 1) := by decide +kernel
theorem dX5_takeLetterInts_40 : decode cX5_takeLetterInts 40 = .ok (.aload_n 1, 1) := by decide +kernel
theorem dX5_takeLetterInts_41 : decode cX5_takeLetterInts 41 = .ok (.aload_n 0, 1) := by decide +kernel
theorem dX5_takeLetterInts_42 : decode cX5_takeLetterInts 42 = .ok (.iconst 0, 1) := by decide +kernel
theorem dX5_takeLetterInts_43 : decode cX5_takeLetterInts 43 = .ok (.bipush 99, 2) := by decide +kernel
theorem dX5_takeLetterInts_45 : decode cX5_takeLetterInts 45 = .ok (.invokevirtual 116, 3) := by decide +kernel
theorem dX5_takeLetterInts_48 : decode cX5_takeLetterInts 48 = .ok (.putfield 167, 3) := by decide +kernel
theorem dX5_takeLetterInts_51 : decode cX5_takeLetterInts 51 = .ok (.aload_n 1, 1) := by decide +kernel
theorem dX5_takeLetterInts_52 : decode cX5_takeLetterInts 52 = .ok (.getfield 167, 3) := by decide +kernel
theorem dX5_takeLetterInts_55 : decode cX5_takeLetterInts 55 = .ok (.ifCond .lt 7, 3) := by decide +kernel
theorem dX5_takeLetterInts_58 : decode cX5_takeLetterInts 58 = .ok (.iconst 1, 1) := by decide +kernel
theorem dX5_takeLetterInts_59 : decode cX5_takeLetterInts 59 = .ok (.goto 4, 3) := by decide +kernel
theorem dX5_takeLetterInts_62 : decode cX5_takeLetterInts 62 = .ok (.iconst 0, 1) := by decide +kernel
theorem dX5_takeLetterInts_63 : decode cX5_takeLetterInts 63 = .ok (.ireturn, 1) := by decide +kernel
def fX5_takeLetterInts (u1 : Nat) (h : Hp) : Option (Int32 × Hp) := bi (fX5_takeInt 0 3 h) (fun w2 h1 => lt (wI h1 u1 2 w2) (fun h3 => (if 0 ≤ (h3.1 u1 2) then bi (fX5_takeInt 0 999 h3) (fun w5 h4 => lt (wI h4 u1 3 w5) (fun h6 => (if 0 ≤ (h6.1 u1 3) then bi (fX5_takeInt 0 99 h6) (fun w8 h7 => lt (wI h7 u1 4 w8) (fun h9 => (if (h9.1 u1 4) < 0 then ck (zb 0) (some (0, h9)) else ck (zb 1) (some (1, h9))))) else ck (zb 0) (some (0, h6))))) else ck (zb 0) (some (0, h3)))))
set_option maxRecDepth 20000 in
theorem tX5_takeLetterInts (Z : ZT) (u1 : Nat) (hu1 : isL u1) (hz : HZ Z) (h : Hp) (r : Int32) (hr : Hp) (hF : fX5_takeLetterInts u1 h = some (r, hr)) : MC Z yX5_takeLetterInts cX5_takeLetterInts 2 (some .boolean) 2 [.ref (Z.2.1 142), .ref (Z.2.1 u1)] h (some (.int r)) hr := by
  unfold fX5_takeLetterInts at hF
  refine mc_start (by decide) (Nat.le_of_ble_eq_true rfl) (fun G X E => ?_)
  refine j_aload_n (pc := 0) 1 X dX5_takeLetterInts_0 rfl ?_
  refine j_aload_n (pc := 1) 0 X dX5_takeLetterInts_1 rfl ?_
  refine j_iconst (pc := 2) 0 X dX5_takeLetterInts_2 rfl ?_
  refine j_iconst (pc := 3) 3 X dX5_takeLetterInts_3 rfl ?_
  refine j_cVi (pc := 4) (As := [.int 0, .int 3]) (rest := [.ref (Z.2.1 u1)]) X dX5_takeLetterInts_4 ml_X5_116 ck_X5_takeInt cv_X5_takeInt (hz _ sh_142) rfl (Nat.le_of_ble_eq_true rfl) rfl (Nat.le_of_ble_eq_true rfl) rfl hF (tX5_takeInt Z 0 3 hz h) (fun w2 h1 hF => ?_)
  refine j_puti (pc := 7) X dX5_takeLetterInts_7 (hz _ (shL hu1)) fp_X5_161 rfl hF (fun h3 hF => ?_)
  refine j_aload_n (pc := 10) 1 X dX5_takeLetterInts_10 rfl ?_
  refine j_geti (pc := 11) X dX5_takeLetterInts_11 (hz _ (shL hu1)) fl_X5_161 rfl ?_
  refine j_if_ge (pc := 14) 19 X dX5_takeLetterInts_14 rfl hF (fun hF => ?_) (fun hF => ?_)
  · refine j_aload_n (pc := 19) 1 X dX5_takeLetterInts_19 rfl ?_
    refine j_aload_n (pc := 20) 0 X dX5_takeLetterInts_20 rfl ?_
    refine j_iconst (pc := 21) 0 X dX5_takeLetterInts_21 rfl ?_
    refine j_sipush (pc := 22) 999 X dX5_takeLetterInts_22 rfl ?_
    refine j_cVi (pc := 25) (As := [.int 0, .int 999]) (rest := [.ref (Z.2.1 u1)]) X dX5_takeLetterInts_25 ml_X5_116 ck_X5_takeInt cv_X5_takeInt (hz _ sh_142) rfl (Nat.le_of_ble_eq_true rfl) rfl (Nat.le_of_ble_eq_true rfl) rfl hF (tX5_takeInt Z 0 999 hz h3) (fun w5 h4 hF => ?_)
    refine j_puti (pc := 28) X dX5_takeLetterInts_28 (hz _ (shL hu1)) fp_X5_164 rfl hF (fun h6 hF => ?_)
    refine j_aload_n (pc := 31) 1 X dX5_takeLetterInts_31 rfl ?_
    refine j_geti (pc := 32) X dX5_takeLetterInts_32 (hz _ (shL hu1)) fl_X5_164 rfl ?_
    refine j_if_ge (pc := 35) 40 X dX5_takeLetterInts_35 rfl hF (fun hF => ?_) (fun hF => ?_)
    · refine j_aload_n (pc := 40) 1 X dX5_takeLetterInts_40 rfl ?_
      refine j_aload_n (pc := 41) 0 X dX5_takeLetterInts_41 rfl ?_
      refine j_iconst (pc := 42) 0 X dX5_takeLetterInts_42 rfl ?_
      refine j_bipush (pc := 43) 99 X dX5_takeLetterInts_43 rfl ?_
      refine j_cVi (pc := 45) (As := [.int 0, .int 99]) (rest := [.ref (Z.2.1 u1)]) X dX5_takeLetterInts_45 ml_X5_116 ck_X5_takeInt cv_X5_takeInt (hz _ sh_142) rfl (Nat.le_of_ble_eq_true rfl) rfl (Nat.le_of_ble_eq_true rfl) rfl hF (tX5_takeInt Z 0 99 hz h6) (fun w8 h7 hF => ?_)
      refine j_puti (pc := 48) X dX5_takeLetterInts_48 (hz _ (shL hu1)) fp_X5_167 rfl hF (fun h9 hF => ?_)
      refine j_aload_n (pc := 51) 1 X dX5_takeLetterInts_51 rfl ?_
      refine j_geti (pc := 52) X dX5_takeLetterInts_52 (hz _ (shL hu1)) fl_X5_167 rfl ?_
      refine j_if_lt (pc := 55) 62 X dX5_takeLetterInts_55 rfl hF (fun hF => ?_) (fun hF => ?_)
      · refine j_iconst (pc := 62) 0 X dX5_takeLetterInts_62 rfl ?_
        exact j_zret (pc := 63) X E dX5_takeLetterInts_63 hF
      · refine j_iconst (pc := 58) 1 X dX5_takeLetterInts_58 rfl ?_
        refine j_goto (pc := 59) 63 X dX5_takeLetterInts_59 rfl ?_
        exact j_zret (pc := 63) X E dX5_takeLetterInts_63 hF
    · refine j_iconst (pc := 38) 0 X dX5_takeLetterInts_38 rfl ?_
      exact j_zret (pc := 39) X E dX5_takeLetterInts_39 hF
  · refine j_iconst (pc := 17) 0 X dX5_takeLetterInts_17 rfl ?_
    exact j_zret (pc := 18) X E dX5_takeLetterInts_18 hF
theorem dX5_emit_0 : decode cX5_emit 0 = .ok (.aload_n 0, 1) := by decide +kernel
theorem dX5_emit_1 : decode cX5_emit 1 = .ok (.getfield 29, 3) := by decide +kernel
theorem dX5_emit_4 : decode cX5_emit 4 = .ok (.getfield 149, 3) := by decide +kernel
theorem dX5_emit_7 : decode cX5_emit 7 = .ok (.sipush 400, 3) := by decide +kernel
theorem dX5_emit_10 : decode cX5_emit 10 = .ok (.if_icmp .ge 37, 3) := by decide +kernel
theorem dX5_emit_13 : decode cX5_emit 13 = .ok (.aload_n 0, 1) := by decide +kernel
theorem dX5_emit_14 : decode cX5_emit 14 = .ok (.getfield 29, 3) := by decide +kernel
theorem dX5_emit_17 : decode cX5_emit 17 = .ok (.getfield 182, 3) := by decide +kernel
theorem dX5_emit_20 : decode cX5_emit 20 = .ok (.aload_n 0, 1) := by decide +kernel
theorem dX5_emit_21 : decode cX5_emit 21 = .ok (.getfield 29, 3) := by decide +kernel
theorem dX5_emit_24 : decode cX5_emit 24 = .ok (.getfield 149, 3) := by decide +kernel
theorem dX5_emit_27 : decode cX5_emit 27 = .ok (.iload_n 1, 1) := by decide +kernel
theorem dX5_emit_28 : decode cX5_emit 28 = .ok (.iload_n 2, 1) := by decide +kernel
theorem dX5_emit_29 : decode cX5_emit 29 = .ok (.bipush 8, 2) := by decide +kernel
theorem dX5_emit_31 : decode cX5_emit 31 = .ok (.ishl, 1) := by decide +kernel
theorem dX5_emit_32 : decode cX5_emit 32 = .ok (.ior, 1) := by decide +kernel
theorem dX5_emit_33 : decode cX5_emit 33 = .ok (.iastore, 1) := by decide +kernel
theorem dX5_emit_34 : decode cX5_emit 34 = .ok (.aload_n 0, 1) := by decide +kernel
theorem dX5_emit_35 : decode cX5_emit 35 = .ok (.getfield 29, 3) := by decide +kernel
theorem dX5_emit_38 : decode cX5_emit 38 = .ok (.dup, 1) := by decide +kernel
theorem dX5_emit_39 : decode cX5_emit 39 = .ok (.getfield 149, 3) := by decide +kernel
theorem dX5_emit_42 : decode cX5_emit 42 = .ok (.iconst 1, 1) := by decide +kernel
theorem dX5_emit_43 : decode cX5_emit 43 = .ok (.iadd, 1) := by decide +kernel
theorem dX5_emit_44 : decode cX5_emit 44 = .ok (.putfield 149, 3) := by decide +kernel
theorem dX5_emit_47 : decode cX5_emit 47 = .ok (.return_, 1) := by decide +kernel
def fX5_emit (a1 : Int32) (a2 : Int32) (h : Hp) : Option (Hp) := (if 400 ≤ (h.1 125 11) then some h else ck (inb (h.1 125 11) 400) (lt (wI h 129 (ix (h.1 125 11)) (a1 ||| (a2 <<< ((8 : Int32) &&& 31)))) (fun h1 => lt (wI h1 125 11 ((h1.1 125 11) + 1)) (fun h2 => some h2))))
set_option maxRecDepth 20000 in
theorem tX5_emit (Z : ZT) (a1 : Int32) (a2 : Int32) (hz : HZ Z) (h : Hp) (hr : Hp) (hF : fX5_emit a1 a2 h = some hr) : MC Z yX5_emit cX5_emit 3 none 0 [.ref (Z.2.1 142), .int a1, .int a2] h (none) hr := by
  unfold fX5_emit at hF
  refine mc_start (by decide) (Nat.le_of_ble_eq_true rfl) (fun G X E => ?_)
  refine j_aload_n (pc := 0) 0 X dX5_emit_0 rfl ?_
  refine j_getr (pc := 1) X dX5_emit_1 (hz _ sh_142) fl_X5_29 rfl ?_
  refine j_geti (pc := 4) X dX5_emit_4 (hz _ sh_125) fl_X5_149 rfl ?_
  refine j_sipush (pc := 7) 400 X dX5_emit_7 rfl ?_
  refine j_icmp_ge (pc := 10) 47 X dX5_emit_10 rfl hF (fun hF => ?_) (fun hF => ?_)
  · exact j_vret (pc := 47) X E dX5_emit_47 hF
  · refine j_aload_n (pc := 13) 0 X dX5_emit_13 rfl ?_
    refine j_getr (pc := 14) X dX5_emit_14 (hz _ sh_142) fl_X5_29 rfl ?_
    refine j_getr (pc := 17) X dX5_emit_17 (hz _ sh_125) fl_X5_182 rfl ?_
    refine j_aload_n (pc := 20) 0 X dX5_emit_20 rfl ?_
    refine j_getr (pc := 21) X dX5_emit_21 (hz _ sh_142) fl_X5_29 rfl ?_
    refine j_geti (pc := 24) X dX5_emit_24 (hz _ sh_125) fl_X5_149 rfl ?_
    refine j_iload_n (pc := 27) 1 X dX5_emit_27 rfl ?_
    refine j_iload_n (pc := 28) 2 X dX5_emit_28 rfl ?_
    refine j_bipush (pc := 29) 8 X dX5_emit_29 rfl ?_
    refine j_ishl (pc := 31) X dX5_emit_31 ?_
    refine j_ior (pc := 32) X dX5_emit_32 ?_
    refine j_iast (pc := 33) X dX5_emit_33 (hz _ sh_129) hF (fun h1 hF => ?_)
    refine j_aload_n (pc := 34) 0 X dX5_emit_34 rfl ?_
    refine j_getr (pc := 35) X dX5_emit_35 (hz _ sh_142) fl_X5_29 rfl ?_
    refine j_dup (pc := 38) X dX5_emit_38 rfl ?_
    refine j_geti (pc := 39) X dX5_emit_39 (hz _ sh_125) fl_X5_149 rfl ?_
    refine j_iconst (pc := 42) 1 X dX5_emit_42 rfl ?_
    refine j_iadd (pc := 43) X dX5_emit_43 ?_
    refine j_puti (pc := 44) X dX5_emit_44 (hz _ sh_125) fp_X5_149 rfl hF (fun h2 hF => ?_)
    exact j_vret (pc := 47) X E dX5_emit_47 hF
theorem dX5_closenessOf_0 : decode cX5_closenessOf 0 = .ok (.iload_n 0, 1) := by decide +kernel
theorem dX5_closenessOf_1 : decode cX5_closenessOf 1 = .ok (.tableswitch 35 5 8 #[31, 31, 33, 33], 31) := by decide +kernel
theorem dX5_closenessOf_32 : decode cX5_closenessOf 32 = .ok (.iconst 1, 1) := by decide +kernel
theorem dX5_closenessOf_33 : decode cX5_closenessOf 33 = .ok (.ireturn, 1) := by decide +kernel
theorem dX5_closenessOf_34 : decode cX5_closenessOf 34 = .ok (.iconst 2, 1) := by decide +kernel
theorem dX5_closenessOf_35 : decode cX5_closenessOf 35 = .ok (.ireturn, 1) := by decide +kernel
theorem dX5_closenessOf_36 : decode cX5_closenessOf 36 = .ok (.iconst 0, 1) := by decide +kernel
theorem dX5_closenessOf_37 : decode cX5_closenessOf 37 = .ok (.ireturn, 1) := by decide +kernel
def fX5_closenessOf (a1 : Int32) (h : Hp) : Option (Int32 × Hp) := (if a1.toInt < 5 ∨ 8 < a1.toInt then some (0, h) else if a1 = 5 then some (1, h) else if a1 = 6 then some (1, h) else if a1 = 7 then some (2, h) else if a1 = 8 then some (2, h) else none)
set_option maxRecDepth 20000 in
theorem tX5_closenessOf (Z : ZT) (a1 : Int32) (hz : True) (h : Hp) (r : Int32) (hr : Hp) (hF : fX5_closenessOf a1 h = some (r, hr)) : MC Z yX5_closenessOf cX5_closenessOf 1 (some .int) 0 [.int a1] h (some (.int r)) hr := by
  unfold fX5_closenessOf at hF
  refine mc_start (by decide) (Nat.le_of_ble_eq_true rfl) (fun G X E => ?_)
  refine j_iload_n (pc := 0) 0 X dX5_closenessOf_0 rfl ?_
  refine j_tab (pc := 1) (tgt := 36) X dX5_closenessOf_1 rfl hF (fun hF => ?_) (fun hF => ?_)
  · refine j_iconst (pc := 36) 0 X dX5_closenessOf_36 rfl ?_
    exact j_iret (pc := 37) X E dX5_closenessOf_37 hF
  refine j_tabi (pc := 1) (v := 5) (tgt := 32) X dX5_closenessOf_1 rfl rfl rfl rfl hF (fun hF => ?_) (fun hF => ?_)
  · refine j_iconst (pc := 32) 1 X dX5_closenessOf_32 rfl ?_
    exact j_iret (pc := 33) X E dX5_closenessOf_33 hF
  refine j_tabi (pc := 1) (v := 6) (tgt := 32) X dX5_closenessOf_1 rfl rfl rfl rfl hF (fun hF => ?_) (fun hF => ?_)
  · refine j_iconst (pc := 32) 1 X dX5_closenessOf_32 rfl ?_
    exact j_iret (pc := 33) X E dX5_closenessOf_33 hF
  refine j_tabi (pc := 1) (v := 7) (tgt := 34) X dX5_closenessOf_1 rfl rfl rfl rfl hF (fun hF => ?_) (fun hF => ?_)
  · refine j_iconst (pc := 34) 2 X dX5_closenessOf_34 rfl ?_
    exact j_iret (pc := 35) X E dX5_closenessOf_35 hF
  refine j_tabi (pc := 1) (v := 8) (tgt := 34) X dX5_closenessOf_1 rfl rfl rfl rfl hF (fun hF => ?_) (fun hF => ?_)
  · refine j_iconst (pc := 34) 2 X dX5_closenessOf_34 rfl ?_
    exact j_iret (pc := 35) X E dX5_closenessOf_35 hF
  cases hF
theorem dX5_expression_0 : decode cX5_expression 0 = .ok (.iconst 0, 1) := by decide +kernel
theorem dX5_expression_1 : decode cX5_expression 1 = .ok (.istore_n 1, 1) := by decide +kernel
theorem dX5_expression_2 : decode cX5_expression 2 = .ok (.iconst 0, 1) := by decide +kernel
theorem dX5_expression_3 : decode cX5_expression 3 = .ok (.istore_n 2, 1) := by decide +kernel
theorem dX5_expression_4 : decode cX5_expression 4 = .ok (.iconst 1, 1) := by decide +kernel
theorem dX5_expression_5 : decode cX5_expression 5 = .ok (.istore_n 3, 1) := by decide +kernel
theorem dX5_expression_6 : decode cX5_expression 6 = .ok (.iconst 0, 1) := by decide +kernel
theorem dX5_expression_7 : decode cX5_expression 7 = .ok (.istore 4, 2) := by decide +kernel
theorem dX5_expression_9 : decode cX5_expression 9 = .ok (.iload 4, 2) := by decide +kernel
theorem dX5_expression_11 : decode cX5_expression 11 = .ok (.sipush 400, 3) := by decide +kernel
theorem dX5_expression_14 : decode cX5_expression 14 = .ok (.if_icmp .gt 254, 3) := by decide +kernel
theorem dX5_expression_17 : decode cX5_expression 17 = .ok (.aload_n 0, 1) := by decide +kernel
theorem dX5_expression_18 : decode cX5_expression 18 = .ok (.getfield 47, 3) := by decide +kernel
theorem dX5_expression_21 : decode cX5_expression 21 = .ok (.istore 5, 2) := by decide +kernel
theorem dX5_expression_23 : decode cX5_expression 23 = .ok (.iload_n 3, 1) := by decide +kernel
theorem dX5_expression_24 : decode cX5_expression 24 = .ok (.ifCond .eq 45, 3) := by decide +kernel
theorem dX5_expression_27 : decode cX5_expression 27 = .ok (.iload 5, 2) := by decide +kernel
theorem dX5_expression_29 : decode cX5_expression 29 = .ok (.bipush 14, 2) := by decide +kernel
theorem dX5_expression_31 : decode cX5_expression 31 = .ok (.if_icmp .ne 38, 3) := by decide +kernel
theorem dX5_expression_34 : decode cX5_expression 34 = .ok (.iload_n 2, 1) := by decide +kernel
theorem dX5_expression_35 : decode cX5_expression 35 = .ok (.bipush 6, 2) := by decide +kernel
theorem dX5_expression_37 : decode cX5_expression 37 = .ok (.if_icmp .ge 9, 3) := by decide +kernel
theorem dX5_expression_40 : decode cX5_expression 40 = .ok (.iload_n 1, 1) := by decide +kernel
theorem dX5_expression_41 : decode cX5_expression 41 = .ok (.bipush 64, 2) := by decide +kernel
theorem dX5_expression_43 : decode cX5_expression 43 = .ok (.if_icmp .lt 9, 3) := by decide +kernel
theorem dX5_expression_46 : decode cX5_expression 46 = .ok (.aload_n 0, 1) := by decide +kernel
theorem dX5_expression_47 : decode cX5_expression 47 = .ok (.iconst 2, 1) := by decide +kernel
theorem dX5_expression_48 : decode cX5_expression 48 = .ok (.invokevirtual 79, 3) := by decide +kernel
theorem dX5_expression_51 : decode cX5_expression 51 = .ok (.ireturn, 1) := by decide +kernel
theorem dX5_expression_52 : decode cX5_expression 52 = .ok (.iinc 2 1, 3) := by decide +kernel
theorem dX5_expression_55 : decode cX5_expression 55 = .ok (.aload_n 0, 1) := by decide +kernel
theorem dX5_expression_56 : decode cX5_expression 56 = .ok (.getfield 21, 3) := by decide +kernel
theorem dX5_expression_59 : decode cX5_expression 59 = .ok (.iload_n 1, 1) := by decide +kernel
theorem dX5_expression_60 : decode cX5_expression 60 = .ok (.bipush 14, 2) := by decide +kernel
theorem dX5_expression_62 : decode cX5_expression 62 = .ok (.iastore, 1) := by decide +kernel
theorem dX5_expression_63 : decode cX5_expression 63 = .ok (.iinc 1 1, 3) := by decide +kernel
theorem dX5_expression_66 : decode cX5_expression 66 = .ok (.goto 185, 3) := by decide +kernel
theorem dX5_expression_69 : decode cX5_expression 69 = .ok (.iload_n 3, 1) := by decide +kernel
theorem dX5_expression_70 : decode cX5_expression 70 = .ok (.ifCond .eq 61, 3) := by decide +kernel
theorem dX5_expression_73 : decode cX5_expression 73 = .ok (.iload 5, 2) := by decide +kernel
theorem dX5_expression_75 : decode cX5_expression 75 = .ok (.iconst 3, 1) := by decide +kernel
theorem dX5_expression_76 : decode cX5_expression 76 = .ok (.if_icmp .eq 21, 3) := by decide +kernel
theorem dX5_expression_79 : decode cX5_expression 79 = .ok (.iload 5, 2) := by decide +kernel
theorem dX5_expression_81 : decode cX5_expression 81 = .ok (.bipush 30, 2) := by decide +kernel
theorem dX5_expression_83 : decode cX5_expression 83 = .ok (.bipush 33, 2) := by decide +kernel
theorem dX5_expression_85 : decode cX5_expression 85 = .ok (.invokestatic 108, 3) := by decide +kernel
theorem dX5_expression_88 : decode cX5_expression 88 = .ok (.ifCond .ne 9, 3) := by decide +kernel
theorem dX5_expression_91 : decode cX5_expression 91 = .ok (.aload_n 0, 1) := by decide +kernel
theorem dX5_expression_92 : decode cX5_expression 92 = .ok (.iconst 1, 1) := by decide +kernel
theorem dX5_expression_93 : decode cX5_expression 93 = .ok (.invokevirtual 79, 3) := by decide +kernel
theorem dX5_expression_96 : decode cX5_expression 96 = .ok (.ireturn, 1) := by decide +kernel
theorem dX5_expression_97 : decode cX5_expression 97 = .ok (.aload_n 0, 1) := by decide +kernel
theorem dX5_expression_98 : decode cX5_expression 98 = .ok (.iload 5, 2) := by decide +kernel
theorem dX5_expression_100 : decode cX5_expression 100 = .ok (.iload 5, 2) := by decide +kernel
theorem dX5_expression_102 : decode cX5_expression 102 = .ok (.iconst 3, 1) := by decide +kernel
theorem dX5_expression_103 : decode cX5_expression 103 = .ok (.if_icmp .ne 19, 3) := by decide +kernel
theorem dX5_expression_106 : decode cX5_expression 106 = .ok (.aload_n 0, 1) := by decide +kernel
theorem dX5_expression_107 : decode cX5_expression 107 = .ok (.getfield 25, 3) := by decide +kernel
theorem dX5_expression_110 : decode cX5_expression 110 = .ok (.getfield 85, 3) := by decide +kernel
theorem dX5_expression_113 : decode cX5_expression 113 = .ok (.aload_n 0, 1) := by decide +kernel
theorem dX5_expression_114 : decode cX5_expression 114 = .ok (.getfield 38, 3) := by decide +kernel
theorem dX5_expression_117 : decode cX5_expression 117 = .ok (.laload, 1) := by decide +kernel
theorem dX5_expression_118 : decode cX5_expression 118 = .ok (.l2i, 1) := by decide +kernel
theorem dX5_expression_119 : decode cX5_expression 119 = .ok (.goto 4, 3) := by decide +kernel
theorem dX5_expression_122 : decode cX5_expression 122 = .ok (.iconst 0, 1) := by decide +kernel
theorem dX5_expression_123 : decode cX5_expression 123 = .ok (.invokevirtual 188, 3) := by decide +kernel
theorem dX5_expression_126 : decode cX5_expression 126 = .ok (.iconst 0, 1) := by decide +kernel
theorem dX5_expression_127 : decode cX5_expression 127 = .ok (.istore_n 3, 1) := by decide +kernel
theorem dX5_expression_128 : decode cX5_expression 128 = .ok (.goto 123, 3) := by decide +kernel
theorem dX5_expression_131 : decode cX5_expression 131 = .ok (.iconst 1, 1) := by decide +kernel
theorem dX5_expression_132 : decode cX5_expression 132 = .ok (.iload 5, 2) := by decide +kernel
theorem dX5_expression_134 : decode cX5_expression 134 = .ok (.invokestatic 191, 3) := by decide +kernel
theorem dX5_expression_137 : decode cX5_expression 137 = .ok (.invokestatic 195, 3) := by decide +kernel
theorem dX5_expression_140 : decode cX5_expression 140 = .ok (.istore 6, 2) := by decide +kernel
theorem dX5_expression_142 : decode cX5_expression 142 = .ok (.iload_n 1, 1) := by decide +kernel
theorem dX5_expression_143 : decode cX5_expression 143 = .ok (.ifCond .le 36, 3) := by decide +kernel
theorem dX5_expression_146 : decode cX5_expression 146 = .ok (.aload_n 0, 1) := by decide +kernel
theorem dX5_expression_147 : decode cX5_expression 147 = .ok (.getfield 21, 3) := by decide +kernel
theorem dX5_expression_150 : decode cX5_expression 150 = .ok (.iload_n 1, 1) := by decide +kernel
theorem dX5_expression_151 : decode cX5_expression 151 = .ok (.iconst 1, 1) := by decide +kernel
theorem dX5_expression_152 : decode cX5_expression 152 = .ok (.isub, 1) := by decide +kernel
theorem dX5_expression_153 : decode cX5_expression 153 = .ok (.iaload, 1) := by decide +kernel
theorem dX5_expression_154 : decode cX5_expression 154 = .ok (.invokestatic 191, 3) := by decide +kernel
theorem dX5_expression_157 : decode cX5_expression 157 = .ok (.iload 6, 2) := by decide +kernel
theorem dX5_expression_159 : decode cX5_expression 159 = .ok (.if_icmp .lt 20, 3) := by decide +kernel
theorem dX5_expression_162 : decode cX5_expression 162 = .ok (.iinc 1 (-1), 3) := by decide +kernel
theorem dX5_expression_165 : decode cX5_expression 165 = .ok (.aload_n 0, 1) := by decide +kernel
theorem dX5_expression_166 : decode cX5_expression 166 = .ok (.aload_n 0, 1) := by decide +kernel
theorem dX5_expression_167 : decode cX5_expression 167 = .ok (.getfield 21, 3) := by decide +kernel
theorem dX5_expression_170 : decode cX5_expression 170 = .ok (.iload_n 1, 1) := by decide +kernel
theorem dX5_expression_171 : decode cX5_expression 171 = .ok (.iaload, 1) := by decide +kernel
theorem dX5_expression_172 : decode cX5_expression 172 = .ok (.iconst 0, 1) := by decide +kernel
theorem dX5_expression_173 : decode cX5_expression 173 = .ok (.invokevirtual 188, 3) := by decide +kernel
theorem dX5_expression_176 : decode cX5_expression 176 = .ok (.goto (-34), 3) := by decide +kernel
theorem dX5_expression_179 : decode cX5_expression 179 = .ok (.iload 5, 2) := by decide +kernel
theorem dX5_expression_181 : decode cX5_expression 181 = .ok (.invokestatic 191, 3) := by decide +kernel
theorem dX5_expression_184 : decode cX5_expression 184 = .ok (.ifCond .le 25, 3) := by decide +kernel
theorem dX5_expression_187 : decode cX5_expression 187 = .ok (.iload_n 1, 1) := by decide +kernel
theorem dX5_expression_188 : decode cX5_expression 188 = .ok (.bipush 64, 2) := by decide +kernel
theorem dX5_expression_190 : decode cX5_expression 190 = .ok (.if_icmp .ge 19, 3) := by decide +kernel
theorem dX5_expression_193 : decode cX5_expression 193 = .ok (.aload_n 0, 1) := by decide +kernel
theorem dX5_expression_194 : decode cX5_expression 194 = .ok (.getfield 21, 3) := by decide +kernel
theorem dX5_expression_197 : decode cX5_expression 197 = .ok (.iload_n 1, 1) := by decide +kernel
theorem dX5_expression_198 : decode cX5_expression 198 = .ok (.iload 5, 2) := by decide +kernel
theorem dX5_expression_200 : decode cX5_expression 200 = .ok (.iastore, 1) := by decide +kernel
theorem dX5_expression_201 : decode cX5_expression 201 = .ok (.iinc 1 1, 3) := by decide +kernel
theorem dX5_expression_204 : decode cX5_expression 204 = .ok (.iconst 1, 1) := by decide +kernel
theorem dX5_expression_205 : decode cX5_expression 205 = .ok (.istore_n 3, 1) := by decide +kernel
theorem dX5_expression_206 : decode cX5_expression 206 = .ok (.goto 45, 3) := by decide +kernel
theorem dX5_expression_209 : decode cX5_expression 209 = .ok (.iload 5, 2) := by decide +kernel
theorem dX5_expression_211 : decode cX5_expression 211 = .ok (.bipush 15, 2) := by decide +kernel
theorem dX5_expression_213 : decode cX5_expression 213 = .ok (.if_icmp .ne 20, 3) := by decide +kernel
theorem dX5_expression_216 : decode cX5_expression 216 = .ok (.iload_n 2, 1) := by decide +kernel
theorem dX5_expression_217 : decode cX5_expression 217 = .ok (.ifCond .le 16, 3) := by decide +kernel
theorem dX5_expression_220 : decode cX5_expression 220 = .ok (.iload_n 1, 1) := by decide +kernel
theorem dX5_expression_221 : decode cX5_expression 221 = .ok (.ifCond .le 12, 3) := by decide +kernel
theorem dX5_expression_224 : decode cX5_expression 224 = .ok (.iinc 2 (-1), 3) := by decide +kernel
theorem dX5_expression_227 : decode cX5_expression 227 = .ok (.iinc 1 (-1), 3) := by decide +kernel
theorem dX5_expression_230 : decode cX5_expression 230 = .ok (.goto 21, 3) := by decide +kernel
theorem dX5_expression_233 : decode cX5_expression 233 = .ok (.iload_n 2, 1) := by decide +kernel
theorem dX5_expression_234 : decode cX5_expression 234 = .ok (.ifCond .eq 11, 3) := by decide +kernel
theorem dX5_expression_237 : decode cX5_expression 237 = .ok (.aload_n 0, 1) := by decide +kernel
theorem dX5_expression_238 : decode cX5_expression 238 = .ok (.iconst 1, 1) := by decide +kernel
theorem dX5_expression_239 : decode cX5_expression 239 = .ok (.invokevirtual 79, 3) := by decide +kernel
theorem dX5_expression_242 : decode cX5_expression 242 = .ok (.ifCond .eq 7, 3) := by decide +kernel
theorem dX5_expression_245 : decode cX5_expression 245 = .ok (.iconst 1, 1) := by decide +kernel
theorem dX5_expression_246 : decode cX5_expression 246 = .ok (.goto 4, 3) := by decide +kernel
theorem dX5_expression_249 : decode cX5_expression 249 = .ok (.iconst 0, 1) := by decide +kernel
theorem dX5_expression_250 : decode cX5_expression 250 = .ok (.ireturn, 1) := by decide +kernel
theorem dX5_expression_251 : decode cX5_expression 251 = .ok (.aload_n 0, 1) := by decide +kernel
theorem dX5_expression_252 : decode cX5_expression 252 = .ok (.iload 5, 2) := by decide +kernel
theorem dX5_expression_254 : decode cX5_expression 254 = .ok (.invokevirtual 88, 3) := by decide +kernel
theorem dX5_expression_257 : decode cX5_expression 257 = .ok (.ifCond .ne 5, 3) := by decide +kernel
theorem dX5_expression_260 : decode cX5_expression 260 = .ok (.iconst 0, 1) := by decide +kernel
theorem dX5_expression_261 : decode cX5_expression 261 = .ok (.ireturn, 1) := by decide +kernel
theorem dX5_expression_262 : decode cX5_expression 262 = .ok (.iinc 4 1, 3) := by decide +kernel
theorem dX5_expression_265 : decode cX5_expression 265 = .ok (.goto (-256), 3) := by decide +kernel
theorem dX5_expression_268 : decode cX5_expression 268 = .ok (.aload_n 0, 1) := by decide +kernel
theorem dX5_expression_269 : decode cX5_expression 269 = .ok (.iconst 2, 1) := by decide +kernel
theorem dX5_expression_270 : decode cX5_expression 270 = .ok (.invokevirtual 79, 3) := by decide +kernel
theorem dX5_expression_273 : decode cX5_expression 273 = .ok (.ireturn, 1) := by decide +kernel
def bX5_expression_46    (h : Hp) : Option (Int32 × Hp) := bi (fX5_stop 2 h) (fun w2 h1 => ck (zb w2) (some (w2, h1)))
set_option maxRecDepth 20000 in
theorem BX5_expression_46 {Z : ZT} {G : GT} {r : Int32} {hr : Hp} (X : CX Z G cX5_expression RX5 7 1) (E : RX Z G (some .boolean) (some (.int r)) hr) (hz : HZ Z)   (h : Hp) (hF : bX5_expression_46    h = some (r, hr)) : J Z G 7 h 46 [(0, .ref (Z.2.1 142))] [] := by
  unfold bX5_expression_46 at hF
  refine j_aload_n (pc := 46) 0 X dX5_expression_46 rfl ?_
  refine j_iconst (pc := 47) 2 X dX5_expression_47 rfl ?_
  refine j_cVi (pc := 48) (As := [.int 2]) (rest := []) X dX5_expression_48 ml_X5_79 ck_X5_stop cv_X5_stop (hz _ sh_142) rfl (Nat.le_of_ble_eq_true rfl) rfl (Nat.le_of_ble_eq_true rfl) rfl hF (tX5_stop Z 2 hz h) (fun w2 h1 hF => ?_)
  exact j_zret (pc := 51) X E dX5_expression_51 hF
def bX5_expression_251  (r9 : Int32 → Int32 → Int32 → Int32 → Hp → Option (Int32 × Hp)) (x1 : Int32) (x2 : Int32) (x3 : Int32) (x4 : Int32) (x5 : Int32) (h : Hp) : Option (Int32 × Hp) := bi (fX5_take x5 h) (fun w2 h1 => (if w2 = 0 then ck (zb 0) (some (0, h1)) else lt (x4 + 1) (fun v3 => r9 x1 x2 x3 v3 h1)))
set_option maxRecDepth 20000 in
theorem BX5_expression_251 {Z : ZT} {G : GT} {r : Int32} {hr : Hp} (X : CX Z G cX5_expression RX5 7 1) (E : RX Z G (some .boolean) (some (.int r)) hr) (hz : HZ Z) (r9 : Int32 → Int32 → Int32 → Int32 → Hp → Option (Int32 × Hp)) (hr9 : ∀ (x1 : Int32) (x2 : Int32) (x3 : Int32) (x4 : Int32) (h : Hp), r9 x1 x2 x3 x4 h = some (r, hr) → J Z G 7 h 9 [(0, .ref (Z.2.1 142)), (1, .int x1), (2, .int x2), (3, .int x3), (4, .int x4)] []) (x1 : Int32) (x2 : Int32) (x3 : Int32) (x4 : Int32) (x5 : Int32) (h : Hp) (hF : bX5_expression_251  r9 x1 x2 x3 x4 x5 h = some (r, hr)) : J Z G 7 h 251 [(0, .ref (Z.2.1 142)), (1, .int x1), (2, .int x2), (3, .int x3), (4, .int x4), (5, .int x5)] [] := by
  unfold bX5_expression_251 at hF
  refine j_aload_n (pc := 251) 0 X dX5_expression_251 rfl ?_
  refine j_iload (pc := 252) 5 X dX5_expression_252 rfl ?_
  refine j_cVi (pc := 254) (As := [.int x5]) (rest := []) X dX5_expression_254 ml_X5_88 ck_X5_take cv_X5_take (hz _ sh_142) rfl (Nat.le_of_ble_eq_true rfl) rfl (Nat.le_of_ble_eq_true rfl) rfl hF (tX5_take Z x5 hz h) (fun w2 h1 hF => ?_)
  refine j_if_ne (pc := 257) 262 X dX5_expression_257 rfl hF (fun hF => ?_) (fun hF => ?_)
  · refine j_iinc (pc := 262) 4 (x4 + 1) (fun y => [(4, .int y), (0, .ref (Z.2.1 142)), (1, .int x1), (2, .int x2), (3, .int x3), (5, .int x5)]) X dX5_expression_262 rfl rfl (by decide) (fun _ => rfl) hF (fun v3 hF => ?_)
    refine j_goto (pc := 265) 9 X dX5_expression_265 rfl ?_
    refine j_lv [(0, .ref (Z.2.1 142)), (1, .int x1), (2, .int x2), (3, .int x3), (4, .int v3)] [1, 2, 3, 4, 0] rfl ?_
    exact hr9 x1 x2 x3 v3 h1 hF
  · refine j_iconst (pc := 260) 0 X dX5_expression_260 rfl ?_
    exact j_zret (pc := 261) X E dX5_expression_261 hF
def bX5_expression_123  (r9 : Int32 → Int32 → Int32 → Int32 → Hp → Option (Int32 × Hp)) (x1 : Int32) (x2 : Int32) (x4 : Int32) (x5 : Int32) (s0 : Int32) (s1 : Int32) (h : Hp) : Option (Int32 × Hp) := bv (fX5_emit s1 s0 h) (fun h1 => lt 0 (fun v2 => bX5_expression_251 r9 x1 x2 v2 x4 x5 h1))
set_option maxRecDepth 20000 in
theorem BX5_expression_123 {Z : ZT} {G : GT} {r : Int32} {hr : Hp} (X : CX Z G cX5_expression RX5 7 1) (E : RX Z G (some .boolean) (some (.int r)) hr) (hz : HZ Z) (r9 : Int32 → Int32 → Int32 → Int32 → Hp → Option (Int32 × Hp)) (hr9 : ∀ (x1 : Int32) (x2 : Int32) (x3 : Int32) (x4 : Int32) (h : Hp), r9 x1 x2 x3 x4 h = some (r, hr) → J Z G 7 h 9 [(0, .ref (Z.2.1 142)), (1, .int x1), (2, .int x2), (3, .int x3), (4, .int x4)] []) (x1 : Int32) (x2 : Int32) (x4 : Int32) (x5 : Int32) (s0 : Int32) (s1 : Int32) (h : Hp) (hF : bX5_expression_123  r9 x1 x2 x4 x5 s0 s1 h = some (r, hr)) : J Z G 7 h 123 [(0, .ref (Z.2.1 142)), (1, .int x1), (2, .int x2), (4, .int x4), (5, .int x5)] [.int s0, .int s1, .ref (Z.2.1 142)] := by
  unfold bX5_expression_123 at hF
  refine j_cVv (pc := 123) (As := [.int s1, .int s0]) (rest := []) X dX5_expression_123 ml_X5_188 ck_X5_emit cv_X5_emit (hz _ sh_142) rfl (Nat.le_of_ble_eq_true rfl) rfl (Nat.le_of_ble_eq_true rfl) rfl hF (tX5_emit Z s1 s0 hz h) (fun h1 hF => ?_)
  refine j_iconst (pc := 126) 0 X dX5_expression_126 rfl ?_
  refine j_istore_n (pc := 127) (fun y => [(3, .int y), (0, .ref (Z.2.1 142)), (1, .int x1), (2, .int x2), (4, .int x4), (5, .int x5)]) X dX5_expression_127 (by decide) (fun _ => rfl) hF (fun v2 hF => ?_)
  refine j_goto (pc := 128) 251 X dX5_expression_128 rfl ?_
  refine j_lv [(0, .ref (Z.2.1 142)), (1, .int x1), (2, .int x2), (3, .int v2), (4, .int x4), (5, .int x5)] [1, 2, 3, 0, 4, 5] rfl ?_
  exact BX5_expression_251 X E hz r9 hr9 x1 x2 v2 x4 x5 h1 hF
def bX5_expression_97  (r9 : Int32 → Int32 → Int32 → Int32 → Hp → Option (Int32 × Hp)) (x1 : Int32) (x2 : Int32) (x4 : Int32) (x5 : Int32) (h : Hp) : Option (Int32 × Hp) := (if x5 = 3 then ck (inb (h.1 142 6) 401) (bX5_expression_123 r9 x1 x2 x4 x5 ((h.2 106 (ix (h.1 142 6))).toInt32) x5 h) else bX5_expression_123 r9 x1 x2 x4 x5 0 x5 h)
set_option maxRecDepth 20000 in
theorem BX5_expression_97 {Z : ZT} {G : GT} {r : Int32} {hr : Hp} (X : CX Z G cX5_expression RX5 7 1) (E : RX Z G (some .boolean) (some (.int r)) hr) (hz : HZ Z) (r9 : Int32 → Int32 → Int32 → Int32 → Hp → Option (Int32 × Hp)) (hr9 : ∀ (x1 : Int32) (x2 : Int32) (x3 : Int32) (x4 : Int32) (h : Hp), r9 x1 x2 x3 x4 h = some (r, hr) → J Z G 7 h 9 [(0, .ref (Z.2.1 142)), (1, .int x1), (2, .int x2), (3, .int x3), (4, .int x4)] []) (x1 : Int32) (x2 : Int32) (x4 : Int32) (x5 : Int32) (h : Hp) (hF : bX5_expression_97  r9 x1 x2 x4 x5 h = some (r, hr)) : J Z G 7 h 97 [(0, .ref (Z.2.1 142)), (1, .int x1), (2, .int x2), (4, .int x4), (5, .int x5)] [] := by
  unfold bX5_expression_97 at hF
  refine j_aload_n (pc := 97) 0 X dX5_expression_97 rfl ?_
  refine j_iload (pc := 98) 4 X dX5_expression_98 rfl ?_
  refine j_iload (pc := 100) 4 X dX5_expression_100 rfl ?_
  refine j_iconst (pc := 102) 3 X dX5_expression_102 rfl ?_
  refine j_icmp_ne (pc := 103) 122 X dX5_expression_103 rfl hF (fun hF => ?_) (fun hF => ?_)
  · refine j_iconst (pc := 122) 0 X dX5_expression_122 rfl ?_
    exact BX5_expression_123 X E hz r9 hr9 x1 x2 x4 x5 0 x5 h hF
  · refine j_aload_n (pc := 106) 0 X dX5_expression_106 rfl ?_
    refine j_getr (pc := 107) X dX5_expression_107 (hz _ sh_142) fl_X5_25 rfl ?_
    refine j_getr (pc := 110) X dX5_expression_110 (hz _ sh_103) fl_X5_85 rfl ?_
    refine j_aload_n (pc := 113) 0 X dX5_expression_113 rfl ?_
    refine j_geti (pc := 114) X dX5_expression_114 (hz _ sh_142) fl_X5_38 rfl ?_
    refine j_lald (pc := 117) X dX5_expression_117 (hz _ sh_106) hF (fun hF => ?_)
    refine j_l2i (pc := 118) X dX5_expression_118 ?_
    refine j_goto (pc := 119) 123 X dX5_expression_119 rfl ?_
    exact BX5_expression_123 X E hz r9 hr9 x1 x2 x4 x5 ((h.2 106 (ix (h.1 142 6))).toInt32) x5 h hF
def bX5_expression_233   (x2 : Int32) (h : Hp) : Option (Int32 × Hp) := (if x2 = 0 then ck (zb 1) (some (1, h)) else bi (fX5_stop 1 h) (fun w2 h1 => (if w2 = 0 then ck (zb 0) (some (0, h1)) else ck (zb 1) (some (1, h1)))))
set_option maxRecDepth 20000 in
theorem BX5_expression_233 {Z : ZT} {G : GT} {r : Int32} {hr : Hp} (X : CX Z G cX5_expression RX5 7 1) (E : RX Z G (some .boolean) (some (.int r)) hr) (hz : HZ Z)  (x2 : Int32) (h : Hp) (hF : bX5_expression_233   x2 h = some (r, hr)) : J Z G 7 h 233 [(0, .ref (Z.2.1 142)), (2, .int x2)] [] := by
  unfold bX5_expression_233 at hF
  refine j_iload_n (pc := 233) 1 X dX5_expression_233 rfl ?_
  refine j_if_eq (pc := 234) 245 X dX5_expression_234 rfl hF (fun hF => ?_) (fun hF => ?_)
  · refine j_iconst (pc := 245) 1 X dX5_expression_245 rfl ?_
    refine j_goto (pc := 246) 250 X dX5_expression_246 rfl ?_
    exact j_zret (pc := 250) X E dX5_expression_250 hF
  · refine j_aload_n (pc := 237) 0 X dX5_expression_237 rfl ?_
    refine j_iconst (pc := 238) 1 X dX5_expression_238 rfl ?_
    refine j_cVi (pc := 239) (As := [.int 1]) (rest := []) X dX5_expression_239 ml_X5_79 ck_X5_stop cv_X5_stop (hz _ sh_142) rfl (Nat.le_of_ble_eq_true rfl) rfl (Nat.le_of_ble_eq_true rfl) rfl hF (tX5_stop Z 1 hz h) (fun w2 h1 hF => ?_)
    refine j_if_eq (pc := 242) 249 X dX5_expression_242 rfl hF (fun hF => ?_) (fun hF => ?_)
    · refine j_iconst (pc := 249) 0 X dX5_expression_249 rfl ?_
      exact j_zret (pc := 250) X E dX5_expression_250 hF
    · refine j_iconst (pc := 245) 1 X dX5_expression_245 rfl ?_
      refine j_goto (pc := 246) 250 X dX5_expression_246 rfl ?_
      exact j_zret (pc := 250) X E dX5_expression_250 hF
def bX5_expression_209  (r9 : Int32 → Int32 → Int32 → Int32 → Hp → Option (Int32 × Hp)) (x1 : Int32) (x2 : Int32) (x3 : Int32) (x4 : Int32) (x5 : Int32) (h : Hp) : Option (Int32 × Hp) := (if x5 = 15 then (if x2 ≤ 0 then bX5_expression_233 x2 h else (if x1 ≤ 0 then bX5_expression_233 x2 h else lt (x2 + (-1)) (fun v1 => lt (x1 + (-1)) (fun v2 => bX5_expression_251 r9 v2 v1 x3 x4 x5 h)))) else bX5_expression_233 x2 h)
set_option maxRecDepth 20000 in
theorem BX5_expression_209 {Z : ZT} {G : GT} {r : Int32} {hr : Hp} (X : CX Z G cX5_expression RX5 7 1) (E : RX Z G (some .boolean) (some (.int r)) hr) (hz : HZ Z) (r9 : Int32 → Int32 → Int32 → Int32 → Hp → Option (Int32 × Hp)) (hr9 : ∀ (x1 : Int32) (x2 : Int32) (x3 : Int32) (x4 : Int32) (h : Hp), r9 x1 x2 x3 x4 h = some (r, hr) → J Z G 7 h 9 [(0, .ref (Z.2.1 142)), (1, .int x1), (2, .int x2), (3, .int x3), (4, .int x4)] []) (x1 : Int32) (x2 : Int32) (x3 : Int32) (x4 : Int32) (x5 : Int32) (h : Hp) (hF : bX5_expression_209  r9 x1 x2 x3 x4 x5 h = some (r, hr)) : J Z G 7 h 209 [(0, .ref (Z.2.1 142)), (1, .int x1), (2, .int x2), (3, .int x3), (4, .int x4), (5, .int x5)] [] := by
  unfold bX5_expression_209 at hF
  refine j_iload (pc := 209) 5 X dX5_expression_209 rfl ?_
  refine j_bipush (pc := 211) 15 X dX5_expression_211 rfl ?_
  refine j_icmp_ne (pc := 213) 233 X dX5_expression_213 rfl hF (fun hF => ?_) (fun hF => ?_)
  · refine j_lv [(0, .ref (Z.2.1 142)), (2, .int x2)] [0, 2] rfl ?_
    exact BX5_expression_233 X E hz x2 h hF
  · refine j_iload_n (pc := 216) 2 X dX5_expression_216 rfl ?_
    refine j_if_le (pc := 217) 233 X dX5_expression_217 rfl hF (fun hF => ?_) (fun hF => ?_)
    · refine j_lv [(0, .ref (Z.2.1 142)), (2, .int x2)] [0, 2] rfl ?_
      exact BX5_expression_233 X E hz x2 h hF
    · refine j_iload_n (pc := 220) 1 X dX5_expression_220 rfl ?_
      refine j_if_le (pc := 221) 233 X dX5_expression_221 rfl hF (fun hF => ?_) (fun hF => ?_)
      · refine j_lv [(0, .ref (Z.2.1 142)), (2, .int x2)] [0, 2] rfl ?_
        exact BX5_expression_233 X E hz x2 h hF
      · refine j_iinc (pc := 224) 2 (x2 + (-1)) (fun y => [(2, .int y), (0, .ref (Z.2.1 142)), (1, .int x1), (3, .int x3), (4, .int x4), (5, .int x5)]) X dX5_expression_224 rfl rfl (by decide) (fun _ => rfl) hF (fun v1 hF => ?_)
        refine j_iinc (pc := 227) 2 (x1 + (-1)) (fun y => [(1, .int y), (2, .int v1), (0, .ref (Z.2.1 142)), (3, .int x3), (4, .int x4), (5, .int x5)]) X dX5_expression_227 rfl rfl (by decide) (fun _ => rfl) hF (fun v2 hF => ?_)
        refine j_goto (pc := 230) 251 X dX5_expression_230 rfl ?_
        refine j_lv [(0, .ref (Z.2.1 142)), (1, .int v2), (2, .int v1), (3, .int x3), (4, .int x4), (5, .int x5)] [2, 0, 1, 3, 4, 5] rfl ?_
        exact BX5_expression_251 X E hz r9 hr9 v2 v1 x3 x4 x5 h hF
def bX5_expression_179  (r9 : Int32 → Int32 → Int32 → Int32 → Hp → Option (Int32 × Hp)) (x1 : Int32) (x2 : Int32) (x3 : Int32) (x4 : Int32) (x5 : Int32) (h : Hp) : Option (Int32 × Hp) := bi (fX5_closenessOf x5 h) (fun w2 h1 => (if w2 ≤ 0 then bX5_expression_209 r9 x1 x2 x3 x4 x5 h1 else (if 64 ≤ x1 then bX5_expression_209 r9 x1 x2 x3 x4 x5 h1 else ck (inb x1 64) (lt (wI h1 146 (ix x1) x5) (fun h3 => lt (x1 + 1) (fun v4 => lt 1 (fun v5 => bX5_expression_251 r9 v4 x2 v5 x4 x5 h3)))))))
set_option maxRecDepth 20000 in
theorem BX5_expression_179 {Z : ZT} {G : GT} {r : Int32} {hr : Hp} (X : CX Z G cX5_expression RX5 7 1) (E : RX Z G (some .boolean) (some (.int r)) hr) (hz : HZ Z) (r9 : Int32 → Int32 → Int32 → Int32 → Hp → Option (Int32 × Hp)) (hr9 : ∀ (x1 : Int32) (x2 : Int32) (x3 : Int32) (x4 : Int32) (h : Hp), r9 x1 x2 x3 x4 h = some (r, hr) → J Z G 7 h 9 [(0, .ref (Z.2.1 142)), (1, .int x1), (2, .int x2), (3, .int x3), (4, .int x4)] []) (x1 : Int32) (x2 : Int32) (x3 : Int32) (x4 : Int32) (x5 : Int32) (h : Hp) (hF : bX5_expression_179  r9 x1 x2 x3 x4 x5 h = some (r, hr)) : J Z G 7 h 179 [(0, .ref (Z.2.1 142)), (1, .int x1), (2, .int x2), (3, .int x3), (4, .int x4), (5, .int x5)] [] := by
  unfold bX5_expression_179 at hF
  refine j_iload (pc := 179) 5 X dX5_expression_179 rfl ?_
  refine j_cSi (pc := 181) (As := [.int x5]) (rest := []) X dX5_expression_181 ml_X5_191 ck_X5_closenessOf sk_X5_closenessOf (Nat.le_of_ble_eq_true rfl) rfl (Nat.le_of_ble_eq_true rfl) rfl hF (tX5_closenessOf Z x5 trivial h) (fun w2 h1 hF => ?_)
  refine j_if_le (pc := 184) 209 X dX5_expression_184 rfl hF (fun hF => ?_) (fun hF => ?_)
  · exact BX5_expression_209 X E hz r9 hr9 x1 x2 x3 x4 x5 h1 hF
  · refine j_iload_n (pc := 187) 1 X dX5_expression_187 rfl ?_
    refine j_bipush (pc := 188) 64 X dX5_expression_188 rfl ?_
    refine j_icmp_ge (pc := 190) 209 X dX5_expression_190 rfl hF (fun hF => ?_) (fun hF => ?_)
    · exact BX5_expression_209 X E hz r9 hr9 x1 x2 x3 x4 x5 h1 hF
    · refine j_aload_n (pc := 193) 0 X dX5_expression_193 rfl ?_
      refine j_getr (pc := 194) X dX5_expression_194 (hz _ sh_142) fl_X5_21 rfl ?_
      refine j_iload_n (pc := 197) 1 X dX5_expression_197 rfl ?_
      refine j_iload (pc := 198) 5 X dX5_expression_198 rfl ?_
      refine j_iast (pc := 200) X dX5_expression_200 (hz _ sh_146) hF (fun h3 hF => ?_)
      refine j_iinc (pc := 201) 1 (x1 + 1) (fun y => [(1, .int y), (0, .ref (Z.2.1 142)), (2, .int x2), (3, .int x3), (4, .int x4), (5, .int x5)]) X dX5_expression_201 rfl rfl (by decide) (fun _ => rfl) hF (fun v4 hF => ?_)
      refine j_iconst (pc := 204) 1 X dX5_expression_204 rfl ?_
      refine j_istore_n (pc := 205) (fun y => [(3, .int y), (1, .int v4), (0, .ref (Z.2.1 142)), (2, .int x2), (4, .int x4), (5, .int x5)]) X dX5_expression_205 (by decide) (fun _ => rfl) hF (fun v5 hF => ?_)
      refine j_goto (pc := 206) 251 X dX5_expression_206 rfl ?_
      refine j_lv [(0, .ref (Z.2.1 142)), (1, .int v4), (2, .int x2), (3, .int v5), (4, .int x4), (5, .int x5)] [2, 1, 3, 0, 4, 5] rfl ?_
      exact BX5_expression_251 X E hz r9 hr9 v4 x2 v5 x4 x5 h3 hF
def bX5_expression_142  (r9 : Int32 → Int32 → Int32 → Int32 → Hp → Option (Int32 × Hp)) (r142 : Int32 → Int32 → Int32 → Int32 → Int32 → Int32 → Hp → Option (Int32 × Hp)) (x1 : Int32) (x2 : Int32) (x3 : Int32) (x4 : Int32) (x5 : Int32) (x6 : Int32) (h : Hp) : Option (Int32 × Hp) := (if x1 ≤ 0 then bX5_expression_179 r9 x1 x2 x3 x4 x5 h else ck (inb (x1 - 1) 64) (bi (fX5_closenessOf (h.1 146 (ix (x1 - 1))) h) (fun w2 h1 => (if w2 < x6 then bX5_expression_179 r9 x1 x2 x3 x4 x5 h1 else lt (x1 + (-1)) (fun v3 => ck (inb v3 64) (bv (fX5_emit (h1.1 146 (ix v3)) 0 h1) (fun h4 => r142 v3 x2 x3 x4 x5 x6 h4)))))))
def lX5_expression_142  (r9 : Int32 → Int32 → Int32 → Int32 → Hp → Option (Int32 × Hp)) : Nat → Int32 → Int32 → Int32 → Int32 → Int32 → Int32 → Hp → Option (Int32 × Hp)
  | 0 => fun _ _ _ _ _ _ _ => none
  | n + 1 => bX5_expression_142  r9 (lX5_expression_142  r9 n)
set_option maxRecDepth 20000 in
theorem BX5_expression_142 {Z : ZT} {G : GT} {r : Int32} {hr : Hp} (X : CX Z G cX5_expression RX5 7 1) (E : RX Z G (some .boolean) (some (.int r)) hr) (hz : HZ Z) (r9 : Int32 → Int32 → Int32 → Int32 → Hp → Option (Int32 × Hp)) (hr9 : ∀ (x1 : Int32) (x2 : Int32) (x3 : Int32) (x4 : Int32) (h : Hp), r9 x1 x2 x3 x4 h = some (r, hr) → J Z G 7 h 9 [(0, .ref (Z.2.1 142)), (1, .int x1), (2, .int x2), (3, .int x3), (4, .int x4)] []) (r142 : Int32 → Int32 → Int32 → Int32 → Int32 → Int32 → Hp → Option (Int32 × Hp)) (hr142 : ∀ (x1 : Int32) (x2 : Int32) (x3 : Int32) (x4 : Int32) (x5 : Int32) (x6 : Int32) (h : Hp), r142 x1 x2 x3 x4 x5 x6 h = some (r, hr) → J Z G 7 h 142 [(0, .ref (Z.2.1 142)), (1, .int x1), (2, .int x2), (3, .int x3), (4, .int x4), (5, .int x5), (6, .int x6)] []) (x1 : Int32) (x2 : Int32) (x3 : Int32) (x4 : Int32) (x5 : Int32) (x6 : Int32) (h : Hp) (hF : bX5_expression_142  r9 r142 x1 x2 x3 x4 x5 x6 h = some (r, hr)) : J Z G 7 h 142 [(0, .ref (Z.2.1 142)), (1, .int x1), (2, .int x2), (3, .int x3), (4, .int x4), (5, .int x5), (6, .int x6)] [] := by
  unfold bX5_expression_142 at hF
  refine j_iload_n (pc := 142) 1 X dX5_expression_142 rfl ?_
  refine j_if_le (pc := 143) 179 X dX5_expression_143 rfl hF (fun hF => ?_) (fun hF => ?_)
  · refine j_lv [(0, .ref (Z.2.1 142)), (1, .int x1), (2, .int x2), (3, .int x3), (4, .int x4), (5, .int x5)] [0, 1, 2, 3, 4, 5] rfl ?_
    exact BX5_expression_179 X E hz r9 hr9 x1 x2 x3 x4 x5 h hF
  · refine j_aload_n (pc := 146) 0 X dX5_expression_146 rfl ?_
    refine j_getr (pc := 147) X dX5_expression_147 (hz _ sh_142) fl_X5_21 rfl ?_
    refine j_iload_n (pc := 150) 1 X dX5_expression_150 rfl ?_
    refine j_iconst (pc := 151) 1 X dX5_expression_151 rfl ?_
    refine j_isub (pc := 152) X dX5_expression_152 ?_
    refine j_iald (pc := 153) X dX5_expression_153 (hz _ sh_146) hF (fun hF => ?_)
    refine j_cSi (pc := 154) (As := [.int (h.1 146 (ix (x1 - 1)))]) (rest := []) X dX5_expression_154 ml_X5_191 ck_X5_closenessOf sk_X5_closenessOf (Nat.le_of_ble_eq_true rfl) rfl (Nat.le_of_ble_eq_true rfl) rfl hF (tX5_closenessOf Z (h.1 146 (ix (x1 - 1))) trivial h) (fun w2 h1 hF => ?_)
    refine j_iload (pc := 157) 6 X dX5_expression_157 rfl ?_
    refine j_icmp_lt (pc := 159) 179 X dX5_expression_159 rfl hF (fun hF => ?_) (fun hF => ?_)
    · refine j_lv [(0, .ref (Z.2.1 142)), (1, .int x1), (2, .int x2), (3, .int x3), (4, .int x4), (5, .int x5)] [0, 1, 2, 3, 4, 5] rfl ?_
      exact BX5_expression_179 X E hz r9 hr9 x1 x2 x3 x4 x5 h1 hF
    · refine j_iinc (pc := 162) 1 (x1 + (-1)) (fun y => [(1, .int y), (0, .ref (Z.2.1 142)), (2, .int x2), (3, .int x3), (4, .int x4), (5, .int x5), (6, .int x6)]) X dX5_expression_162 rfl rfl (by decide) (fun _ => rfl) hF (fun v3 hF => ?_)
      refine j_aload_n (pc := 165) 1 X dX5_expression_165 rfl ?_
      refine j_aload_n (pc := 166) 1 X dX5_expression_166 rfl ?_
      refine j_getr (pc := 167) X dX5_expression_167 (hz _ sh_142) fl_X5_21 rfl ?_
      refine j_iload_n (pc := 170) 0 X dX5_expression_170 rfl ?_
      refine j_iald (pc := 171) X dX5_expression_171 (hz _ sh_146) hF (fun hF => ?_)
      refine j_iconst (pc := 172) 0 X dX5_expression_172 rfl ?_
      refine j_cVv (pc := 173) (As := [.int (h1.1 146 (ix v3)), .int 0]) (rest := []) X dX5_expression_173 ml_X5_188 ck_X5_emit cv_X5_emit (hz _ sh_142) rfl (Nat.le_of_ble_eq_true rfl) rfl (Nat.le_of_ble_eq_true rfl) rfl hF (tX5_emit Z (h1.1 146 (ix v3)) 0 hz h1) (fun h4 hF => ?_)
      refine j_goto (pc := 176) 142 X dX5_expression_176 rfl ?_
      refine j_lv [(0, .ref (Z.2.1 142)), (1, .int v3), (2, .int x2), (3, .int x3), (4, .int x4), (5, .int x5), (6, .int x6)] [1, 0, 2, 3, 4, 5, 6] rfl ?_
      exact hr142 v3 x2 x3 x4 x5 x6 h4 hF
theorem LX5_expression_142 {Z : ZT} {G : GT} {r : Int32} {hr : Hp} (X : CX Z G cX5_expression RX5 7 1) (E : RX Z G (some .boolean) (some (.int r)) hr) (hz : HZ Z) (r9 : Int32 → Int32 → Int32 → Int32 → Hp → Option (Int32 × Hp)) (hr9 : ∀ (x1 : Int32) (x2 : Int32) (x3 : Int32) (x4 : Int32) (h : Hp), r9 x1 x2 x3 x4 h = some (r, hr) → J Z G 7 h 9 [(0, .ref (Z.2.1 142)), (1, .int x1), (2, .int x2), (3, .int x3), (4, .int x4)] []) : ∀ (n : Nat) (x1 : Int32) (x2 : Int32) (x3 : Int32) (x4 : Int32) (x5 : Int32) (x6 : Int32) (h : Hp), lX5_expression_142  r9 n x1 x2 x3 x4 x5 x6 h = some (r, hr) → J Z G 7 h 142 [(0, .ref (Z.2.1 142)), (1, .int x1), (2, .int x2), (3, .int x3), (4, .int x4), (5, .int x5), (6, .int x6)] [] := by
  intro n
  induction n with
  | zero => intro x1 x2 x3 x4 x5 x6 h hF; cases hF
  | succ n ih => intro x1 x2 x3 x4 x5 x6 h hF; exact BX5_expression_142 X E hz r9 hr9 (lX5_expression_142  r9 n) ih x1 x2 x3 x4 x5 x6 h hF
def bX5_expression_69  (r9 : Int32 → Int32 → Int32 → Int32 → Hp → Option (Int32 × Hp)) (x1 : Int32) (x2 : Int32) (x3 : Int32) (x4 : Int32) (x5 : Int32) (h : Hp) : Option (Int32 × Hp) := (if x3 = 0 then bi (fX5_closenessOf x5 h) (fun w2 h1 => lt (if 1 < w2 then w2 else 1) (fun v3 => lX5_expression_142 r9 FU x1 x2 x3 x4 x5 v3 h1)) else (if x5 = 3 then bX5_expression_97 r9 x1 x2 x4 x5 h else bi (fX11_within x5 30 33 h) (fun w5 h4 => (if w5 = 0 then bi (fX5_stop 1 h4) (fun w7 h6 => ck (zb w7) (some (w7, h6))) else bX5_expression_97 r9 x1 x2 x4 x5 h4))))
set_option maxRecDepth 20000 in
theorem BX5_expression_69 {Z : ZT} {G : GT} {r : Int32} {hr : Hp} (X : CX Z G cX5_expression RX5 7 1) (E : RX Z G (some .boolean) (some (.int r)) hr) (hz : HZ Z) (r9 : Int32 → Int32 → Int32 → Int32 → Hp → Option (Int32 × Hp)) (hr9 : ∀ (x1 : Int32) (x2 : Int32) (x3 : Int32) (x4 : Int32) (h : Hp), r9 x1 x2 x3 x4 h = some (r, hr) → J Z G 7 h 9 [(0, .ref (Z.2.1 142)), (1, .int x1), (2, .int x2), (3, .int x3), (4, .int x4)] []) (x1 : Int32) (x2 : Int32) (x3 : Int32) (x4 : Int32) (x5 : Int32) (h : Hp) (hF : bX5_expression_69  r9 x1 x2 x3 x4 x5 h = some (r, hr)) : J Z G 7 h 69 [(0, .ref (Z.2.1 142)), (1, .int x1), (2, .int x2), (3, .int x3), (4, .int x4), (5, .int x5)] [] := by
  unfold bX5_expression_69 at hF
  refine j_iload_n (pc := 69) 3 X dX5_expression_69 rfl ?_
  refine j_if_eq (pc := 70) 131 X dX5_expression_70 rfl hF (fun hF => ?_) (fun hF => ?_)
  · refine j_iconst (pc := 131) 1 X dX5_expression_131 rfl ?_
    refine j_iload (pc := 132) 5 X dX5_expression_132 rfl ?_
    refine j_cSi (pc := 134) (As := [.int x5]) (rest := [.int 1]) X dX5_expression_134 ml_X5_191 ck_X5_closenessOf sk_X5_closenessOf (Nat.le_of_ble_eq_true rfl) rfl (Nat.le_of_ble_eq_true rfl) rfl hF (tX5_closenessOf Z x5 trivial h) (fun w2 h1 hF => ?_)
    refine j_mmax (pc := 137) X dX5_expression_137 ml_X5_195 mm_max (Nat.le_of_ble_eq_true rfl) (Nat.le_of_ble_eq_true rfl) ?_
    refine j_istore (pc := 140) (fun y => [(6, .int y), (0, .ref (Z.2.1 142)), (1, .int x1), (2, .int x2), (3, .int x3), (4, .int x4), (5, .int x5)]) X dX5_expression_140 (by decide) (fun _ => rfl) hF (fun v3 hF => ?_)
    refine j_lv [(0, .ref (Z.2.1 142)), (1, .int x1), (2, .int x2), (3, .int x3), (4, .int x4), (5, .int x5), (6, .int v3)] [1, 2, 3, 4, 5, 6, 0] rfl ?_
    exact LX5_expression_142 X E hz r9 hr9 FU x1 x2 x3 x4 x5 v3 h1 hF
  · refine j_iload (pc := 73) 5 X dX5_expression_73 rfl ?_
    refine j_iconst (pc := 75) 3 X dX5_expression_75 rfl ?_
    refine j_icmp_eq (pc := 76) 97 X dX5_expression_76 rfl hF (fun hF => ?_) (fun hF => ?_)
    · refine j_lv [(0, .ref (Z.2.1 142)), (1, .int x1), (2, .int x2), (4, .int x4), (5, .int x5)] [0, 1, 2, 4, 5] rfl ?_
      exact BX5_expression_97 X E hz r9 hr9 x1 x2 x4 x5 h hF
    · refine j_iload (pc := 79) 5 X dX5_expression_79 rfl ?_
      refine j_bipush (pc := 81) 30 X dX5_expression_81 rfl ?_
      refine j_bipush (pc := 83) 33 X dX5_expression_83 rfl ?_
      refine j_cSNi (pc := 85) (As := [.int x5, .int 30, .int 33]) (rest := []) X dX5_expression_85 ml_X5_108 ck_X11_within sk_X11_within (Nat.le_of_ble_eq_true rfl) rfl (Nat.le_of_ble_eq_true rfl) rfl hF (tX11_within Z x5 30 33 trivial h) (fun w5 h4 hF => ?_)
      refine j_if_ne (pc := 88) 97 X dX5_expression_88 rfl hF (fun hF => ?_) (fun hF => ?_)
      · refine j_lv [(0, .ref (Z.2.1 142)), (1, .int x1), (2, .int x2), (4, .int x4), (5, .int x5)] [0, 1, 2, 4, 5] rfl ?_
        exact BX5_expression_97 X E hz r9 hr9 x1 x2 x4 x5 h4 hF
      · refine j_aload_n (pc := 91) 0 X dX5_expression_91 rfl ?_
        refine j_iconst (pc := 92) 1 X dX5_expression_92 rfl ?_
        refine j_cVi (pc := 93) (As := [.int 1]) (rest := []) X dX5_expression_93 ml_X5_79 ck_X5_stop cv_X5_stop (hz _ sh_142) rfl (Nat.le_of_ble_eq_true rfl) rfl (Nat.le_of_ble_eq_true rfl) rfl hF (tX5_stop Z 1 hz h4) (fun w7 h6 hF => ?_)
        exact j_zret (pc := 96) X E dX5_expression_96 hF
def bX5_expression_9   (r9 : Int32 → Int32 → Int32 → Int32 → Hp → Option (Int32 × Hp)) (x1 : Int32) (x2 : Int32) (x3 : Int32) (x4 : Int32) (h : Hp) : Option (Int32 × Hp) := (if 400 < x4 then bi (fX5_stop 2 h) (fun w2 h1 => ck (zb w2) (some (w2, h1))) else lt (h.1 142 7) (fun v3 => (if x3 = 0 then bX5_expression_69 r9 x1 x2 x3 x4 v3 h else (if v3 = 14 then (if 6 ≤ x2 then bX5_expression_46 h else (if x1 < 64 then lt (x2 + 1) (fun v4 => ck (inb x1 64) (lt (wI h 146 (ix x1) 14) (fun h5 => lt (x1 + 1) (fun v6 => bX5_expression_251 r9 v6 v4 x3 x4 v3 h5)))) else bX5_expression_46 h)) else bX5_expression_69 r9 x1 x2 x3 x4 v3 h))))
def lX5_expression_9   : Nat → Int32 → Int32 → Int32 → Int32 → Hp → Option (Int32 × Hp)
  | 0 => fun _ _ _ _ _ => none
  | n + 1 => bX5_expression_9   (lX5_expression_9   n)
set_option maxRecDepth 20000 in
theorem BX5_expression_9 {Z : ZT} {G : GT} {r : Int32} {hr : Hp} (X : CX Z G cX5_expression RX5 7 1) (E : RX Z G (some .boolean) (some (.int r)) hr) (hz : HZ Z)  (r9 : Int32 → Int32 → Int32 → Int32 → Hp → Option (Int32 × Hp)) (hr9 : ∀ (x1 : Int32) (x2 : Int32) (x3 : Int32) (x4 : Int32) (h : Hp), r9 x1 x2 x3 x4 h = some (r, hr) → J Z G 7 h 9 [(0, .ref (Z.2.1 142)), (1, .int x1), (2, .int x2), (3, .int x3), (4, .int x4)] []) (x1 : Int32) (x2 : Int32) (x3 : Int32) (x4 : Int32) (h : Hp) (hF : bX5_expression_9   r9 x1 x2 x3 x4 h = some (r, hr)) : J Z G 7 h 9 [(0, .ref (Z.2.1 142)), (1, .int x1), (2, .int x2), (3, .int x3), (4, .int x4)] [] := by
  unfold bX5_expression_9 at hF
  refine j_iload (pc := 9) 4 X dX5_expression_9 rfl ?_
  refine j_sipush (pc := 11) 400 X dX5_expression_11 rfl ?_
  refine j_icmp_gt (pc := 14) 268 X dX5_expression_14 rfl hF (fun hF => ?_) (fun hF => ?_)
  · refine j_aload_n (pc := 268) 0 X dX5_expression_268 rfl ?_
    refine j_iconst (pc := 269) 2 X dX5_expression_269 rfl ?_
    refine j_cVi (pc := 270) (As := [.int 2]) (rest := []) X dX5_expression_270 ml_X5_79 ck_X5_stop cv_X5_stop (hz _ sh_142) rfl (Nat.le_of_ble_eq_true rfl) rfl (Nat.le_of_ble_eq_true rfl) rfl hF (tX5_stop Z 2 hz h) (fun w2 h1 hF => ?_)
    exact j_zret (pc := 273) X E dX5_expression_273 hF
  · refine j_aload_n (pc := 17) 0 X dX5_expression_17 rfl ?_
    refine j_geti (pc := 18) X dX5_expression_18 (hz _ sh_142) fl_X5_47 rfl ?_
    refine j_istore (pc := 21) (fun y => [(5, .int y), (0, .ref (Z.2.1 142)), (1, .int x1), (2, .int x2), (3, .int x3), (4, .int x4)]) X dX5_expression_21 (by decide) (fun _ => rfl) hF (fun v3 hF => ?_)
    refine j_iload_n (pc := 23) 4 X dX5_expression_23 rfl ?_
    refine j_if_eq (pc := 24) 69 X dX5_expression_24 rfl hF (fun hF => ?_) (fun hF => ?_)
    · refine j_lv [(0, .ref (Z.2.1 142)), (1, .int x1), (2, .int x2), (3, .int x3), (4, .int x4), (5, .int v3)] [1, 2, 3, 4, 5, 0] rfl ?_
      exact BX5_expression_69 X E hz r9 hr9 x1 x2 x3 x4 v3 h hF
    · refine j_iload (pc := 27) 0 X dX5_expression_27 rfl ?_
      refine j_bipush (pc := 29) 14 X dX5_expression_29 rfl ?_
      refine j_icmp_ne (pc := 31) 69 X dX5_expression_31 rfl hF (fun hF => ?_) (fun hF => ?_)
      · refine j_lv [(0, .ref (Z.2.1 142)), (1, .int x1), (2, .int x2), (3, .int x3), (4, .int x4), (5, .int v3)] [1, 2, 3, 4, 5, 0] rfl ?_
        exact BX5_expression_69 X E hz r9 hr9 x1 x2 x3 x4 v3 h hF
      · refine j_iload_n (pc := 34) 3 X dX5_expression_34 rfl ?_
        refine j_bipush (pc := 35) 6 X dX5_expression_35 rfl ?_
        refine j_icmp_ge (pc := 37) 46 X dX5_expression_37 rfl hF (fun hF => ?_) (fun hF => ?_)
        · refine j_lv [(0, .ref (Z.2.1 142))] [1] rfl ?_
          exact BX5_expression_46 X E hz h hF
        · refine j_iload_n (pc := 40) 2 X dX5_expression_40 rfl ?_
          refine j_bipush (pc := 41) 64 X dX5_expression_41 rfl ?_
          refine j_icmp_lt (pc := 43) 52 X dX5_expression_43 rfl hF (fun hF => ?_) (fun hF => ?_)
          · refine j_iinc (pc := 52) 3 (x2 + 1) (fun y => [(2, .int y), (5, .int v3), (0, .ref (Z.2.1 142)), (1, .int x1), (3, .int x3), (4, .int x4)]) X dX5_expression_52 rfl rfl (by decide) (fun _ => rfl) hF (fun v4 hF => ?_)
            refine j_aload_n (pc := 55) 2 X dX5_expression_55 rfl ?_
            refine j_getr (pc := 56) X dX5_expression_56 (hz _ sh_142) fl_X5_21 rfl ?_
            refine j_iload_n (pc := 59) 3 X dX5_expression_59 rfl ?_
            refine j_bipush (pc := 60) 14 X dX5_expression_60 rfl ?_
            refine j_iast (pc := 62) X dX5_expression_62 (hz _ sh_146) hF (fun h5 hF => ?_)
            refine j_iinc (pc := 63) 3 (x1 + 1) (fun y => [(1, .int y), (2, .int v4), (5, .int v3), (0, .ref (Z.2.1 142)), (3, .int x3), (4, .int x4)]) X dX5_expression_63 rfl rfl (by decide) (fun _ => rfl) hF (fun v6 hF => ?_)
            refine j_goto (pc := 66) 251 X dX5_expression_66 rfl ?_
            refine j_lv [(0, .ref (Z.2.1 142)), (1, .int v6), (2, .int v4), (3, .int x3), (4, .int x4), (5, .int v3)] [3, 0, 1, 4, 5, 2] rfl ?_
            exact BX5_expression_251 X E hz r9 hr9 v6 v4 x3 x4 v3 h5 hF
          · refine j_lv [(0, .ref (Z.2.1 142))] [1] rfl ?_
            exact BX5_expression_46 X E hz h hF
theorem LX5_expression_9 {Z : ZT} {G : GT} {r : Int32} {hr : Hp} (X : CX Z G cX5_expression RX5 7 1) (E : RX Z G (some .boolean) (some (.int r)) hr) (hz : HZ Z)  : ∀ (n : Nat) (x1 : Int32) (x2 : Int32) (x3 : Int32) (x4 : Int32) (h : Hp), lX5_expression_9   n x1 x2 x3 x4 h = some (r, hr) → J Z G 7 h 9 [(0, .ref (Z.2.1 142)), (1, .int x1), (2, .int x2), (3, .int x3), (4, .int x4)] [] := by
  intro n
  induction n with
  | zero => intro x1 x2 x3 x4 h hF; cases hF
  | succ n ih => intro x1 x2 x3 x4 h hF; exact BX5_expression_9 X E hz  (lX5_expression_9   n) ih x1 x2 x3 x4 h hF
def fX5_expression  (h : Hp) : Option (Int32 × Hp) := lt 0 (fun v1 => lt 0 (fun v2 => lt 1 (fun v3 => lt 0 (fun v4 => lX5_expression_9 FU v1 v2 v3 v4 h))))
set_option maxRecDepth 20000 in
theorem tX5_expression (Z : ZT)  (hz : HZ Z) (h : Hp) (r : Int32) (hr : Hp) (hF : fX5_expression  h = some (r, hr)) : MC Z yX5_expression cX5_expression 7 (some .boolean) 1 [.ref (Z.2.1 142)] h (some (.int r)) hr := by
  unfold fX5_expression at hF
  refine mc_start (by decide) (Nat.le_of_ble_eq_true rfl) (fun G X E => ?_)
  refine j_iconst (pc := 0) 0 X dX5_expression_0 rfl ?_
  refine j_istore_n (pc := 1) (fun y => [(1, .int y), (0, .ref (Z.2.1 142))]) X dX5_expression_1 (by decide) (fun _ => rfl) hF (fun v1 hF => ?_)
  refine j_iconst (pc := 2) 0 X dX5_expression_2 rfl ?_
  refine j_istore_n (pc := 3) (fun y => [(2, .int y), (1, .int v1), (0, .ref (Z.2.1 142))]) X dX5_expression_3 (by decide) (fun _ => rfl) hF (fun v2 hF => ?_)
  refine j_iconst (pc := 4) 1 X dX5_expression_4 rfl ?_
  refine j_istore_n (pc := 5) (fun y => [(3, .int y), (2, .int v2), (1, .int v1), (0, .ref (Z.2.1 142))]) X dX5_expression_5 (by decide) (fun _ => rfl) hF (fun v3 hF => ?_)
  refine j_iconst (pc := 6) 0 X dX5_expression_6 rfl ?_
  refine j_istore (pc := 7) (fun y => [(4, .int y), (3, .int v3), (2, .int v2), (1, .int v1), (0, .ref (Z.2.1 142))]) X dX5_expression_7 (by decide) (fun _ => rfl) hF (fun v4 hF => ?_)
  refine j_lv [(0, .ref (Z.2.1 142)), (1, .int v1), (2, .int v2), (3, .int v3), (4, .int v4)] [4, 3, 2, 1, 0] rfl ?_
  exact LX5_expression_9 X E hz FU v1 v2 v3 v4 h hF
theorem dX5_literal_0 : decode cX5_literal 0 = .ok (.iconst 0, 1) := by decide +kernel
theorem dX5_literal_1 : decode cX5_literal 1 = .ok (.istore_n 1, 1) := by decide +kernel
theorem dX5_literal_2 : decode cX5_literal 2 = .ok (.iconst 0, 1) := by decide +kernel
theorem dX5_literal_3 : decode cX5_literal 3 = .ok (.istore_n 2, 1) := by decide +kernel
theorem dX5_literal_4 : decode cX5_literal 4 = .ok (.iload_n 2, 1) := by decide +kernel
theorem dX5_literal_5 : decode cX5_literal 5 = .ok (.sipush 400, 3) := by decide +kernel
theorem dX5_literal_8 : decode cX5_literal 8 = .ok (.if_icmp .gt 39, 3) := by decide +kernel
theorem dX5_literal_11 : decode cX5_literal 11 = .ok (.aload_n 0, 1) := by decide +kernel
theorem dX5_literal_12 : decode cX5_literal 12 = .ok (.getfield 47, 3) := by decide +kernel
theorem dX5_literal_15 : decode cX5_literal 15 = .ok (.bipush 27, 2) := by decide +kernel
theorem dX5_literal_17 : decode cX5_literal 17 = .ok (.if_icmp .ne 30, 3) := by decide +kernel
theorem dX5_literal_20 : decode cX5_literal 20 = .ok (.aload_n 0, 1) := by decide +kernel
theorem dX5_literal_21 : decode cX5_literal 21 = .ok (.bipush 27, 2) := by decide +kernel
theorem dX5_literal_23 : decode cX5_literal 23 = .ok (.invokevirtual 88, 3) := by decide +kernel
theorem dX5_literal_26 : decode cX5_literal 26 = .ok (.ifCond .ne 5, 3) := by decide +kernel
theorem dX5_literal_29 : decode cX5_literal 29 = .ok (.iconst 0, 1) := by decide +kernel
theorem dX5_literal_30 : decode cX5_literal 30 = .ok (.ireturn, 1) := by decide +kernel
theorem dX5_literal_31 : decode cX5_literal 31 = .ok (.iload_n 1, 1) := by decide +kernel
theorem dX5_literal_32 : decode cX5_literal 32 = .ok (.ifCond .ne 7, 3) := by decide +kernel
theorem dX5_literal_35 : decode cX5_literal 35 = .ok (.iconst 1, 1) := by decide +kernel
theorem dX5_literal_36 : decode cX5_literal 36 = .ok (.goto 4, 3) := by decide +kernel
theorem dX5_literal_39 : decode cX5_literal 39 = .ok (.iconst 0, 1) := by decide +kernel
theorem dX5_literal_40 : decode cX5_literal 40 = .ok (.istore_n 1, 1) := by decide +kernel
theorem dX5_literal_41 : decode cX5_literal 41 = .ok (.iinc 2 1, 3) := by decide +kernel
theorem dX5_literal_44 : decode cX5_literal 44 = .ok (.goto (-40), 3) := by decide +kernel
theorem dX5_literal_47 : decode cX5_literal 47 = .ok (.aload_n 0, 1) := by decide +kernel
theorem dX5_literal_48 : decode cX5_literal 48 = .ok (.getfield 47, 3) := by decide +kernel
theorem dX5_literal_51 : decode cX5_literal 51 = .ok (.bipush 28, 2) := by decide +kernel
theorem dX5_literal_53 : decode cX5_literal 53 = .ok (.if_icmp .ne 48, 3) := by decide +kernel
theorem dX5_literal_56 : decode cX5_literal 56 = .ok (.aload_n 0, 1) := by decide +kernel
theorem dX5_literal_57 : decode cX5_literal 57 = .ok (.bipush 28, 2) := by decide +kernel
theorem dX5_literal_59 : decode cX5_literal 59 = .ok (.invokevirtual 88, 3) := by decide +kernel
theorem dX5_literal_62 : decode cX5_literal 62 = .ok (.ifCond .eq 21, 3) := by decide +kernel
theorem dX5_literal_65 : decode cX5_literal 65 = .ok (.aload_n 0, 1) := by decide +kernel
theorem dX5_literal_66 : decode cX5_literal 66 = .ok (.aload_n 0, 1) := by decide +kernel
theorem dX5_literal_67 : decode cX5_literal 67 = .ok (.getfield 9, 3) := by decide +kernel
theorem dX5_literal_70 : decode cX5_literal 70 = .ok (.aload_n 0, 1) := by decide +kernel
theorem dX5_literal_71 : decode cX5_literal 71 = .ok (.getfield 29, 3) := by decide +kernel
theorem dX5_literal_74 : decode cX5_literal 74 = .ok (.getfield 91, 3) := by decide +kernel
theorem dX5_literal_77 : decode cX5_literal 77 = .ok (.invokevirtual 126, 3) := by decide +kernel
theorem dX5_literal_80 : decode cX5_literal 80 = .ok (.goto 4, 3) := by decide +kernel
theorem dX5_literal_83 : decode cX5_literal 83 = .ok (.iconst (-1), 1) := by decide +kernel
theorem dX5_literal_84 : decode cX5_literal 84 = .ok (.istore_n 2, 1) := by decide +kernel
theorem dX5_literal_85 : decode cX5_literal 85 = .ok (.iload_n 2, 1) := by decide +kernel
theorem dX5_literal_86 : decode cX5_literal 86 = .ok (.ifCond .ge 5, 3) := by decide +kernel
theorem dX5_literal_89 : decode cX5_literal 89 = .ok (.iconst 0, 1) := by decide +kernel
theorem dX5_literal_90 : decode cX5_literal 90 = .ok (.ireturn, 1) := by decide +kernel
theorem dX5_literal_91 : decode cX5_literal 91 = .ok (.aload_n 0, 1) := by decide +kernel
theorem dX5_literal_92 : decode cX5_literal 92 = .ok (.bipush 28, 2) := by decide +kernel
theorem dX5_literal_94 : decode cX5_literal 94 = .ok (.iload_n 2, 1) := by decide +kernel
theorem dX5_literal_95 : decode cX5_literal 95 = .ok (.invokevirtual 188, 3) := by decide +kernel
theorem dX5_literal_98 : decode cX5_literal 98 = .ok (.goto 97, 3) := by decide +kernel
theorem dX5_literal_101 : decode cX5_literal 101 = .ok (.aload_n 0, 1) := by decide +kernel
theorem dX5_literal_102 : decode cX5_literal 102 = .ok (.getfield 47, 3) := by decide +kernel
theorem dX5_literal_105 : decode cX5_literal 105 = .ok (.bipush 29, 2) := by decide +kernel
theorem dX5_literal_107 : decode cX5_literal 107 = .ok (.if_icmp .ne 34, 3) := by decide +kernel
theorem dX5_literal_110 : decode cX5_literal 110 = .ok (.aload_n 0, 1) := by decide +kernel
theorem dX5_literal_111 : decode cX5_literal 111 = .ok (.bipush 29, 2) := by decide +kernel
theorem dX5_literal_113 : decode cX5_literal 113 = .ok (.invokevirtual 88, 3) := by decide +kernel
theorem dX5_literal_116 : decode cX5_literal 116 = .ok (.ifCond .ne 5, 3) := by decide +kernel
theorem dX5_literal_119 : decode cX5_literal 119 = .ok (.iconst 0, 1) := by decide +kernel
theorem dX5_literal_120 : decode cX5_literal 120 = .ok (.ireturn, 1) := by decide +kernel
theorem dX5_literal_121 : decode cX5_literal 121 = .ok (.aload_n 0, 1) := by decide +kernel
theorem dX5_literal_122 : decode cX5_literal 122 = .ok (.bipush 29, 2) := by decide +kernel
theorem dX5_literal_124 : decode cX5_literal 124 = .ok (.aload_n 0, 1) := by decide +kernel
theorem dX5_literal_125 : decode cX5_literal 125 = .ok (.getfield 38, 3) := by decide +kernel
theorem dX5_literal_128 : decode cX5_literal 128 = .ok (.invokevirtual 188, 3) := by decide +kernel
theorem dX5_literal_131 : decode cX5_literal 131 = .ok (.aload_n 0, 1) := by decide +kernel
theorem dX5_literal_132 : decode cX5_literal 132 = .ok (.iconst 2, 1) := by decide +kernel
theorem dX5_literal_133 : decode cX5_literal 133 = .ok (.invokevirtual 88, 3) := by decide +kernel
theorem dX5_literal_136 : decode cX5_literal 136 = .ok (.ifCond .ne 59, 3) := by decide +kernel
theorem dX5_literal_139 : decode cX5_literal 139 = .ok (.iconst 0, 1) := by decide +kernel
theorem dX5_literal_140 : decode cX5_literal 140 = .ok (.ireturn, 1) := by decide +kernel
theorem dX5_literal_141 : decode cX5_literal 141 = .ok (.aload_n 0, 1) := by decide +kernel
theorem dX5_literal_142 : decode cX5_literal 142 = .ok (.invokevirtual 173, 3) := by decide +kernel
theorem dX5_literal_145 : decode cX5_literal 145 = .ok (.ifCond .ne 5, 3) := by decide +kernel
theorem dX5_literal_148 : decode cX5_literal 148 = .ok (.iconst 0, 1) := by decide +kernel
theorem dX5_literal_149 : decode cX5_literal 149 = .ok (.ireturn, 1) := by decide +kernel
theorem dX5_literal_150 : decode cX5_literal 150 = .ok (.aload_n 0, 1) := by decide +kernel
theorem dX5_literal_151 : decode cX5_literal 151 = .ok (.getfield 47, 3) := by decide +kernel
theorem dX5_literal_154 : decode cX5_literal 154 = .ok (.istore_n 2, 1) := by decide +kernel
theorem dX5_literal_155 : decode cX5_literal 155 = .ok (.iload_n 2, 1) := by decide +kernel
theorem dX5_literal_156 : decode cX5_literal 156 = .ok (.bipush 9, 2) := by decide +kernel
theorem dX5_literal_158 : decode cX5_literal 158 = .ok (.bipush 12, 2) := by decide +kernel
theorem dX5_literal_160 : decode cX5_literal 160 = .ok (.invokestatic 108, 3) := by decide +kernel
theorem dX5_literal_163 : decode cX5_literal 163 = .ok (.ifCond .ne 9, 3) := by decide +kernel
theorem dX5_literal_166 : decode cX5_literal 166 = .ok (.aload_n 0, 1) := by decide +kernel
theorem dX5_literal_167 : decode cX5_literal 167 = .ok (.iconst 1, 1) := by decide +kernel
theorem dX5_literal_168 : decode cX5_literal 168 = .ok (.invokevirtual 79, 3) := by decide +kernel
theorem dX5_literal_171 : decode cX5_literal 171 = .ok (.ireturn, 1) := by decide +kernel
theorem dX5_literal_172 : decode cX5_literal 172 = .ok (.aload_n 0, 1) := by decide +kernel
theorem dX5_literal_173 : decode cX5_literal 173 = .ok (.iload_n 2, 1) := by decide +kernel
theorem dX5_literal_174 : decode cX5_literal 174 = .ok (.invokevirtual 88, 3) := by decide +kernel
theorem dX5_literal_177 : decode cX5_literal 177 = .ok (.ifCond .eq 10, 3) := by decide +kernel
theorem dX5_literal_180 : decode cX5_literal 180 = .ok (.aload_n 0, 1) := by decide +kernel
theorem dX5_literal_181 : decode cX5_literal 181 = .ok (.invokevirtual 173, 3) := by decide +kernel
theorem dX5_literal_184 : decode cX5_literal 184 = .ok (.ifCond .ne 5, 3) := by decide +kernel
theorem dX5_literal_187 : decode cX5_literal 187 = .ok (.iconst 0, 1) := by decide +kernel
theorem dX5_literal_188 : decode cX5_literal 188 = .ok (.ireturn, 1) := by decide +kernel
theorem dX5_literal_189 : decode cX5_literal 189 = .ok (.aload_n 0, 1) := by decide +kernel
theorem dX5_literal_190 : decode cX5_literal 190 = .ok (.iload_n 2, 1) := by decide +kernel
theorem dX5_literal_191 : decode cX5_literal 191 = .ok (.iconst 0, 1) := by decide +kernel
theorem dX5_literal_192 : decode cX5_literal 192 = .ok (.invokevirtual 188, 3) := by decide +kernel
theorem dX5_literal_195 : decode cX5_literal 195 = .ok (.iload_n 1, 1) := by decide +kernel
theorem dX5_literal_196 : decode cX5_literal 196 = .ok (.ifCond .eq 10, 3) := by decide +kernel
theorem dX5_literal_199 : decode cX5_literal 199 = .ok (.aload_n 0, 1) := by decide +kernel
theorem dX5_literal_200 : decode cX5_literal 200 = .ok (.bipush 27, 2) := by decide +kernel
theorem dX5_literal_202 : decode cX5_literal 202 = .ok (.iconst 0, 1) := by decide +kernel
theorem dX5_literal_203 : decode cX5_literal 203 = .ok (.invokevirtual 188, 3) := by decide +kernel
theorem dX5_literal_206 : decode cX5_literal 206 = .ok (.iconst 1, 1) := by decide +kernel
theorem dX5_literal_207 : decode cX5_literal 207 = .ok (.ireturn, 1) := by decide +kernel
def bX5_literal_40  (r4 : Int32 → Int32 → Hp → Option (Int32 × Hp)) (x2 : Int32) (s0 : Int32) (h : Hp) : Option (Int32 × Hp) := lt s0 (fun v1 => lt (x2 + 1) (fun v2 => r4 v1 v2 h))
set_option maxRecDepth 20000 in
theorem BX5_literal_40 {Z : ZT} {G : GT} {r : Int32} {hr : Hp} (X : CX Z G cX5_literal RX5 3 2) (E : RX Z G (some .boolean) (some (.int r)) hr) (hz : HZ Z) (r4 : Int32 → Int32 → Hp → Option (Int32 × Hp)) (hr4 : ∀ (x1 : Int32) (x2 : Int32) (h : Hp), r4 x1 x2 h = some (r, hr) → J Z G 3 h 4 [(0, .ref (Z.2.1 142)), (1, .int x1), (2, .int x2)] []) (x2 : Int32) (s0 : Int32) (h : Hp) (hF : bX5_literal_40  r4 x2 s0 h = some (r, hr)) : J Z G 3 h 40 [(0, .ref (Z.2.1 142)), (2, .int x2)] [.int s0] := by
  unfold bX5_literal_40 at hF
  refine j_istore_n (pc := 40) (fun y => [(1, .int y), (0, .ref (Z.2.1 142)), (2, .int x2)]) X dX5_literal_40 (by decide) (fun _ => rfl) hF (fun v1 hF => ?_)
  refine j_iinc (pc := 41) 2 (x2 + 1) (fun y => [(2, .int y), (1, .int v1), (0, .ref (Z.2.1 142))]) X dX5_literal_41 rfl rfl (by decide) (fun _ => rfl) hF (fun v2 hF => ?_)
  refine j_goto (pc := 44) 4 X dX5_literal_44 rfl ?_
  refine j_lv [(0, .ref (Z.2.1 142)), (1, .int v1), (2, .int v2)] [2, 1, 0] rfl ?_
  exact hr4 v1 v2 h hF
def bX5_literal_195   (x1 : Int32) (h : Hp) : Option (Int32 × Hp) := (if x1 = 0 then ck (zb 1) (some (1, h)) else bv (fX5_emit 27 0 h) (fun h1 => ck (zb 1) (some (1, h1))))
set_option maxRecDepth 20000 in
theorem BX5_literal_195 {Z : ZT} {G : GT} {r : Int32} {hr : Hp} (X : CX Z G cX5_literal RX5 3 2) (E : RX Z G (some .boolean) (some (.int r)) hr) (hz : HZ Z)  (x1 : Int32) (h : Hp) (hF : bX5_literal_195   x1 h = some (r, hr)) : J Z G 3 h 195 [(0, .ref (Z.2.1 142)), (1, .int x1)] [] := by
  unfold bX5_literal_195 at hF
  refine j_iload_n (pc := 195) 1 X dX5_literal_195 rfl ?_
  refine j_if_eq (pc := 196) 206 X dX5_literal_196 rfl hF (fun hF => ?_) (fun hF => ?_)
  · refine j_iconst (pc := 206) 1 X dX5_literal_206 rfl ?_
    exact j_zret (pc := 207) X E dX5_literal_207 hF
  · refine j_aload_n (pc := 199) 0 X dX5_literal_199 rfl ?_
    refine j_bipush (pc := 200) 27 X dX5_literal_200 rfl ?_
    refine j_iconst (pc := 202) 0 X dX5_literal_202 rfl ?_
    refine j_cVv (pc := 203) (As := [.int 27, .int 0]) (rest := []) X dX5_literal_203 ml_X5_188 ck_X5_emit cv_X5_emit (hz _ sh_142) rfl (Nat.le_of_ble_eq_true rfl) rfl (Nat.le_of_ble_eq_true rfl) rfl hF (tX5_emit Z 27 0 hz h) (fun h1 hF => ?_)
    refine j_iconst (pc := 206) 1 X dX5_literal_206 rfl ?_
    exact j_zret (pc := 207) X E dX5_literal_207 hF
def bX5_literal_84   (x1 : Int32) (s0 : Int32) (h : Hp) : Option (Int32 × Hp) := lt s0 (fun v1 => (if 0 ≤ v1 then bv (fX5_emit 28 v1 h) (fun h2 => bX5_literal_195 x1 h2) else ck (zb 0) (some (0, h))))
set_option maxRecDepth 20000 in
theorem BX5_literal_84 {Z : ZT} {G : GT} {r : Int32} {hr : Hp} (X : CX Z G cX5_literal RX5 3 2) (E : RX Z G (some .boolean) (some (.int r)) hr) (hz : HZ Z)  (x1 : Int32) (s0 : Int32) (h : Hp) (hF : bX5_literal_84   x1 s0 h = some (r, hr)) : J Z G 3 h 84 [(0, .ref (Z.2.1 142)), (1, .int x1)] [.int s0] := by
  unfold bX5_literal_84 at hF
  refine j_istore_n (pc := 84) (fun y => [(2, .int y), (0, .ref (Z.2.1 142)), (1, .int x1)]) X dX5_literal_84 (by decide) (fun _ => rfl) hF (fun v1 hF => ?_)
  refine j_iload_n (pc := 85) 0 X dX5_literal_85 rfl ?_
  refine j_if_ge (pc := 86) 91 X dX5_literal_86 rfl hF (fun hF => ?_) (fun hF => ?_)
  · refine j_aload_n (pc := 91) 1 X dX5_literal_91 rfl ?_
    refine j_bipush (pc := 92) 28 X dX5_literal_92 rfl ?_
    refine j_iload_n (pc := 94) 0 X dX5_literal_94 rfl ?_
    refine j_cVv (pc := 95) (As := [.int 28, .int v1]) (rest := []) X dX5_literal_95 ml_X5_188 ck_X5_emit cv_X5_emit (hz _ sh_142) rfl (Nat.le_of_ble_eq_true rfl) rfl (Nat.le_of_ble_eq_true rfl) rfl hF (tX5_emit Z 28 v1 hz h) (fun h2 hF => ?_)
    refine j_goto (pc := 98) 195 X dX5_literal_98 rfl ?_
    refine j_lv [(0, .ref (Z.2.1 142)), (1, .int x1)] [1, 2] rfl ?_
    exact BX5_literal_195 X E hz x1 h2 hF
  · refine j_iconst (pc := 89) 0 X dX5_literal_89 rfl ?_
    exact j_zret (pc := 90) X E dX5_literal_90 hF
def bX5_literal_47   (x1 : Int32) (h : Hp) : Option (Int32 × Hp) := (if (h.1 142 7) = 28 then bi (fX5_take 28 h) (fun w19 h18 => (if w19 = 0 then bX5_literal_84 x1 (-1) h18 else bi (fX5_takeTold 143 10 (h18.1 125 6) h18) (fun w21 h20 => bX5_literal_84 x1 w21 h20))) else (if (h.1 142 7) = 29 then bi (fX5_take 29 h) (fun w14 h13 => (if w14 = 0 then ck (zb 0) (some (0, h13)) else bv (fX5_emit 29 (h13.1 142 6) h13) (fun h15 => bi (fX5_take 2 h15) (fun w17 h16 => (if w17 = 0 then ck (zb 0) (some (0, h16)) else bX5_literal_195 x1 h16))))) else bi (fX5_expression h) (fun w2 h1 => (if w2 = 0 then ck (zb 0) (some (0, h1)) else lt (h1.1 142 7) (fun v3 => bi (fX11_within v3 9 12 h1) (fun w5 h4 => (if w5 = 0 then bi (fX5_stop 1 h4) (fun w12 h11 => ck (zb w12) (some (w12, h11))) else bi (fX5_take v3 h4) (fun w7 h6 => (if w7 = 0 then ck (zb 0) (some (0, h6)) else bi (fX5_expression h6) (fun w9 h8 => (if w9 = 0 then ck (zb 0) (some (0, h8)) else bv (fX5_emit v3 0 h8) (fun h10 => bX5_literal_195 x1 h10))))))))))))
set_option maxRecDepth 20000 in
theorem BX5_literal_47 {Z : ZT} {G : GT} {r : Int32} {hr : Hp} (X : CX Z G cX5_literal RX5 3 2) (E : RX Z G (some .boolean) (some (.int r)) hr) (hz : HZ Z)  (x1 : Int32) (h : Hp) (hF : bX5_literal_47   x1 h = some (r, hr)) : J Z G 3 h 47 [(0, .ref (Z.2.1 142)), (1, .int x1)] [] := by
  unfold bX5_literal_47 at hF
  refine j_aload_n (pc := 47) 0 X dX5_literal_47 rfl ?_
  refine j_geti (pc := 48) X dX5_literal_48 (hz _ sh_142) fl_X5_47 rfl ?_
  refine j_bipush (pc := 51) 28 X dX5_literal_51 rfl ?_
  refine j_icmp_ne (pc := 53) 101 X dX5_literal_53 rfl hF (fun hF => ?_) (fun hF => ?_)
  · refine j_aload_n (pc := 101) 0 X dX5_literal_101 rfl ?_
    refine j_geti (pc := 102) X dX5_literal_102 (hz _ sh_142) fl_X5_47 rfl ?_
    refine j_bipush (pc := 105) 29 X dX5_literal_105 rfl ?_
    refine j_icmp_ne (pc := 107) 141 X dX5_literal_107 rfl hF (fun hF => ?_) (fun hF => ?_)
    · refine j_aload_n (pc := 141) 0 X dX5_literal_141 rfl ?_
      refine j_cVi (pc := 142) (As := []) (rest := []) X dX5_literal_142 ml_X5_173 ck_X5_expression cv_X5_expression (hz _ sh_142) rfl (Nat.le_of_ble_eq_true rfl) rfl (Nat.le_of_ble_eq_true rfl) rfl hF (tX5_expression Z hz h) (fun w2 h1 hF => ?_)
      refine j_if_ne (pc := 145) 150 X dX5_literal_145 rfl hF (fun hF => ?_) (fun hF => ?_)
      · refine j_aload_n (pc := 150) 0 X dX5_literal_150 rfl ?_
        refine j_geti (pc := 151) X dX5_literal_151 (hz _ sh_142) fl_X5_47 rfl ?_
        refine j_istore_n (pc := 154) (fun y => [(2, .int y), (0, .ref (Z.2.1 142)), (1, .int x1)]) X dX5_literal_154 (by decide) (fun _ => rfl) hF (fun v3 hF => ?_)
        refine j_iload_n (pc := 155) 0 X dX5_literal_155 rfl ?_
        refine j_bipush (pc := 156) 9 X dX5_literal_156 rfl ?_
        refine j_bipush (pc := 158) 12 X dX5_literal_158 rfl ?_
        refine j_cSNi (pc := 160) (As := [.int v3, .int 9, .int 12]) (rest := []) X dX5_literal_160 ml_X5_108 ck_X11_within sk_X11_within (Nat.le_of_ble_eq_true rfl) rfl (Nat.le_of_ble_eq_true rfl) rfl hF (tX11_within Z v3 9 12 trivial h1) (fun w5 h4 hF => ?_)
        refine j_if_ne (pc := 163) 172 X dX5_literal_163 rfl hF (fun hF => ?_) (fun hF => ?_)
        · refine j_aload_n (pc := 172) 1 X dX5_literal_172 rfl ?_
          refine j_iload_n (pc := 173) 0 X dX5_literal_173 rfl ?_
          refine j_cVi (pc := 174) (As := [.int v3]) (rest := []) X dX5_literal_174 ml_X5_88 ck_X5_take cv_X5_take (hz _ sh_142) rfl (Nat.le_of_ble_eq_true rfl) rfl (Nat.le_of_ble_eq_true rfl) rfl hF (tX5_take Z v3 hz h4) (fun w7 h6 hF => ?_)
          refine j_if_eq (pc := 177) 187 X dX5_literal_177 rfl hF (fun hF => ?_) (fun hF => ?_)
          · refine j_iconst (pc := 187) 0 X dX5_literal_187 rfl ?_
            exact j_zret (pc := 188) X E dX5_literal_188 hF
          · refine j_aload_n (pc := 180) 1 X dX5_literal_180 rfl ?_
            refine j_cVi (pc := 181) (As := []) (rest := []) X dX5_literal_181 ml_X5_173 ck_X5_expression cv_X5_expression (hz _ sh_142) rfl (Nat.le_of_ble_eq_true rfl) rfl (Nat.le_of_ble_eq_true rfl) rfl hF (tX5_expression Z hz h6) (fun w9 h8 hF => ?_)
            refine j_if_ne (pc := 184) 189 X dX5_literal_184 rfl hF (fun hF => ?_) (fun hF => ?_)
            · refine j_aload_n (pc := 189) 1 X dX5_literal_189 rfl ?_
              refine j_iload_n (pc := 190) 0 X dX5_literal_190 rfl ?_
              refine j_iconst (pc := 191) 0 X dX5_literal_191 rfl ?_
              refine j_cVv (pc := 192) (As := [.int v3, .int 0]) (rest := []) X dX5_literal_192 ml_X5_188 ck_X5_emit cv_X5_emit (hz _ sh_142) rfl (Nat.le_of_ble_eq_true rfl) rfl (Nat.le_of_ble_eq_true rfl) rfl hF (tX5_emit Z v3 0 hz h8) (fun h10 hF => ?_)
              refine j_lv [(0, .ref (Z.2.1 142)), (1, .int x1)] [1, 2] rfl ?_
              exact BX5_literal_195 X E hz x1 h10 hF
            · refine j_iconst (pc := 187) 0 X dX5_literal_187 rfl ?_
              exact j_zret (pc := 188) X E dX5_literal_188 hF
        · refine j_aload_n (pc := 166) 1 X dX5_literal_166 rfl ?_
          refine j_iconst (pc := 167) 1 X dX5_literal_167 rfl ?_
          refine j_cVi (pc := 168) (As := [.int 1]) (rest := []) X dX5_literal_168 ml_X5_79 ck_X5_stop cv_X5_stop (hz _ sh_142) rfl (Nat.le_of_ble_eq_true rfl) rfl (Nat.le_of_ble_eq_true rfl) rfl hF (tX5_stop Z 1 hz h4) (fun w12 h11 hF => ?_)
          exact j_zret (pc := 171) X E dX5_literal_171 hF
      · refine j_iconst (pc := 148) 0 X dX5_literal_148 rfl ?_
        exact j_zret (pc := 149) X E dX5_literal_149 hF
    · refine j_aload_n (pc := 110) 0 X dX5_literal_110 rfl ?_
      refine j_bipush (pc := 111) 29 X dX5_literal_111 rfl ?_
      refine j_cVi (pc := 113) (As := [.int 29]) (rest := []) X dX5_literal_113 ml_X5_88 ck_X5_take cv_X5_take (hz _ sh_142) rfl (Nat.le_of_ble_eq_true rfl) rfl (Nat.le_of_ble_eq_true rfl) rfl hF (tX5_take Z 29 hz h) (fun w14 h13 hF => ?_)
      refine j_if_ne (pc := 116) 121 X dX5_literal_116 rfl hF (fun hF => ?_) (fun hF => ?_)
      · refine j_aload_n (pc := 121) 0 X dX5_literal_121 rfl ?_
        refine j_bipush (pc := 122) 29 X dX5_literal_122 rfl ?_
        refine j_aload_n (pc := 124) 0 X dX5_literal_124 rfl ?_
        refine j_geti (pc := 125) X dX5_literal_125 (hz _ sh_142) fl_X5_38 rfl ?_
        refine j_cVv (pc := 128) (As := [.int 29, .int (h13.1 142 6)]) (rest := []) X dX5_literal_128 ml_X5_188 ck_X5_emit cv_X5_emit (hz _ sh_142) rfl (Nat.le_of_ble_eq_true rfl) rfl (Nat.le_of_ble_eq_true rfl) rfl hF (tX5_emit Z 29 (h13.1 142 6) hz h13) (fun h15 hF => ?_)
        refine j_aload_n (pc := 131) 0 X dX5_literal_131 rfl ?_
        refine j_iconst (pc := 132) 2 X dX5_literal_132 rfl ?_
        refine j_cVi (pc := 133) (As := [.int 2]) (rest := []) X dX5_literal_133 ml_X5_88 ck_X5_take cv_X5_take (hz _ sh_142) rfl (Nat.le_of_ble_eq_true rfl) rfl (Nat.le_of_ble_eq_true rfl) rfl hF (tX5_take Z 2 hz h15) (fun w17 h16 hF => ?_)
        refine j_if_ne (pc := 136) 195 X dX5_literal_136 rfl hF (fun hF => ?_) (fun hF => ?_)
        · exact BX5_literal_195 X E hz x1 h16 hF
        · refine j_iconst (pc := 139) 0 X dX5_literal_139 rfl ?_
          exact j_zret (pc := 140) X E dX5_literal_140 hF
      · refine j_iconst (pc := 119) 0 X dX5_literal_119 rfl ?_
        exact j_zret (pc := 120) X E dX5_literal_120 hF
  · refine j_aload_n (pc := 56) 0 X dX5_literal_56 rfl ?_
    refine j_bipush (pc := 57) 28 X dX5_literal_57 rfl ?_
    refine j_cVi (pc := 59) (As := [.int 28]) (rest := []) X dX5_literal_59 ml_X5_88 ck_X5_take cv_X5_take (hz _ sh_142) rfl (Nat.le_of_ble_eq_true rfl) rfl (Nat.le_of_ble_eq_true rfl) rfl hF (tX5_take Z 28 hz h) (fun w19 h18 hF => ?_)
    refine j_if_eq (pc := 62) 83 X dX5_literal_62 rfl hF (fun hF => ?_) (fun hF => ?_)
    · refine j_iconst (pc := 83) (-1) X dX5_literal_83 rfl ?_
      exact BX5_literal_84 X E hz x1 (-1) h18 hF
    · refine j_aload_n (pc := 65) 0 X dX5_literal_65 rfl ?_
      refine j_aload_n (pc := 66) 0 X dX5_literal_66 rfl ?_
      refine j_getr (pc := 67) X dX5_literal_67 (hz _ sh_142) fl_X5_9 rfl ?_
      refine j_aload_n (pc := 70) 0 X dX5_literal_70 rfl ?_
      refine j_getr (pc := 71) X dX5_literal_71 (hz _ sh_142) fl_X5_29 rfl ?_
      refine j_geti (pc := 74) X dX5_literal_74 (hz _ sh_125) fl_X5_91 rfl ?_
      refine j_cVi (pc := 77) (As := [.ref (Z.2.1 143), .int (h18.1 125 6)]) (rest := []) X dX5_literal_77 ml_X5_126 ck_X5_takeTold cv_X5_takeTold (hz _ sh_142) rfl (Nat.le_of_ble_eq_true rfl) rfl (Nat.le_of_ble_eq_true rfl) rfl hF (tX5_takeTold Z 143 10 (hz _ sh_143) (h18.1 125 6) hz h18) (fun w21 h20 hF => ?_)
      refine j_goto (pc := 80) 84 X dX5_literal_80 rfl ?_
      exact BX5_literal_84 X E hz x1 w21 h20 hF
def bX5_literal_4   (r4 : Int32 → Int32 → Hp → Option (Int32 × Hp)) (x1 : Int32) (x2 : Int32) (h : Hp) : Option (Int32 × Hp) := (if 400 < x2 then bX5_literal_47 x1 h else (if (h.1 142 7) = 27 then bi (fX5_take 27 h) (fun w2 h1 => (if w2 = 0 then ck (zb 0) (some (0, h1)) else (if x1 = 0 then bX5_literal_40 r4 x2 1 h1 else bX5_literal_40 r4 x2 0 h1))) else bX5_literal_47 x1 h))
def lX5_literal_4   : Nat → Int32 → Int32 → Hp → Option (Int32 × Hp)
  | 0 => fun _ _ _ => none
  | n + 1 => bX5_literal_4   (lX5_literal_4   n)
set_option maxRecDepth 20000 in
theorem BX5_literal_4 {Z : ZT} {G : GT} {r : Int32} {hr : Hp} (X : CX Z G cX5_literal RX5 3 2) (E : RX Z G (some .boolean) (some (.int r)) hr) (hz : HZ Z)  (r4 : Int32 → Int32 → Hp → Option (Int32 × Hp)) (hr4 : ∀ (x1 : Int32) (x2 : Int32) (h : Hp), r4 x1 x2 h = some (r, hr) → J Z G 3 h 4 [(0, .ref (Z.2.1 142)), (1, .int x1), (2, .int x2)] []) (x1 : Int32) (x2 : Int32) (h : Hp) (hF : bX5_literal_4   r4 x1 x2 h = some (r, hr)) : J Z G 3 h 4 [(0, .ref (Z.2.1 142)), (1, .int x1), (2, .int x2)] [] := by
  unfold bX5_literal_4 at hF
  refine j_iload_n (pc := 4) 2 X dX5_literal_4 rfl ?_
  refine j_sipush (pc := 5) 400 X dX5_literal_5 rfl ?_
  refine j_icmp_gt (pc := 8) 47 X dX5_literal_8 rfl hF (fun hF => ?_) (fun hF => ?_)
  · refine j_lv [(0, .ref (Z.2.1 142)), (1, .int x1)] [0, 1] rfl ?_
    exact BX5_literal_47 X E hz x1 h hF
  · refine j_aload_n (pc := 11) 0 X dX5_literal_11 rfl ?_
    refine j_geti (pc := 12) X dX5_literal_12 (hz _ sh_142) fl_X5_47 rfl ?_
    refine j_bipush (pc := 15) 27 X dX5_literal_15 rfl ?_
    refine j_icmp_ne (pc := 17) 47 X dX5_literal_17 rfl hF (fun hF => ?_) (fun hF => ?_)
    · refine j_lv [(0, .ref (Z.2.1 142)), (1, .int x1)] [0, 1] rfl ?_
      exact BX5_literal_47 X E hz x1 h hF
    · refine j_aload_n (pc := 20) 0 X dX5_literal_20 rfl ?_
      refine j_bipush (pc := 21) 27 X dX5_literal_21 rfl ?_
      refine j_cVi (pc := 23) (As := [.int 27]) (rest := []) X dX5_literal_23 ml_X5_88 ck_X5_take cv_X5_take (hz _ sh_142) rfl (Nat.le_of_ble_eq_true rfl) rfl (Nat.le_of_ble_eq_true rfl) rfl hF (tX5_take Z 27 hz h) (fun w2 h1 hF => ?_)
      refine j_if_ne (pc := 26) 31 X dX5_literal_26 rfl hF (fun hF => ?_) (fun hF => ?_)
      · refine j_iload_n (pc := 31) 1 X dX5_literal_31 rfl ?_
        refine j_if_ne (pc := 32) 39 X dX5_literal_32 rfl hF (fun hF => ?_) (fun hF => ?_)
        · refine j_iconst (pc := 39) 0 X dX5_literal_39 rfl ?_
          refine j_lv [(0, .ref (Z.2.1 142)), (2, .int x2)] [0, 2] rfl ?_
          exact BX5_literal_40 X E hz r4 hr4 x2 0 h1 hF
        · refine j_iconst (pc := 35) 1 X dX5_literal_35 rfl ?_
          refine j_goto (pc := 36) 40 X dX5_literal_36 rfl ?_
          refine j_lv [(0, .ref (Z.2.1 142)), (2, .int x2)] [0, 2] rfl ?_
          exact BX5_literal_40 X E hz r4 hr4 x2 1 h1 hF
      · refine j_iconst (pc := 29) 0 X dX5_literal_29 rfl ?_
        exact j_zret (pc := 30) X E dX5_literal_30 hF
theorem LX5_literal_4 {Z : ZT} {G : GT} {r : Int32} {hr : Hp} (X : CX Z G cX5_literal RX5 3 2) (E : RX Z G (some .boolean) (some (.int r)) hr) (hz : HZ Z)  : ∀ (n : Nat) (x1 : Int32) (x2 : Int32) (h : Hp), lX5_literal_4   n x1 x2 h = some (r, hr) → J Z G 3 h 4 [(0, .ref (Z.2.1 142)), (1, .int x1), (2, .int x2)] [] := by
  intro n
  induction n with
  | zero => intro x1 x2 h hF; cases hF
  | succ n ih => intro x1 x2 h hF; exact BX5_literal_4 X E hz  (lX5_literal_4   n) ih x1 x2 h hF
def fX5_literal  (h : Hp) : Option (Int32 × Hp) := lt 0 (fun v1 => lt 0 (fun v2 => lX5_literal_4 FU v1 v2 h))
set_option maxRecDepth 20000 in
theorem tX5_literal (Z : ZT)  (hz : HZ Z) (h : Hp) (r : Int32) (hr : Hp) (hF : fX5_literal  h = some (r, hr)) : MC Z yX5_literal cX5_literal 3 (some .boolean) 2 [.ref (Z.2.1 142)] h (some (.int r)) hr := by
  unfold fX5_literal at hF
  refine mc_start (by decide) (Nat.le_of_ble_eq_true rfl) (fun G X E => ?_)
  refine j_iconst (pc := 0) 0 X dX5_literal_0 rfl ?_
  refine j_istore_n (pc := 1) (fun y => [(1, .int y), (0, .ref (Z.2.1 142))]) X dX5_literal_1 (by decide) (fun _ => rfl) hF (fun v1 hF => ?_)
  refine j_iconst (pc := 2) 0 X dX5_literal_2 rfl ?_
  refine j_istore_n (pc := 3) (fun y => [(2, .int y), (1, .int v1), (0, .ref (Z.2.1 142))]) X dX5_literal_3 (by decide) (fun _ => rfl) hF (fun v2 hF => ?_)
  refine j_lv [(0, .ref (Z.2.1 142)), (1, .int v1), (2, .int v2)] [2, 1, 0] rfl ?_
  exact LX5_literal_4 X E hz FU v1 v2 h hF
theorem dX5_condition_0 : decode cX5_condition 0 = .ok (.aload_n 0, 1) := by decide +kernel
theorem dX5_condition_1 : decode cX5_condition 1 = .ok (.invokevirtual 185, 3) := by decide +kernel
theorem dX5_condition_4 : decode cX5_condition 4 = .ok (.ifCond .ne 5, 3) := by decide +kernel
theorem dX5_condition_7 : decode cX5_condition 7 = .ok (.iconst 0, 1) := by decide +kernel
theorem dX5_condition_8 : decode cX5_condition 8 = .ok (.ireturn, 1) := by decide +kernel
theorem dX5_condition_9 : decode cX5_condition 9 = .ok (.iconst 0, 1) := by decide +kernel
theorem dX5_condition_10 : decode cX5_condition 10 = .ok (.istore_n 1, 1) := by decide +kernel
theorem dX5_condition_11 : decode cX5_condition 11 = .ok (.iconst 0, 1) := by decide +kernel
theorem dX5_condition_12 : decode cX5_condition 12 = .ok (.istore_n 2, 1) := by decide +kernel
theorem dX5_condition_13 : decode cX5_condition 13 = .ok (.iload_n 2, 1) := by decide +kernel
theorem dX5_condition_14 : decode cX5_condition 14 = .ok (.sipush 400, 3) := by decide +kernel
theorem dX5_condition_17 : decode cX5_condition 17 = .ok (.if_icmp .gt 95, 3) := by decide +kernel
theorem dX5_condition_20 : decode cX5_condition 20 = .ok (.aload_n 0, 1) := by decide +kernel
theorem dX5_condition_21 : decode cX5_condition 21 = .ok (.getfield 47, 3) := by decide +kernel
theorem dX5_condition_24 : decode cX5_condition 24 = .ok (.bipush 26, 2) := by decide +kernel
theorem dX5_condition_26 : decode cX5_condition 26 = .ok (.if_icmp .eq 12, 3) := by decide +kernel
theorem dX5_condition_29 : decode cX5_condition 29 = .ok (.aload_n 0, 1) := by decide +kernel
theorem dX5_condition_30 : decode cX5_condition 30 = .ok (.getfield 47, 3) := by decide +kernel
theorem dX5_condition_33 : decode cX5_condition 33 = .ok (.bipush 25, 2) := by decide +kernel
theorem dX5_condition_35 : decode cX5_condition 35 = .ok (.if_icmp .ne 77, 3) := by decide +kernel
theorem dX5_condition_38 : decode cX5_condition 38 = .ok (.aload_n 0, 1) := by decide +kernel
theorem dX5_condition_39 : decode cX5_condition 39 = .ok (.getfield 47, 3) := by decide +kernel
theorem dX5_condition_42 : decode cX5_condition 42 = .ok (.istore_n 3, 1) := by decide +kernel
theorem dX5_condition_43 : decode cX5_condition 43 = .ok (.iload_n 3, 1) := by decide +kernel
theorem dX5_condition_44 : decode cX5_condition 44 = .ok (.bipush 25, 2) := by decide +kernel
theorem dX5_condition_46 : decode cX5_condition 46 = .ok (.if_icmp .ne 14, 3) := by decide +kernel
theorem dX5_condition_49 : decode cX5_condition 49 = .ok (.iload_n 1, 1) := by decide +kernel
theorem dX5_condition_50 : decode cX5_condition 50 = .ok (.ifCond .eq 10, 3) := by decide +kernel
theorem dX5_condition_53 : decode cX5_condition 53 = .ok (.aload_n 0, 1) := by decide +kernel
theorem dX5_condition_54 : decode cX5_condition 54 = .ok (.bipush 25, 2) := by decide +kernel
theorem dX5_condition_56 : decode cX5_condition 56 = .ok (.iconst 0, 1) := by decide +kernel
theorem dX5_condition_57 : decode cX5_condition 57 = .ok (.invokevirtual 188, 3) := by decide +kernel
theorem dX5_condition_60 : decode cX5_condition 60 = .ok (.aload_n 0, 1) := by decide +kernel
theorem dX5_condition_61 : decode cX5_condition 61 = .ok (.iload_n 3, 1) := by decide +kernel
theorem dX5_condition_62 : decode cX5_condition 62 = .ok (.invokevirtual 88, 3) := by decide +kernel
theorem dX5_condition_65 : decode cX5_condition 65 = .ok (.ifCond .eq 10, 3) := by decide +kernel
theorem dX5_condition_68 : decode cX5_condition 68 = .ok (.aload_n 0, 1) := by decide +kernel
theorem dX5_condition_69 : decode cX5_condition 69 = .ok (.invokevirtual 185, 3) := by decide +kernel
theorem dX5_condition_72 : decode cX5_condition 72 = .ok (.ifCond .ne 5, 3) := by decide +kernel
theorem dX5_condition_75 : decode cX5_condition 75 = .ok (.iconst 0, 1) := by decide +kernel
theorem dX5_condition_76 : decode cX5_condition 76 = .ok (.ireturn, 1) := by decide +kernel
theorem dX5_condition_77 : decode cX5_condition 77 = .ok (.iload_n 3, 1) := by decide +kernel
theorem dX5_condition_78 : decode cX5_condition 78 = .ok (.bipush 26, 2) := by decide +kernel
theorem dX5_condition_80 : decode cX5_condition 80 = .ok (.if_icmp .ne 10, 3) := by decide +kernel
theorem dX5_condition_83 : decode cX5_condition 83 = .ok (.aload_n 0, 1) := by decide +kernel
theorem dX5_condition_84 : decode cX5_condition 84 = .ok (.bipush 26, 2) := by decide +kernel
theorem dX5_condition_86 : decode cX5_condition 86 = .ok (.iconst 0, 1) := by decide +kernel
theorem dX5_condition_87 : decode cX5_condition 87 = .ok (.invokevirtual 188, 3) := by decide +kernel
theorem dX5_condition_90 : decode cX5_condition 90 = .ok (.iload_n 1, 1) := by decide +kernel
theorem dX5_condition_91 : decode cX5_condition 91 = .ok (.ifCond .ne 9, 3) := by decide +kernel
theorem dX5_condition_94 : decode cX5_condition 94 = .ok (.iload_n 3, 1) := by decide +kernel
theorem dX5_condition_95 : decode cX5_condition 95 = .ok (.bipush 25, 2) := by decide +kernel
theorem dX5_condition_97 : decode cX5_condition 97 = .ok (.if_icmp .ne 7, 3) := by decide +kernel
theorem dX5_condition_100 : decode cX5_condition 100 = .ok (.iconst 1, 1) := by decide +kernel
theorem dX5_condition_101 : decode cX5_condition 101 = .ok (.goto 4, 3) := by decide +kernel
theorem dX5_condition_104 : decode cX5_condition 104 = .ok (.iconst 0, 1) := by decide +kernel
theorem dX5_condition_105 : decode cX5_condition 105 = .ok (.istore_n 1, 1) := by decide +kernel
theorem dX5_condition_106 : decode cX5_condition 106 = .ok (.iinc 2 1, 3) := by decide +kernel
theorem dX5_condition_109 : decode cX5_condition 109 = .ok (.goto (-96), 3) := by decide +kernel
theorem dX5_condition_112 : decode cX5_condition 112 = .ok (.iload_n 1, 1) := by decide +kernel
theorem dX5_condition_113 : decode cX5_condition 113 = .ok (.ifCond .eq 10, 3) := by decide +kernel
theorem dX5_condition_116 : decode cX5_condition 116 = .ok (.aload_n 0, 1) := by decide +kernel
theorem dX5_condition_117 : decode cX5_condition 117 = .ok (.bipush 25, 2) := by decide +kernel
theorem dX5_condition_119 : decode cX5_condition 119 = .ok (.iconst 0, 1) := by decide +kernel
theorem dX5_condition_120 : decode cX5_condition 120 = .ok (.invokevirtual 188, 3) := by decide +kernel
theorem dX5_condition_123 : decode cX5_condition 123 = .ok (.iconst 1, 1) := by decide +kernel
theorem dX5_condition_124 : decode cX5_condition 124 = .ok (.ireturn, 1) := by decide +kernel
def bX5_condition_105  (r13 : Int32 → Int32 → Hp → Option (Int32 × Hp)) (x2 : Int32) (s0 : Int32) (h : Hp) : Option (Int32 × Hp) := lt s0 (fun v1 => lt (x2 + 1) (fun v2 => r13 v1 v2 h))
set_option maxRecDepth 20000 in
theorem BX5_condition_105 {Z : ZT} {G : GT} {r : Int32} {hr : Hp} (X : CX Z G cX5_condition RX5 4 3) (E : RX Z G (some .boolean) (some (.int r)) hr) (hz : HZ Z) (r13 : Int32 → Int32 → Hp → Option (Int32 × Hp)) (hr13 : ∀ (x1 : Int32) (x2 : Int32) (h : Hp), r13 x1 x2 h = some (r, hr) → J Z G 4 h 13 [(0, .ref (Z.2.1 142)), (1, .int x1), (2, .int x2)] []) (x2 : Int32) (s0 : Int32) (h : Hp) (hF : bX5_condition_105  r13 x2 s0 h = some (r, hr)) : J Z G 4 h 105 [(0, .ref (Z.2.1 142)), (2, .int x2)] [.int s0] := by
  unfold bX5_condition_105 at hF
  refine j_istore_n (pc := 105) (fun y => [(1, .int y), (0, .ref (Z.2.1 142)), (2, .int x2)]) X dX5_condition_105 (by decide) (fun _ => rfl) hF (fun v1 hF => ?_)
  refine j_iinc (pc := 106) 2 (x2 + 1) (fun y => [(2, .int y), (1, .int v1), (0, .ref (Z.2.1 142))]) X dX5_condition_106 rfl rfl (by decide) (fun _ => rfl) hF (fun v2 hF => ?_)
  refine j_goto (pc := 109) 13 X dX5_condition_109 rfl ?_
  refine j_lv [(0, .ref (Z.2.1 142)), (1, .int v1), (2, .int v2)] [2, 1, 0] rfl ?_
  exact hr13 v1 v2 h hF
def bX5_condition_100  (r13 : Int32 → Int32 → Hp → Option (Int32 × Hp)) (x2 : Int32) (h : Hp) : Option (Int32 × Hp) := bX5_condition_105 r13 x2 1 h
set_option maxRecDepth 20000 in
theorem BX5_condition_100 {Z : ZT} {G : GT} {r : Int32} {hr : Hp} (X : CX Z G cX5_condition RX5 4 3) (E : RX Z G (some .boolean) (some (.int r)) hr) (hz : HZ Z) (r13 : Int32 → Int32 → Hp → Option (Int32 × Hp)) (hr13 : ∀ (x1 : Int32) (x2 : Int32) (h : Hp), r13 x1 x2 h = some (r, hr) → J Z G 4 h 13 [(0, .ref (Z.2.1 142)), (1, .int x1), (2, .int x2)] []) (x2 : Int32) (h : Hp) (hF : bX5_condition_100  r13 x2 h = some (r, hr)) : J Z G 4 h 100 [(0, .ref (Z.2.1 142)), (2, .int x2)] [] := by
  unfold bX5_condition_100 at hF
  refine j_iconst (pc := 100) 1 X dX5_condition_100 rfl ?_
  refine j_goto (pc := 101) 105 X dX5_condition_101 rfl ?_
  exact BX5_condition_105 X E hz r13 hr13 x2 1 h hF
def bX5_condition_90  (r13 : Int32 → Int32 → Hp → Option (Int32 × Hp)) (x1 : Int32) (x2 : Int32) (x3 : Int32) (h : Hp) : Option (Int32 × Hp) := (if x1 = 0 then (if x3 = 25 then bX5_condition_100 r13 x2 h else bX5_condition_105 r13 x2 0 h) else bX5_condition_100 r13 x2 h)
set_option maxRecDepth 20000 in
theorem BX5_condition_90 {Z : ZT} {G : GT} {r : Int32} {hr : Hp} (X : CX Z G cX5_condition RX5 4 3) (E : RX Z G (some .boolean) (some (.int r)) hr) (hz : HZ Z) (r13 : Int32 → Int32 → Hp → Option (Int32 × Hp)) (hr13 : ∀ (x1 : Int32) (x2 : Int32) (h : Hp), r13 x1 x2 h = some (r, hr) → J Z G 4 h 13 [(0, .ref (Z.2.1 142)), (1, .int x1), (2, .int x2)] []) (x1 : Int32) (x2 : Int32) (x3 : Int32) (h : Hp) (hF : bX5_condition_90  r13 x1 x2 x3 h = some (r, hr)) : J Z G 4 h 90 [(0, .ref (Z.2.1 142)), (1, .int x1), (2, .int x2), (3, .int x3)] [] := by
  unfold bX5_condition_90 at hF
  refine j_iload_n (pc := 90) 1 X dX5_condition_90 rfl ?_
  refine j_if_ne (pc := 91) 100 X dX5_condition_91 rfl hF (fun hF => ?_) (fun hF => ?_)
  · refine j_lv [(0, .ref (Z.2.1 142)), (2, .int x2)] [0, 2] rfl ?_
    exact BX5_condition_100 X E hz r13 hr13 x2 h hF
  · refine j_iload_n (pc := 94) 3 X dX5_condition_94 rfl ?_
    refine j_bipush (pc := 95) 25 X dX5_condition_95 rfl ?_
    refine j_icmp_ne (pc := 97) 104 X dX5_condition_97 rfl hF (fun hF => ?_) (fun hF => ?_)
    · refine j_iconst (pc := 104) 0 X dX5_condition_104 rfl ?_
      refine j_lv [(0, .ref (Z.2.1 142)), (2, .int x2)] [0, 2] rfl ?_
      exact BX5_condition_105 X E hz r13 hr13 x2 0 h hF
    · refine j_lv [(0, .ref (Z.2.1 142)), (2, .int x2)] [0, 2] rfl ?_
      exact BX5_condition_100 X E hz r13 hr13 x2 h hF
def bX5_condition_60  (r13 : Int32 → Int32 → Hp → Option (Int32 × Hp)) (x1 : Int32) (x2 : Int32) (x3 : Int32) (h : Hp) : Option (Int32 × Hp) := bi (fX5_take x3 h) (fun w2 h1 => (if w2 = 0 then ck (zb 0) (some (0, h1)) else bi (fX5_literal h1) (fun w4 h3 => (if w4 = 0 then ck (zb 0) (some (0, h3)) else (if x3 = 26 then bv (fX5_emit 26 0 h3) (fun h5 => bX5_condition_90 r13 x1 x2 x3 h5) else bX5_condition_90 r13 x1 x2 x3 h3)))))
set_option maxRecDepth 20000 in
theorem BX5_condition_60 {Z : ZT} {G : GT} {r : Int32} {hr : Hp} (X : CX Z G cX5_condition RX5 4 3) (E : RX Z G (some .boolean) (some (.int r)) hr) (hz : HZ Z) (r13 : Int32 → Int32 → Hp → Option (Int32 × Hp)) (hr13 : ∀ (x1 : Int32) (x2 : Int32) (h : Hp), r13 x1 x2 h = some (r, hr) → J Z G 4 h 13 [(0, .ref (Z.2.1 142)), (1, .int x1), (2, .int x2)] []) (x1 : Int32) (x2 : Int32) (x3 : Int32) (h : Hp) (hF : bX5_condition_60  r13 x1 x2 x3 h = some (r, hr)) : J Z G 4 h 60 [(0, .ref (Z.2.1 142)), (1, .int x1), (2, .int x2), (3, .int x3)] [] := by
  unfold bX5_condition_60 at hF
  refine j_aload_n (pc := 60) 0 X dX5_condition_60 rfl ?_
  refine j_iload_n (pc := 61) 3 X dX5_condition_61 rfl ?_
  refine j_cVi (pc := 62) (As := [.int x3]) (rest := []) X dX5_condition_62 ml_X5_88 ck_X5_take cv_X5_take (hz _ sh_142) rfl (Nat.le_of_ble_eq_true rfl) rfl (Nat.le_of_ble_eq_true rfl) rfl hF (tX5_take Z x3 hz h) (fun w2 h1 hF => ?_)
  refine j_if_eq (pc := 65) 75 X dX5_condition_65 rfl hF (fun hF => ?_) (fun hF => ?_)
  · refine j_iconst (pc := 75) 0 X dX5_condition_75 rfl ?_
    exact j_zret (pc := 76) X E dX5_condition_76 hF
  · refine j_aload_n (pc := 68) 0 X dX5_condition_68 rfl ?_
    refine j_cVi (pc := 69) (As := []) (rest := []) X dX5_condition_69 ml_X5_185 ck_X5_literal cv_X5_literal (hz _ sh_142) rfl (Nat.le_of_ble_eq_true rfl) rfl (Nat.le_of_ble_eq_true rfl) rfl hF (tX5_literal Z hz h1) (fun w4 h3 hF => ?_)
    refine j_if_ne (pc := 72) 77 X dX5_condition_72 rfl hF (fun hF => ?_) (fun hF => ?_)
    · refine j_iload_n (pc := 77) 3 X dX5_condition_77 rfl ?_
      refine j_bipush (pc := 78) 26 X dX5_condition_78 rfl ?_
      refine j_icmp_ne (pc := 80) 90 X dX5_condition_80 rfl hF (fun hF => ?_) (fun hF => ?_)
      · exact BX5_condition_90 X E hz r13 hr13 x1 x2 x3 h3 hF
      · refine j_aload_n (pc := 83) 0 X dX5_condition_83 rfl ?_
        refine j_bipush (pc := 84) 26 X dX5_condition_84 rfl ?_
        refine j_iconst (pc := 86) 0 X dX5_condition_86 rfl ?_
        refine j_cVv (pc := 87) (As := [.int 26, .int 0]) (rest := []) X dX5_condition_87 ml_X5_188 ck_X5_emit cv_X5_emit (hz _ sh_142) rfl (Nat.le_of_ble_eq_true rfl) rfl (Nat.le_of_ble_eq_true rfl) rfl hF (tX5_emit Z 26 0 hz h3) (fun h5 hF => ?_)
        exact BX5_condition_90 X E hz r13 hr13 x1 x2 x3 h5 hF
    · refine j_iconst (pc := 75) 0 X dX5_condition_75 rfl ?_
      exact j_zret (pc := 76) X E dX5_condition_76 hF
def bX5_condition_38  (r13 : Int32 → Int32 → Hp → Option (Int32 × Hp)) (x1 : Int32) (x2 : Int32) (h : Hp) : Option (Int32 × Hp) := lt (h.1 142 7) (fun v1 => (if v1 = 25 then (if x1 = 0 then bX5_condition_60 r13 x1 x2 v1 h else bv (fX5_emit 25 0 h) (fun h2 => bX5_condition_60 r13 x1 x2 v1 h2)) else bX5_condition_60 r13 x1 x2 v1 h))
set_option maxRecDepth 20000 in
theorem BX5_condition_38 {Z : ZT} {G : GT} {r : Int32} {hr : Hp} (X : CX Z G cX5_condition RX5 4 3) (E : RX Z G (some .boolean) (some (.int r)) hr) (hz : HZ Z) (r13 : Int32 → Int32 → Hp → Option (Int32 × Hp)) (hr13 : ∀ (x1 : Int32) (x2 : Int32) (h : Hp), r13 x1 x2 h = some (r, hr) → J Z G 4 h 13 [(0, .ref (Z.2.1 142)), (1, .int x1), (2, .int x2)] []) (x1 : Int32) (x2 : Int32) (h : Hp) (hF : bX5_condition_38  r13 x1 x2 h = some (r, hr)) : J Z G 4 h 38 [(0, .ref (Z.2.1 142)), (1, .int x1), (2, .int x2)] [] := by
  unfold bX5_condition_38 at hF
  refine j_aload_n (pc := 38) 0 X dX5_condition_38 rfl ?_
  refine j_geti (pc := 39) X dX5_condition_39 (hz _ sh_142) fl_X5_47 rfl ?_
  refine j_istore_n (pc := 42) (fun y => [(3, .int y), (0, .ref (Z.2.1 142)), (1, .int x1), (2, .int x2)]) X dX5_condition_42 (by decide) (fun _ => rfl) hF (fun v1 hF => ?_)
  refine j_iload_n (pc := 43) 0 X dX5_condition_43 rfl ?_
  refine j_bipush (pc := 44) 25 X dX5_condition_44 rfl ?_
  refine j_icmp_ne (pc := 46) 60 X dX5_condition_46 rfl hF (fun hF => ?_) (fun hF => ?_)
  · refine j_lv [(0, .ref (Z.2.1 142)), (1, .int x1), (2, .int x2), (3, .int v1)] [1, 2, 3, 0] rfl ?_
    exact BX5_condition_60 X E hz r13 hr13 x1 x2 v1 h hF
  · refine j_iload_n (pc := 49) 2 X dX5_condition_49 rfl ?_
    refine j_if_eq (pc := 50) 60 X dX5_condition_50 rfl hF (fun hF => ?_) (fun hF => ?_)
    · refine j_lv [(0, .ref (Z.2.1 142)), (1, .int x1), (2, .int x2), (3, .int v1)] [1, 2, 3, 0] rfl ?_
      exact BX5_condition_60 X E hz r13 hr13 x1 x2 v1 h hF
    · refine j_aload_n (pc := 53) 1 X dX5_condition_53 rfl ?_
      refine j_bipush (pc := 54) 25 X dX5_condition_54 rfl ?_
      refine j_iconst (pc := 56) 0 X dX5_condition_56 rfl ?_
      refine j_cVv (pc := 57) (As := [.int 25, .int 0]) (rest := []) X dX5_condition_57 ml_X5_188 ck_X5_emit cv_X5_emit (hz _ sh_142) rfl (Nat.le_of_ble_eq_true rfl) rfl (Nat.le_of_ble_eq_true rfl) rfl hF (tX5_emit Z 25 0 hz h) (fun h2 hF => ?_)
      refine j_lv [(0, .ref (Z.2.1 142)), (1, .int x1), (2, .int x2), (3, .int v1)] [1, 2, 3, 0] rfl ?_
      exact BX5_condition_60 X E hz r13 hr13 x1 x2 v1 h2 hF
def bX5_condition_112   (x1 : Int32) (h : Hp) : Option (Int32 × Hp) := (if x1 = 0 then ck (zb 1) (some (1, h)) else bv (fX5_emit 25 0 h) (fun h1 => ck (zb 1) (some (1, h1))))
set_option maxRecDepth 20000 in
theorem BX5_condition_112 {Z : ZT} {G : GT} {r : Int32} {hr : Hp} (X : CX Z G cX5_condition RX5 4 3) (E : RX Z G (some .boolean) (some (.int r)) hr) (hz : HZ Z)  (x1 : Int32) (h : Hp) (hF : bX5_condition_112   x1 h = some (r, hr)) : J Z G 4 h 112 [(0, .ref (Z.2.1 142)), (1, .int x1)] [] := by
  unfold bX5_condition_112 at hF
  refine j_iload_n (pc := 112) 1 X dX5_condition_112 rfl ?_
  refine j_if_eq (pc := 113) 123 X dX5_condition_113 rfl hF (fun hF => ?_) (fun hF => ?_)
  · refine j_iconst (pc := 123) 1 X dX5_condition_123 rfl ?_
    exact j_zret (pc := 124) X E dX5_condition_124 hF
  · refine j_aload_n (pc := 116) 0 X dX5_condition_116 rfl ?_
    refine j_bipush (pc := 117) 25 X dX5_condition_117 rfl ?_
    refine j_iconst (pc := 119) 0 X dX5_condition_119 rfl ?_
    refine j_cVv (pc := 120) (As := [.int 25, .int 0]) (rest := []) X dX5_condition_120 ml_X5_188 ck_X5_emit cv_X5_emit (hz _ sh_142) rfl (Nat.le_of_ble_eq_true rfl) rfl (Nat.le_of_ble_eq_true rfl) rfl hF (tX5_emit Z 25 0 hz h) (fun h1 hF => ?_)
    refine j_iconst (pc := 123) 1 X dX5_condition_123 rfl ?_
    exact j_zret (pc := 124) X E dX5_condition_124 hF
def bX5_condition_13   (r13 : Int32 → Int32 → Hp → Option (Int32 × Hp)) (x1 : Int32) (x2 : Int32) (h : Hp) : Option (Int32 × Hp) := (if 400 < x2 then bX5_condition_112 x1 h else (if (h.1 142 7) = 26 then bX5_condition_38 r13 x1 x2 h else (if (h.1 142 7) = 25 then bX5_condition_38 r13 x1 x2 h else bX5_condition_112 x1 h)))
def lX5_condition_13   : Nat → Int32 → Int32 → Hp → Option (Int32 × Hp)
  | 0 => fun _ _ _ => none
  | n + 1 => bX5_condition_13   (lX5_condition_13   n)
set_option maxRecDepth 20000 in
theorem BX5_condition_13 {Z : ZT} {G : GT} {r : Int32} {hr : Hp} (X : CX Z G cX5_condition RX5 4 3) (E : RX Z G (some .boolean) (some (.int r)) hr) (hz : HZ Z)  (r13 : Int32 → Int32 → Hp → Option (Int32 × Hp)) (hr13 : ∀ (x1 : Int32) (x2 : Int32) (h : Hp), r13 x1 x2 h = some (r, hr) → J Z G 4 h 13 [(0, .ref (Z.2.1 142)), (1, .int x1), (2, .int x2)] []) (x1 : Int32) (x2 : Int32) (h : Hp) (hF : bX5_condition_13   r13 x1 x2 h = some (r, hr)) : J Z G 4 h 13 [(0, .ref (Z.2.1 142)), (1, .int x1), (2, .int x2)] [] := by
  unfold bX5_condition_13 at hF
  refine j_iload_n (pc := 13) 2 X dX5_condition_13 rfl ?_
  refine j_sipush (pc := 14) 400 X dX5_condition_14 rfl ?_
  refine j_icmp_gt (pc := 17) 112 X dX5_condition_17 rfl hF (fun hF => ?_) (fun hF => ?_)
  · refine j_lv [(0, .ref (Z.2.1 142)), (1, .int x1)] [0, 1] rfl ?_
    exact BX5_condition_112 X E hz x1 h hF
  · refine j_aload_n (pc := 20) 0 X dX5_condition_20 rfl ?_
    refine j_geti (pc := 21) X dX5_condition_21 (hz _ sh_142) fl_X5_47 rfl ?_
    refine j_bipush (pc := 24) 26 X dX5_condition_24 rfl ?_
    refine j_icmp_eq (pc := 26) 38 X dX5_condition_26 rfl hF (fun hF => ?_) (fun hF => ?_)
    · exact BX5_condition_38 X E hz r13 hr13 x1 x2 h hF
    · refine j_aload_n (pc := 29) 0 X dX5_condition_29 rfl ?_
      refine j_geti (pc := 30) X dX5_condition_30 (hz _ sh_142) fl_X5_47 rfl ?_
      refine j_bipush (pc := 33) 25 X dX5_condition_33 rfl ?_
      refine j_icmp_ne (pc := 35) 112 X dX5_condition_35 rfl hF (fun hF => ?_) (fun hF => ?_)
      · refine j_lv [(0, .ref (Z.2.1 142)), (1, .int x1)] [0, 1] rfl ?_
        exact BX5_condition_112 X E hz x1 h hF
      · exact BX5_condition_38 X E hz r13 hr13 x1 x2 h hF
theorem LX5_condition_13 {Z : ZT} {G : GT} {r : Int32} {hr : Hp} (X : CX Z G cX5_condition RX5 4 3) (E : RX Z G (some .boolean) (some (.int r)) hr) (hz : HZ Z)  : ∀ (n : Nat) (x1 : Int32) (x2 : Int32) (h : Hp), lX5_condition_13   n x1 x2 h = some (r, hr) → J Z G 4 h 13 [(0, .ref (Z.2.1 142)), (1, .int x1), (2, .int x2)] [] := by
  intro n
  induction n with
  | zero => intro x1 x2 h hF; cases hF
  | succ n ih => intro x1 x2 h hF; exact BX5_condition_13 X E hz  (lX5_condition_13   n) ih x1 x2 h hF
def fX5_condition  (h : Hp) : Option (Int32 × Hp) := bi (fX5_literal h) (fun w2 h1 => (if w2 = 0 then ck (zb 0) (some (0, h1)) else lt 0 (fun v3 => lt 0 (fun v4 => lX5_condition_13 FU v3 v4 h1))))
set_option maxRecDepth 20000 in
theorem tX5_condition (Z : ZT)  (hz : HZ Z) (h : Hp) (r : Int32) (hr : Hp) (hF : fX5_condition  h = some (r, hr)) : MC Z yX5_condition cX5_condition 4 (some .boolean) 3 [.ref (Z.2.1 142)] h (some (.int r)) hr := by
  unfold fX5_condition at hF
  refine mc_start (by decide) (Nat.le_of_ble_eq_true rfl) (fun G X E => ?_)
  refine j_aload_n (pc := 0) 0 X dX5_condition_0 rfl ?_
  refine j_cVi (pc := 1) (As := []) (rest := []) X dX5_condition_1 ml_X5_185 ck_X5_literal cv_X5_literal (hz _ sh_142) rfl (Nat.le_of_ble_eq_true rfl) rfl (Nat.le_of_ble_eq_true rfl) rfl hF (tX5_literal Z hz h) (fun w2 h1 hF => ?_)
  refine j_if_ne (pc := 4) 9 X dX5_condition_4 rfl hF (fun hF => ?_) (fun hF => ?_)
  · refine j_iconst (pc := 9) 0 X dX5_condition_9 rfl ?_
    refine j_istore_n (pc := 10) (fun y => [(1, .int y), (0, .ref (Z.2.1 142))]) X dX5_condition_10 (by decide) (fun _ => rfl) hF (fun v3 hF => ?_)
    refine j_iconst (pc := 11) 0 X dX5_condition_11 rfl ?_
    refine j_istore_n (pc := 12) (fun y => [(2, .int y), (1, .int v3), (0, .ref (Z.2.1 142))]) X dX5_condition_12 (by decide) (fun _ => rfl) hF (fun v4 hF => ?_)
    refine j_lv [(0, .ref (Z.2.1 142)), (1, .int v3), (2, .int v4)] [2, 1, 0] rfl ?_
    exact LX5_condition_13 X E hz FU v3 v4 h1 hF
  · refine j_iconst (pc := 7) 0 X dX5_condition_7 rfl ?_
    exact j_zret (pc := 8) X E dX5_condition_8 hF
theorem dX5_tellLetter_0 : decode cX5_tellLetter 0 = .ok (.aload_n 0, 1) := by decide +kernel
theorem dX5_tellLetter_1 : decode cX5_tellLetter 1 = .ok (.getfield 29, 3) := by decide +kernel
theorem dX5_tellLetter_4 : decode cX5_tellLetter 4 = .ok (.getfield 101, 3) := by decide +kernel
theorem dX5_tellLetter_7 : decode cX5_tellLetter 7 = .ok (.bipush 10, 2) := by decide +kernel
theorem dX5_tellLetter_9 : decode cX5_tellLetter 9 = .ok (.if_icmp .lt 9, 3) := by decide +kernel
theorem dX5_tellLetter_12 : decode cX5_tellLetter 12 = .ok (.aload_n 0, 1) := by decide +kernel
theorem dX5_tellLetter_13 : decode cX5_tellLetter 13 = .ok (.iconst 2, 1) := by decide +kernel
theorem dX5_tellLetter_14 : decode cX5_tellLetter 14 = .ok (.invokevirtual 79, 3) := by decide +kernel
theorem dX5_tellLetter_17 : decode cX5_tellLetter 17 = .ok (.ireturn, 1) := by decide +kernel
theorem dX5_tellLetter_18 : decode cX5_tellLetter 18 = .ok (.aload_n 0, 1) := by decide +kernel
theorem dX5_tellLetter_19 : decode cX5_tellLetter 19 = .ok (.bipush 19, 2) := by decide +kernel
theorem dX5_tellLetter_21 : decode cX5_tellLetter 21 = .ok (.invokevirtual 88, 3) := by decide +kernel
theorem dX5_tellLetter_24 : decode cX5_tellLetter 24 = .ok (.ifCond .eq 21, 3) := by decide +kernel
theorem dX5_tellLetter_27 : decode cX5_tellLetter 27 = .ok (.aload_n 0, 1) := by decide +kernel
theorem dX5_tellLetter_28 : decode cX5_tellLetter 28 = .ok (.aload_n 0, 1) := by decide +kernel
theorem dX5_tellLetter_29 : decode cX5_tellLetter 29 = .ok (.getfield 18, 3) := by decide +kernel
theorem dX5_tellLetter_32 : decode cX5_tellLetter 32 = .ok (.aload_n 0, 1) := by decide +kernel
theorem dX5_tellLetter_33 : decode cX5_tellLetter 33 = .ok (.getfield 29, 3) := by decide +kernel
theorem dX5_tellLetter_36 : decode cX5_tellLetter 36 = .ok (.getfield 101, 3) := by decide +kernel
theorem dX5_tellLetter_39 : decode cX5_tellLetter 39 = .ok (.invokevirtual 112, 3) := by decide +kernel
theorem dX5_tellLetter_42 : decode cX5_tellLetter 42 = .ok (.ifCond .ne 5, 3) := by decide +kernel
theorem dX5_tellLetter_45 : decode cX5_tellLetter 45 = .ok (.iconst 0, 1) := by decide +kernel
theorem dX5_tellLetter_46 : decode cX5_tellLetter 46 = .ok (.ireturn, 1) := by decide +kernel
theorem dX5_tellLetter_47 : decode cX5_tellLetter 47 = .ok (.aload_n 0, 1) := by decide +kernel
theorem dX5_tellLetter_48 : decode cX5_tellLetter 48 = .ok (.getfield 29, 3) := by decide +kernel
theorem dX5_tellLetter_51 : decode cX5_tellLetter 51 = .ok (.getfield 133, 3) := by decide +kernel
theorem dX5_tellLetter_54 : decode cX5_tellLetter 54 = .ok (.aload_n 0, 1) := by decide +kernel
theorem dX5_tellLetter_55 : decode cX5_tellLetter 55 = .ok (.getfield 29, 3) := by decide +kernel
theorem dX5_tellLetter_58 : decode cX5_tellLetter 58 = .ok (.getfield 101, 3) := by decide +kernel
theorem dX5_tellLetter_61 : decode cX5_tellLetter 61 = .ok (.aaload, 1) := by decide +kernel
theorem dX5_tellLetter_62 : decode cX5_tellLetter 62 = .ok (.astore_n 1, 1) := by decide +kernel
theorem dX5_tellLetter_63 : decode cX5_tellLetter 63 = .ok (.aload_n 0, 1) := by decide +kernel
theorem dX5_tellLetter_64 : decode cX5_tellLetter 64 = .ok (.getfield 29, 3) := by decide +kernel
theorem dX5_tellLetter_67 : decode cX5_tellLetter 67 = .ok (.dup, 1) := by decide +kernel
theorem dX5_tellLetter_68 : decode cX5_tellLetter 68 = .ok (.getfield 101, 3) := by decide +kernel
theorem dX5_tellLetter_71 : decode cX5_tellLetter 71 = .ok (.iconst 1, 1) := by decide +kernel
theorem dX5_tellLetter_72 : decode cX5_tellLetter 72 = .ok (.iadd, 1) := by decide +kernel
theorem dX5_tellLetter_73 : decode cX5_tellLetter 73 = .ok (.putfield 101, 3) := by decide +kernel
theorem dX5_tellLetter_76 : decode cX5_tellLetter 76 = .ok (.aload_n 1, 1) := by decide +kernel
theorem dX5_tellLetter_77 : decode cX5_tellLetter 77 = .ok (.aload_n 0, 1) := by decide +kernel
theorem dX5_tellLetter_78 : decode cX5_tellLetter 78 = .ok (.aload_n 0, 1) := by decide +kernel
theorem dX5_tellLetter_79 : decode cX5_tellLetter 79 = .ok (.getfield 9, 3) := by decide +kernel
theorem dX5_tellLetter_82 : decode cX5_tellLetter 82 = .ok (.aload_n 0, 1) := by decide +kernel
theorem dX5_tellLetter_83 : decode cX5_tellLetter 83 = .ok (.getfield 29, 3) := by decide +kernel
theorem dX5_tellLetter_86 : decode cX5_tellLetter 86 = .ok (.getfield 91, 3) := by decide +kernel
theorem dX5_tellLetter_89 : decode cX5_tellLetter 89 = .ok (.invokevirtual 126, 3) := by decide +kernel
theorem dX5_tellLetter_92 : decode cX5_tellLetter 92 = .ok (.putfield 137, 3) := by decide +kernel
theorem dX5_tellLetter_95 : decode cX5_tellLetter 95 = .ok (.aload_n 1, 1) := by decide +kernel
theorem dX5_tellLetter_96 : decode cX5_tellLetter 96 = .ok (.getfield 137, 3) := by decide +kernel
theorem dX5_tellLetter_99 : decode cX5_tellLetter 99 = .ok (.ifCond .ge 5, 3) := by decide +kernel
theorem dX5_tellLetter_102 : decode cX5_tellLetter 102 = .ok (.iconst 0, 1) := by decide +kernel
theorem dX5_tellLetter_103 : decode cX5_tellLetter 103 = .ok (.ireturn, 1) := by decide +kernel
theorem dX5_tellLetter_104 : decode cX5_tellLetter 104 = .ok (.aload_n 1, 1) := by decide +kernel
theorem dX5_tellLetter_105 : decode cX5_tellLetter 105 = .ok (.aload_n 0, 1) := by decide +kernel
theorem dX5_tellLetter_106 : decode cX5_tellLetter 106 = .ok (.aload_n 0, 1) := by decide +kernel
theorem dX5_tellLetter_107 : decode cX5_tellLetter 107 = .ok (.getfield 9, 3) := by decide +kernel
theorem dX5_tellLetter_110 : decode cX5_tellLetter 110 = .ok (.aload_n 0, 1) := by decide +kernel
theorem dX5_tellLetter_111 : decode cX5_tellLetter 111 = .ok (.getfield 29, 3) := by decide +kernel
theorem dX5_tellLetter_114 : decode cX5_tellLetter 114 = .ok (.getfield 91, 3) := by decide +kernel
theorem dX5_tellLetter_117 : decode cX5_tellLetter 117 = .ok (.invokevirtual 126, 3) := by decide +kernel
theorem dX5_tellLetter_120 : decode cX5_tellLetter 120 = .ok (.putfield 142, 3) := by decide +kernel
theorem dX5_tellLetter_123 : decode cX5_tellLetter 123 = .ok (.aload_n 1, 1) := by decide +kernel
theorem dX5_tellLetter_124 : decode cX5_tellLetter 124 = .ok (.getfield 142, 3) := by decide +kernel
theorem dX5_tellLetter_127 : decode cX5_tellLetter 127 = .ok (.ifCond .lt 11, 3) := by decide +kernel
theorem dX5_tellLetter_130 : decode cX5_tellLetter 130 = .ok (.aload_n 0, 1) := by decide +kernel
theorem dX5_tellLetter_131 : decode cX5_tellLetter 131 = .ok (.aload_n 1, 1) := by decide +kernel
theorem dX5_tellLetter_132 : decode cX5_tellLetter 132 = .ok (.invokevirtual 145, 3) := by decide +kernel
theorem dX5_tellLetter_135 : decode cX5_tellLetter 135 = .ok (.ifCond .ne 5, 3) := by decide +kernel
theorem dX5_tellLetter_138 : decode cX5_tellLetter 138 = .ok (.iconst 0, 1) := by decide +kernel
theorem dX5_tellLetter_139 : decode cX5_tellLetter 139 = .ok (.ireturn, 1) := by decide +kernel
theorem dX5_tellLetter_140 : decode cX5_tellLetter 140 = .ok (.aload_n 1, 1) := by decide +kernel
theorem dX5_tellLetter_141 : decode cX5_tellLetter 141 = .ok (.aload_n 0, 1) := by decide +kernel
theorem dX5_tellLetter_142 : decode cX5_tellLetter 142 = .ok (.getfield 29, 3) := by decide +kernel
theorem dX5_tellLetter_145 : decode cX5_tellLetter 145 = .ok (.getfield 149, 3) := by decide +kernel
theorem dX5_tellLetter_148 : decode cX5_tellLetter 148 = .ok (.putfield 152, 3) := by decide +kernel
theorem dX5_tellLetter_151 : decode cX5_tellLetter 151 = .ok (.aload_n 0, 1) := by decide +kernel
theorem dX5_tellLetter_152 : decode cX5_tellLetter 152 = .ok (.getfield 47, 3) := by decide +kernel
theorem dX5_tellLetter_155 : decode cX5_tellLetter 155 = .ok (.bipush 20, 2) := by decide +kernel
theorem dX5_tellLetter_157 : decode cX5_tellLetter 157 = .ok (.if_icmp .ne 21, 3) := by decide +kernel
theorem dX5_tellLetter_160 : decode cX5_tellLetter 160 = .ok (.aload_n 0, 1) := by decide +kernel
theorem dX5_tellLetter_161 : decode cX5_tellLetter 161 = .ok (.bipush 20, 2) := by decide +kernel
theorem dX5_tellLetter_163 : decode cX5_tellLetter 163 = .ok (.invokevirtual 88, 3) := by decide +kernel
theorem dX5_tellLetter_166 : decode cX5_tellLetter 166 = .ok (.ifCond .eq 10, 3) := by decide +kernel
theorem dX5_tellLetter_169 : decode cX5_tellLetter 169 = .ok (.aload_n 0, 1) := by decide +kernel
theorem dX5_tellLetter_170 : decode cX5_tellLetter 170 = .ok (.invokevirtual 155, 3) := by decide +kernel
theorem dX5_tellLetter_173 : decode cX5_tellLetter 173 = .ok (.ifCond .ne 5, 3) := by decide +kernel
theorem dX5_tellLetter_176 : decode cX5_tellLetter 176 = .ok (.iconst 0, 1) := by decide +kernel
theorem dX5_tellLetter_177 : decode cX5_tellLetter 177 = .ok (.ireturn, 1) := by decide +kernel
theorem dX5_tellLetter_178 : decode cX5_tellLetter 178 = .ok (.aload_n 1, 1) := by decide +kernel
theorem dX5_tellLetter_179 : decode cX5_tellLetter 179 = .ok (.aload_n 0, 1) := by decide +kernel
theorem dX5_tellLetter_180 : decode cX5_tellLetter 180 = .ok (.getfield 29, 3) := by decide +kernel
theorem dX5_tellLetter_183 : decode cX5_tellLetter 183 = .ok (.getfield 149, 3) := by decide +kernel
theorem dX5_tellLetter_186 : decode cX5_tellLetter 186 = .ok (.putfield 158, 3) := by decide +kernel
theorem dX5_tellLetter_189 : decode cX5_tellLetter 189 = .ok (.aload_n 0, 1) := by decide +kernel
theorem dX5_tellLetter_190 : decode cX5_tellLetter 190 = .ok (.iconst 4, 1) := by decide +kernel
theorem dX5_tellLetter_191 : decode cX5_tellLetter 191 = .ok (.invokevirtual 88, 3) := by decide +kernel
theorem dX5_tellLetter_194 : decode cX5_tellLetter 194 = .ok (.ireturn, 1) := by decide +kernel
def bX5_tellLetter_178   (x1 : Nat) (h : Hp) : Option (Int32 × Hp) := lt (wI h x1 6 (h.1 125 11)) (fun h1 => bi (fX5_take 4 h1) (fun w3 h2 => ck (zb w3) (some (w3, h2))))
set_option maxRecDepth 20000 in
theorem BX5_tellLetter_178 {Z : ZT} {G : GT} {r : Int32} {hr : Hp} (X : CX Z G cX5_tellLetter RX5 2 4) (E : RX Z G (some .boolean) (some (.int r)) hr) (hz : HZ Z)  (x1 : Nat) (p1 : isL x1) (h : Hp) (hF : bX5_tellLetter_178   x1 h = some (r, hr)) : J Z G 2 h 178 [(0, .ref (Z.2.1 142)), (1, .ref (Z.2.1 x1))] [] := by
  unfold bX5_tellLetter_178 at hF
  refine j_aload_n (pc := 178) 1 X dX5_tellLetter_178 rfl ?_
  refine j_aload_n (pc := 179) 0 X dX5_tellLetter_179 rfl ?_
  refine j_getr (pc := 180) X dX5_tellLetter_180 (hz _ sh_142) fl_X5_29 rfl ?_
  refine j_geti (pc := 183) X dX5_tellLetter_183 (hz _ sh_125) fl_X5_149 rfl ?_
  refine j_puti (pc := 186) X dX5_tellLetter_186 (hz _ (shL p1)) fp_X5_158 rfl hF (fun h1 hF => ?_)
  refine j_aload_n (pc := 189) 0 X dX5_tellLetter_189 rfl ?_
  refine j_iconst (pc := 190) 4 X dX5_tellLetter_190 rfl ?_
  refine j_cVi (pc := 191) (As := [.int 4]) (rest := []) X dX5_tellLetter_191 ml_X5_88 ck_X5_take cv_X5_take (hz _ sh_142) rfl (Nat.le_of_ble_eq_true rfl) rfl (Nat.le_of_ble_eq_true rfl) rfl hF (tX5_take Z 4 hz h1) (fun w3 h2 hF => ?_)
  exact j_zret (pc := 194) X E dX5_tellLetter_194 hF
def fX5_tellLetter  (h : Hp) : Option (Int32 × Hp) := (if (h.1 125 9) < 10 then bi (fX5_take 19 h) (fun w2 h1 => (if w2 = 0 then ck (zb 0) (some (0, h1)) else bi (fX5_takeNewName 145 10 (h1.1 125 9) h1) (fun w4 h3 => (if w4 = 0 then ck (zb 0) (some (0, h3)) else ck (inb (h3.1 125 9) 10) (lt (wI h3 125 9 ((h3.1 125 9) + 1)) (fun h6 => bi (fX5_takeTold 143 10 (h6.1 125 6) h6) (fun w8 h7 => lt (wI h7 (132 + ix (h3.1 125 9)) 0 w8) (fun h9 => (if 0 ≤ (h9.1 (132 + ix (h3.1 125 9)) 0) then bi (fX5_takeTold 143 10 (h9.1 125 6) h9) (fun w11 h10 => lt (wI h10 (132 + ix (h3.1 125 9)) 1 w11) (fun h12 => (if (h12.1 (132 + ix (h3.1 125 9)) 1) < 0 then ck (zb 0) (some (0, h12)) else bi (fX5_takeLetterInts (132 + ix (h3.1 125 9)) h12) (fun w14 h13 => (if w14 = 0 then ck (zb 0) (some (0, h13)) else lt (wI h13 (132 + ix (h3.1 125 9)) 5 (h13.1 125 11)) (fun h15 => (if (h15.1 142 7) = 20 then bi (fX5_take 20 h15) (fun w17 h16 => (if w17 = 0 then ck (zb 0) (some (0, h16)) else bi (fX5_condition h16) (fun w19 h18 => (if w19 = 0 then ck (zb 0) (some (0, h18)) else bX5_tellLetter_178 (132 + ix (h3.1 125 9)) h18)))) else bX5_tellLetter_178 (132 + ix (h3.1 125 9)) h15))))))) else ck (zb 0) (some (0, h9))))))))))) else bi (fX5_stop 2 h) (fun w21 h20 => ck (zb w21) (some (w21, h20))))
set_option maxRecDepth 20000 in
theorem tX5_tellLetter (Z : ZT)  (hz : HZ Z) (h : Hp) (r : Int32) (hr : Hp) (hF : fX5_tellLetter  h = some (r, hr)) : MC Z yX5_tellLetter cX5_tellLetter 2 (some .boolean) 4 [.ref (Z.2.1 142)] h (some (.int r)) hr := by
  unfold fX5_tellLetter at hF
  refine mc_start (by decide) (Nat.le_of_ble_eq_true rfl) (fun G X E => ?_)
  refine j_aload_n (pc := 0) 0 X dX5_tellLetter_0 rfl ?_
  refine j_getr (pc := 1) X dX5_tellLetter_1 (hz _ sh_142) fl_X5_29 rfl ?_
  refine j_geti (pc := 4) X dX5_tellLetter_4 (hz _ sh_125) fl_X5_101 rfl ?_
  refine j_bipush (pc := 7) 10 X dX5_tellLetter_7 rfl ?_
  refine j_icmp_lt (pc := 9) 18 X dX5_tellLetter_9 rfl hF (fun hF => ?_) (fun hF => ?_)
  · refine j_aload_n (pc := 18) 0 X dX5_tellLetter_18 rfl ?_
    refine j_bipush (pc := 19) 19 X dX5_tellLetter_19 rfl ?_
    refine j_cVi (pc := 21) (As := [.int 19]) (rest := []) X dX5_tellLetter_21 ml_X5_88 ck_X5_take cv_X5_take (hz _ sh_142) rfl (Nat.le_of_ble_eq_true rfl) rfl (Nat.le_of_ble_eq_true rfl) rfl hF (tX5_take Z 19 hz h) (fun w2 h1 hF => ?_)
    refine j_if_eq (pc := 24) 45 X dX5_tellLetter_24 rfl hF (fun hF => ?_) (fun hF => ?_)
    · refine j_iconst (pc := 45) 0 X dX5_tellLetter_45 rfl ?_
      exact j_zret (pc := 46) X E dX5_tellLetter_46 hF
    · refine j_aload_n (pc := 27) 0 X dX5_tellLetter_27 rfl ?_
      refine j_aload_n (pc := 28) 0 X dX5_tellLetter_28 rfl ?_
      refine j_getr (pc := 29) X dX5_tellLetter_29 (hz _ sh_142) fl_X5_18 rfl ?_
      refine j_aload_n (pc := 32) 0 X dX5_tellLetter_32 rfl ?_
      refine j_getr (pc := 33) X dX5_tellLetter_33 (hz _ sh_142) fl_X5_29 rfl ?_
      refine j_geti (pc := 36) X dX5_tellLetter_36 (hz _ sh_125) fl_X5_101 rfl ?_
      refine j_cVi (pc := 39) (As := [.ref (Z.2.1 145), .int (h1.1 125 9)]) (rest := []) X dX5_tellLetter_39 ml_X5_112 ck_X5_takeNewName cv_X5_takeNewName (hz _ sh_142) rfl (Nat.le_of_ble_eq_true rfl) rfl (Nat.le_of_ble_eq_true rfl) rfl hF (tX5_takeNewName Z 145 10 (hz _ sh_145) (h1.1 125 9) hz h1) (fun w4 h3 hF => ?_)
      refine j_if_ne (pc := 42) 47 X dX5_tellLetter_42 rfl hF (fun hF => ?_) (fun hF => ?_)
      · refine j_aload_n (pc := 47) 0 X dX5_tellLetter_47 rfl ?_
        refine j_getr (pc := 48) X dX5_tellLetter_48 (hz _ sh_142) fl_X5_29 rfl ?_
        refine j_getr (pc := 51) X dX5_tellLetter_51 (hz _ sh_125) fl_X5_133 rfl ?_
        refine j_aload_n (pc := 54) 0 X dX5_tellLetter_54 rfl ?_
        refine j_getr (pc := 55) X dX5_tellLetter_55 (hz _ sh_142) fl_X5_29 rfl ?_
        refine j_geti (pc := 58) X dX5_tellLetter_58 (hz _ sh_125) fl_X5_101 rfl ?_
        refine j_aald (pc := 61) (g := fun j => 132 + j) (C := "AfterOffice$Letter") X dX5_tellLetter_61 (hz _ sh_128) (fun _ => rfl) rfl al_128 hF (fun hb5 hF => ?_)
        refine j_astore_n (pc := 62) [(1, .ref (Z.2.1 (132 + ix (h3.1 125 9)))), (0, .ref (Z.2.1 142))] X dX5_tellLetter_62 (by decide) rfl ?_
        refine j_aload_n (pc := 63) 1 X dX5_tellLetter_63 rfl ?_
        refine j_getr (pc := 64) X dX5_tellLetter_64 (hz _ sh_142) fl_X5_29 rfl ?_
        refine j_dup (pc := 67) X dX5_tellLetter_67 rfl ?_
        refine j_geti (pc := 68) X dX5_tellLetter_68 (hz _ sh_125) fl_X5_101 rfl ?_
        refine j_iconst (pc := 71) 1 X dX5_tellLetter_71 rfl ?_
        refine j_iadd (pc := 72) X dX5_tellLetter_72 ?_
        refine j_puti (pc := 73) X dX5_tellLetter_73 (hz _ sh_125) fp_X5_101 rfl hF (fun h6 hF => ?_)
        refine j_aload_n (pc := 76) 0 X dX5_tellLetter_76 rfl ?_
        refine j_aload_n (pc := 77) 1 X dX5_tellLetter_77 rfl ?_
        refine j_aload_n (pc := 78) 1 X dX5_tellLetter_78 rfl ?_
        refine j_getr (pc := 79) X dX5_tellLetter_79 (hz _ sh_142) fl_X5_9 rfl ?_
        refine j_aload_n (pc := 82) 1 X dX5_tellLetter_82 rfl ?_
        refine j_getr (pc := 83) X dX5_tellLetter_83 (hz _ sh_142) fl_X5_29 rfl ?_
        refine j_geti (pc := 86) X dX5_tellLetter_86 (hz _ sh_125) fl_X5_91 rfl ?_
        refine j_cVi (pc := 89) (As := [.ref (Z.2.1 143), .int (h6.1 125 6)]) (rest := [.ref (Z.2.1 (132 + ix (h3.1 125 9)))]) X dX5_tellLetter_89 ml_X5_126 ck_X5_takeTold cv_X5_takeTold (hz _ sh_142) rfl (Nat.le_of_ble_eq_true rfl) rfl (Nat.le_of_ble_eq_true rfl) rfl hF (tX5_takeTold Z 143 10 (hz _ sh_143) (h6.1 125 6) hz h6) (fun w8 h7 hF => ?_)
        refine j_puti (pc := 92) X dX5_tellLetter_92 (hz _ (shL (is_128 hb5))) fp_X5_137 rfl hF (fun h9 hF => ?_)
        refine j_aload_n (pc := 95) 0 X dX5_tellLetter_95 rfl ?_
        refine j_geti (pc := 96) X dX5_tellLetter_96 (hz _ (shL (is_128 hb5))) fl_X5_137 rfl ?_
        refine j_if_ge (pc := 99) 104 X dX5_tellLetter_99 rfl hF (fun hF => ?_) (fun hF => ?_)
        · refine j_aload_n (pc := 104) 0 X dX5_tellLetter_104 rfl ?_
          refine j_aload_n (pc := 105) 1 X dX5_tellLetter_105 rfl ?_
          refine j_aload_n (pc := 106) 1 X dX5_tellLetter_106 rfl ?_
          refine j_getr (pc := 107) X dX5_tellLetter_107 (hz _ sh_142) fl_X5_9 rfl ?_
          refine j_aload_n (pc := 110) 1 X dX5_tellLetter_110 rfl ?_
          refine j_getr (pc := 111) X dX5_tellLetter_111 (hz _ sh_142) fl_X5_29 rfl ?_
          refine j_geti (pc := 114) X dX5_tellLetter_114 (hz _ sh_125) fl_X5_91 rfl ?_
          refine j_cVi (pc := 117) (As := [.ref (Z.2.1 143), .int (h9.1 125 6)]) (rest := [.ref (Z.2.1 (132 + ix (h3.1 125 9)))]) X dX5_tellLetter_117 ml_X5_126 ck_X5_takeTold cv_X5_takeTold (hz _ sh_142) rfl (Nat.le_of_ble_eq_true rfl) rfl (Nat.le_of_ble_eq_true rfl) rfl hF (tX5_takeTold Z 143 10 (hz _ sh_143) (h9.1 125 6) hz h9) (fun w11 h10 hF => ?_)
          refine j_puti (pc := 120) X dX5_tellLetter_120 (hz _ (shL (is_128 hb5))) fp_X5_142 rfl hF (fun h12 hF => ?_)
          refine j_aload_n (pc := 123) 0 X dX5_tellLetter_123 rfl ?_
          refine j_geti (pc := 124) X dX5_tellLetter_124 (hz _ (shL (is_128 hb5))) fl_X5_142 rfl ?_
          refine j_if_lt (pc := 127) 138 X dX5_tellLetter_127 rfl hF (fun hF => ?_) (fun hF => ?_)
          · refine j_iconst (pc := 138) 0 X dX5_tellLetter_138 rfl ?_
            exact j_zret (pc := 139) X E dX5_tellLetter_139 hF
          · refine j_aload_n (pc := 130) 1 X dX5_tellLetter_130 rfl ?_
            refine j_aload_n (pc := 131) 0 X dX5_tellLetter_131 rfl ?_
            refine j_cVi (pc := 132) (As := [.ref (Z.2.1 (132 + ix (h3.1 125 9)))]) (rest := []) X dX5_tellLetter_132 ml_X5_145 ck_X5_takeLetterInts cv_X5_takeLetterInts (hz _ sh_142) rfl (Nat.le_of_ble_eq_true rfl) rfl (Nat.le_of_ble_eq_true rfl) rfl hF (tX5_takeLetterInts Z (132 + ix (h3.1 125 9)) (is_128 hb5) hz h12) (fun w14 h13 hF => ?_)
            refine j_if_ne (pc := 135) 140 X dX5_tellLetter_135 rfl hF (fun hF => ?_) (fun hF => ?_)
            · refine j_aload_n (pc := 140) 0 X dX5_tellLetter_140 rfl ?_
              refine j_aload_n (pc := 141) 1 X dX5_tellLetter_141 rfl ?_
              refine j_getr (pc := 142) X dX5_tellLetter_142 (hz _ sh_142) fl_X5_29 rfl ?_
              refine j_geti (pc := 145) X dX5_tellLetter_145 (hz _ sh_125) fl_X5_149 rfl ?_
              refine j_puti (pc := 148) X dX5_tellLetter_148 (hz _ (shL (is_128 hb5))) fp_X5_152 rfl hF (fun h15 hF => ?_)
              refine j_aload_n (pc := 151) 1 X dX5_tellLetter_151 rfl ?_
              refine j_geti (pc := 152) X dX5_tellLetter_152 (hz _ sh_142) fl_X5_47 rfl ?_
              refine j_bipush (pc := 155) 20 X dX5_tellLetter_155 rfl ?_
              refine j_icmp_ne (pc := 157) 178 X dX5_tellLetter_157 rfl hF (fun hF => ?_) (fun hF => ?_)
              · refine j_lv [(0, .ref (Z.2.1 142)), (1, .ref (Z.2.1 (132 + ix (h3.1 125 9))))] [1, 0] rfl ?_
                exact BX5_tellLetter_178 X E hz (132 + ix (h3.1 125 9)) (is_128 hb5) h15 hF
              · refine j_aload_n (pc := 160) 1 X dX5_tellLetter_160 rfl ?_
                refine j_bipush (pc := 161) 20 X dX5_tellLetter_161 rfl ?_
                refine j_cVi (pc := 163) (As := [.int 20]) (rest := []) X dX5_tellLetter_163 ml_X5_88 ck_X5_take cv_X5_take (hz _ sh_142) rfl (Nat.le_of_ble_eq_true rfl) rfl (Nat.le_of_ble_eq_true rfl) rfl hF (tX5_take Z 20 hz h15) (fun w17 h16 hF => ?_)
                refine j_if_eq (pc := 166) 176 X dX5_tellLetter_166 rfl hF (fun hF => ?_) (fun hF => ?_)
                · refine j_iconst (pc := 176) 0 X dX5_tellLetter_176 rfl ?_
                  exact j_zret (pc := 177) X E dX5_tellLetter_177 hF
                · refine j_aload_n (pc := 169) 1 X dX5_tellLetter_169 rfl ?_
                  refine j_cVi (pc := 170) (As := []) (rest := []) X dX5_tellLetter_170 ml_X5_155 ck_X5_condition cv_X5_condition (hz _ sh_142) rfl (Nat.le_of_ble_eq_true rfl) rfl (Nat.le_of_ble_eq_true rfl) rfl hF (tX5_condition Z hz h16) (fun w19 h18 hF => ?_)
                  refine j_if_ne (pc := 173) 178 X dX5_tellLetter_173 rfl hF (fun hF => ?_) (fun hF => ?_)
                  · refine j_lv [(0, .ref (Z.2.1 142)), (1, .ref (Z.2.1 (132 + ix (h3.1 125 9))))] [1, 0] rfl ?_
                    exact BX5_tellLetter_178 X E hz (132 + ix (h3.1 125 9)) (is_128 hb5) h18 hF
                  · refine j_iconst (pc := 176) 0 X dX5_tellLetter_176 rfl ?_
                    exact j_zret (pc := 177) X E dX5_tellLetter_177 hF
            · refine j_iconst (pc := 138) 0 X dX5_tellLetter_138 rfl ?_
              exact j_zret (pc := 139) X E dX5_tellLetter_139 hF
        · refine j_iconst (pc := 102) 0 X dX5_tellLetter_102 rfl ?_
          exact j_zret (pc := 103) X E dX5_tellLetter_103 hF
      · refine j_iconst (pc := 45) 0 X dX5_tellLetter_45 rfl ?_
        exact j_zret (pc := 46) X E dX5_tellLetter_46 hF
  · refine j_aload_n (pc := 12) 0 X dX5_tellLetter_12 rfl ?_
    refine j_iconst (pc := 13) 2 X dX5_tellLetter_13 rfl ?_
    refine j_cVi (pc := 14) (As := [.int 2]) (rest := []) X dX5_tellLetter_14 ml_X5_79 ck_X5_stop cv_X5_stop (hz _ sh_142) rfl (Nat.le_of_ble_eq_true rfl) rfl (Nat.le_of_ble_eq_true rfl) rfl hF (tX5_stop Z 2 hz h) (fun w21 h20 hF => ?_)
    exact j_zret (pc := 17) X E dX5_tellLetter_17 hF
theorem dX5_tellProof_0 : decode cX5_tellProof 0 = .ok (.aload_n 0, 1) := by decide +kernel
theorem dX5_tellProof_1 : decode cX5_tellProof 1 = .ok (.bipush 21, 2) := by decide +kernel
theorem dX5_tellProof_3 : decode cX5_tellProof 3 = .ok (.invokevirtual 88, 3) := by decide +kernel
theorem dX5_tellProof_6 : decode cX5_tellProof 6 = .ok (.ifCond .ne 5, 3) := by decide +kernel
theorem dX5_tellProof_9 : decode cX5_tellProof 9 = .ok (.iconst 0, 1) := by decide +kernel
theorem dX5_tellProof_10 : decode cX5_tellProof 10 = .ok (.ireturn, 1) := by decide +kernel
theorem dX5_tellProof_11 : decode cX5_tellProof 11 = .ok (.aload_n 0, 1) := by decide +kernel
theorem dX5_tellProof_12 : decode cX5_tellProof 12 = .ok (.getfield 29, 3) := by decide +kernel
theorem dX5_tellProof_15 : decode cX5_tellProof 15 = .ok (.aload_n 0, 1) := by decide +kernel
theorem dX5_tellProof_16 : decode cX5_tellProof 16 = .ok (.iconst 1, 1) := by decide +kernel
theorem dX5_tellProof_17 : decode cX5_tellProof 17 = .ok (.bipush 99, 2) := by decide +kernel
theorem dX5_tellProof_19 : decode cX5_tellProof 19 = .ok (.invokevirtual 116, 3) := by decide +kernel
theorem dX5_tellProof_22 : decode cX5_tellProof 22 = .ok (.putfield 170, 3) := by decide +kernel
theorem dX5_tellProof_25 : decode cX5_tellProof 25 = .ok (.aload_n 0, 1) := by decide +kernel
theorem dX5_tellProof_26 : decode cX5_tellProof 26 = .ok (.getfield 29, 3) := by decide +kernel
theorem dX5_tellProof_29 : decode cX5_tellProof 29 = .ok (.getfield 170, 3) := by decide +kernel
theorem dX5_tellProof_32 : decode cX5_tellProof 32 = .ok (.ifCond .lt 15, 3) := by decide +kernel
theorem dX5_tellProof_35 : decode cX5_tellProof 35 = .ok (.aload_n 0, 1) := by decide +kernel
theorem dX5_tellProof_36 : decode cX5_tellProof 36 = .ok (.iconst 4, 1) := by decide +kernel
theorem dX5_tellProof_37 : decode cX5_tellProof 37 = .ok (.invokevirtual 88, 3) := by decide +kernel
theorem dX5_tellProof_40 : decode cX5_tellProof 40 = .ok (.ifCond .eq 7, 3) := by decide +kernel
theorem dX5_tellProof_43 : decode cX5_tellProof 43 = .ok (.iconst 1, 1) := by decide +kernel
theorem dX5_tellProof_44 : decode cX5_tellProof 44 = .ok (.goto 4, 3) := by decide +kernel
theorem dX5_tellProof_47 : decode cX5_tellProof 47 = .ok (.iconst 0, 1) := by decide +kernel
theorem dX5_tellProof_48 : decode cX5_tellProof 48 = .ok (.ireturn, 1) := by decide +kernel
def fX5_tellProof  (h : Hp) : Option (Int32 × Hp) := bi (fX5_take 21 h) (fun w2 h1 => (if w2 = 0 then ck (zb 0) (some (0, h1)) else bi (fX5_takeInt 1 99 h1) (fun w4 h3 => lt (wI h3 125 10 w4) (fun h5 => (if (h5.1 125 10) < 0 then ck (zb 0) (some (0, h5)) else bi (fX5_take 4 h5) (fun w7 h6 => (if w7 = 0 then ck (zb 0) (some (0, h6)) else ck (zb 1) (some (1, h6)))))))))
set_option maxRecDepth 20000 in
theorem tX5_tellProof (Z : ZT)  (hz : HZ Z) (h : Hp) (r : Int32) (hr : Hp) (hF : fX5_tellProof  h = some (r, hr)) : MC Z yX5_tellProof cX5_tellProof 1 (some .boolean) 2 [.ref (Z.2.1 142)] h (some (.int r)) hr := by
  unfold fX5_tellProof at hF
  refine mc_start (by decide) (Nat.le_of_ble_eq_true rfl) (fun G X E => ?_)
  refine j_aload_n (pc := 0) 0 X dX5_tellProof_0 rfl ?_
  refine j_bipush (pc := 1) 21 X dX5_tellProof_1 rfl ?_
  refine j_cVi (pc := 3) (As := [.int 21]) (rest := []) X dX5_tellProof_3 ml_X5_88 ck_X5_take cv_X5_take (hz _ sh_142) rfl (Nat.le_of_ble_eq_true rfl) rfl (Nat.le_of_ble_eq_true rfl) rfl hF (tX5_take Z 21 hz h) (fun w2 h1 hF => ?_)
  refine j_if_ne (pc := 6) 11 X dX5_tellProof_6 rfl hF (fun hF => ?_) (fun hF => ?_)
  · refine j_aload_n (pc := 11) 0 X dX5_tellProof_11 rfl ?_
    refine j_getr (pc := 12) X dX5_tellProof_12 (hz _ sh_142) fl_X5_29 rfl ?_
    refine j_aload_n (pc := 15) 0 X dX5_tellProof_15 rfl ?_
    refine j_iconst (pc := 16) 1 X dX5_tellProof_16 rfl ?_
    refine j_bipush (pc := 17) 99 X dX5_tellProof_17 rfl ?_
    refine j_cVi (pc := 19) (As := [.int 1, .int 99]) (rest := [.ref (Z.2.1 125)]) X dX5_tellProof_19 ml_X5_116 ck_X5_takeInt cv_X5_takeInt (hz _ sh_142) rfl (Nat.le_of_ble_eq_true rfl) rfl (Nat.le_of_ble_eq_true rfl) rfl hF (tX5_takeInt Z 1 99 hz h1) (fun w4 h3 hF => ?_)
    refine j_puti (pc := 22) X dX5_tellProof_22 (hz _ sh_125) fp_X5_170 rfl hF (fun h5 hF => ?_)
    refine j_aload_n (pc := 25) 0 X dX5_tellProof_25 rfl ?_
    refine j_getr (pc := 26) X dX5_tellProof_26 (hz _ sh_142) fl_X5_29 rfl ?_
    refine j_geti (pc := 29) X dX5_tellProof_29 (hz _ sh_125) fl_X5_170 rfl ?_
    refine j_if_lt (pc := 32) 47 X dX5_tellProof_32 rfl hF (fun hF => ?_) (fun hF => ?_)
    · refine j_iconst (pc := 47) 0 X dX5_tellProof_47 rfl ?_
      exact j_zret (pc := 48) X E dX5_tellProof_48 hF
    · refine j_aload_n (pc := 35) 0 X dX5_tellProof_35 rfl ?_
      refine j_iconst (pc := 36) 4 X dX5_tellProof_36 rfl ?_
      refine j_cVi (pc := 37) (As := [.int 4]) (rest := []) X dX5_tellProof_37 ml_X5_88 ck_X5_take cv_X5_take (hz _ sh_142) rfl (Nat.le_of_ble_eq_true rfl) rfl (Nat.le_of_ble_eq_true rfl) rfl hF (tX5_take Z 4 hz h5) (fun w7 h6 hF => ?_)
      refine j_if_eq (pc := 40) 47 X dX5_tellProof_40 rfl hF (fun hF => ?_) (fun hF => ?_)
      · refine j_iconst (pc := 47) 0 X dX5_tellProof_47 rfl ?_
        exact j_zret (pc := 48) X E dX5_tellProof_48 hF
      · refine j_iconst (pc := 43) 1 X dX5_tellProof_43 rfl ?_
        refine j_goto (pc := 44) 48 X dX5_tellProof_44 rfl ?_
        exact j_zret (pc := 48) X E dX5_tellProof_48 hF
  · refine j_iconst (pc := 9) 0 X dX5_tellProof_9 rfl ?_
    exact j_zret (pc := 10) X E dX5_tellProof_10 hF
theorem dX5_tellRule_0 : decode cX5_tellRule 0 = .ok (.aload_n 0, 1) := by decide +kernel
theorem dX5_tellRule_1 : decode cX5_tellRule 1 = .ok (.bipush 22, 2) := by decide +kernel
theorem dX5_tellRule_3 : decode cX5_tellRule 3 = .ok (.iload_n 1, 1) := by decide +kernel
theorem dX5_tellRule_4 : decode cX5_tellRule 4 = .ok (.iadd, 1) := by decide +kernel
theorem dX5_tellRule_5 : decode cX5_tellRule 5 = .ok (.invokevirtual 88, 3) := by decide +kernel
theorem dX5_tellRule_8 : decode cX5_tellRule 8 = .ok (.ifCond .eq 12, 3) := by decide +kernel
theorem dX5_tellRule_11 : decode cX5_tellRule 11 = .ok (.aload_n 0, 1) := by decide +kernel
theorem dX5_tellRule_12 : decode cX5_tellRule 12 = .ok (.bipush 13, 2) := by decide +kernel
theorem dX5_tellRule_14 : decode cX5_tellRule 14 = .ok (.invokevirtual 88, 3) := by decide +kernel
theorem dX5_tellRule_17 : decode cX5_tellRule 17 = .ok (.ifCond .ne 5, 3) := by decide +kernel
theorem dX5_tellRule_20 : decode cX5_tellRule 20 = .ok (.iconst 0, 1) := by decide +kernel
theorem dX5_tellRule_21 : decode cX5_tellRule 21 = .ok (.ireturn, 1) := by decide +kernel
theorem dX5_tellRule_22 : decode cX5_tellRule 22 = .ok (.aload_n 0, 1) := by decide +kernel
theorem dX5_tellRule_23 : decode cX5_tellRule 23 = .ok (.getfield 29, 3) := by decide +kernel
theorem dX5_tellRule_26 : decode cX5_tellRule 26 = .ok (.getfield 149, 3) := by decide +kernel
theorem dX5_tellRule_29 : decode cX5_tellRule 29 = .ok (.istore_n 2, 1) := by decide +kernel
theorem dX5_tellRule_30 : decode cX5_tellRule 30 = .ok (.aload_n 0, 1) := by decide +kernel
theorem dX5_tellRule_31 : decode cX5_tellRule 31 = .ok (.invokevirtual 173, 3) := by decide +kernel
theorem dX5_tellRule_34 : decode cX5_tellRule 34 = .ok (.ifCond .ne 5, 3) := by decide +kernel
theorem dX5_tellRule_37 : decode cX5_tellRule 37 = .ok (.iconst 0, 1) := by decide +kernel
theorem dX5_tellRule_38 : decode cX5_tellRule 38 = .ok (.ireturn, 1) := by decide +kernel
theorem dX5_tellRule_39 : decode cX5_tellRule 39 = .ok (.aload_n 0, 1) := by decide +kernel
theorem dX5_tellRule_40 : decode cX5_tellRule 40 = .ok (.getfield 29, 3) := by decide +kernel
theorem dX5_tellRule_43 : decode cX5_tellRule 43 = .ok (.getfield 176, 3) := by decide +kernel
theorem dX5_tellRule_46 : decode cX5_tellRule 46 = .ok (.iload_n 1, 1) := by decide +kernel
theorem dX5_tellRule_47 : decode cX5_tellRule 47 = .ok (.iload_n 2, 1) := by decide +kernel
theorem dX5_tellRule_48 : decode cX5_tellRule 48 = .ok (.iastore, 1) := by decide +kernel
theorem dX5_tellRule_49 : decode cX5_tellRule 49 = .ok (.aload_n 0, 1) := by decide +kernel
theorem dX5_tellRule_50 : decode cX5_tellRule 50 = .ok (.getfield 29, 3) := by decide +kernel
theorem dX5_tellRule_53 : decode cX5_tellRule 53 = .ok (.getfield 179, 3) := by decide +kernel
theorem dX5_tellRule_56 : decode cX5_tellRule 56 = .ok (.iload_n 1, 1) := by decide +kernel
theorem dX5_tellRule_57 : decode cX5_tellRule 57 = .ok (.aload_n 0, 1) := by decide +kernel
theorem dX5_tellRule_58 : decode cX5_tellRule 58 = .ok (.getfield 29, 3) := by decide +kernel
theorem dX5_tellRule_61 : decode cX5_tellRule 61 = .ok (.getfield 149, 3) := by decide +kernel
theorem dX5_tellRule_64 : decode cX5_tellRule 64 = .ok (.iastore, 1) := by decide +kernel
theorem dX5_tellRule_65 : decode cX5_tellRule 65 = .ok (.aload_n 0, 1) := by decide +kernel
theorem dX5_tellRule_66 : decode cX5_tellRule 66 = .ok (.iconst 4, 1) := by decide +kernel
theorem dX5_tellRule_67 : decode cX5_tellRule 67 = .ok (.invokevirtual 88, 3) := by decide +kernel
theorem dX5_tellRule_70 : decode cX5_tellRule 70 = .ok (.ireturn, 1) := by decide +kernel
def fX5_tellRule (a1 : Int32) (h : Hp) : Option (Int32 × Hp) := bi (fX5_take ((22 : Int32) + a1) h) (fun w2 h1 => (if w2 = 0 then ck (zb 0) (some (0, h1)) else bi (fX5_take 13 h1) (fun w4 h3 => (if w4 = 0 then ck (zb 0) (some (0, h3)) else lt (h3.1 125 11) (fun v5 => bi (fX5_expression h3) (fun w7 h6 => (if w7 = 0 then ck (zb 0) (some (0, h6)) else ck (inb a1 3) (lt (wI h6 130 (ix a1) v5) (fun h8 => ck (inb a1 3) (lt (wI h8 131 (ix a1) (h8.1 125 11)) (fun h9 => bi (fX5_take 4 h9) (fun w11 h10 => ck (zb w11) (some (w11, h10))))))))))))))
set_option maxRecDepth 20000 in
theorem tX5_tellRule (Z : ZT) (a1 : Int32) (hz : HZ Z) (h : Hp) (r : Int32) (hr : Hp) (hF : fX5_tellRule a1 h = some (r, hr)) : MC Z yX5_tellRule cX5_tellRule 3 (some .boolean) 2 [.ref (Z.2.1 142), .int a1] h (some (.int r)) hr := by
  unfold fX5_tellRule at hF
  refine mc_start (by decide) (Nat.le_of_ble_eq_true rfl) (fun G X E => ?_)
  refine j_aload_n (pc := 0) 0 X dX5_tellRule_0 rfl ?_
  refine j_bipush (pc := 1) 22 X dX5_tellRule_1 rfl ?_
  refine j_iload_n (pc := 3) 1 X dX5_tellRule_3 rfl ?_
  refine j_iadd (pc := 4) X dX5_tellRule_4 ?_
  refine j_cVi (pc := 5) (As := [.int ((22 : Int32) + a1)]) (rest := []) X dX5_tellRule_5 ml_X5_88 ck_X5_take cv_X5_take (hz _ sh_142) rfl (Nat.le_of_ble_eq_true rfl) rfl (Nat.le_of_ble_eq_true rfl) rfl hF (tX5_take Z ((22 : Int32) + a1) hz h) (fun w2 h1 hF => ?_)
  refine j_if_eq (pc := 8) 20 X dX5_tellRule_8 rfl hF (fun hF => ?_) (fun hF => ?_)
  · refine j_iconst (pc := 20) 0 X dX5_tellRule_20 rfl ?_
    exact j_zret (pc := 21) X E dX5_tellRule_21 hF
  · refine j_aload_n (pc := 11) 0 X dX5_tellRule_11 rfl ?_
    refine j_bipush (pc := 12) 13 X dX5_tellRule_12 rfl ?_
    refine j_cVi (pc := 14) (As := [.int 13]) (rest := []) X dX5_tellRule_14 ml_X5_88 ck_X5_take cv_X5_take (hz _ sh_142) rfl (Nat.le_of_ble_eq_true rfl) rfl (Nat.le_of_ble_eq_true rfl) rfl hF (tX5_take Z 13 hz h1) (fun w4 h3 hF => ?_)
    refine j_if_ne (pc := 17) 22 X dX5_tellRule_17 rfl hF (fun hF => ?_) (fun hF => ?_)
    · refine j_aload_n (pc := 22) 0 X dX5_tellRule_22 rfl ?_
      refine j_getr (pc := 23) X dX5_tellRule_23 (hz _ sh_142) fl_X5_29 rfl ?_
      refine j_geti (pc := 26) X dX5_tellRule_26 (hz _ sh_125) fl_X5_149 rfl ?_
      refine j_istore_n (pc := 29) (fun y => [(2, .int y), (0, .ref (Z.2.1 142)), (1, .int a1)]) X dX5_tellRule_29 (by decide) (fun _ => rfl) hF (fun v5 hF => ?_)
      refine j_aload_n (pc := 30) 1 X dX5_tellRule_30 rfl ?_
      refine j_cVi (pc := 31) (As := []) (rest := []) X dX5_tellRule_31 ml_X5_173 ck_X5_expression cv_X5_expression (hz _ sh_142) rfl (Nat.le_of_ble_eq_true rfl) rfl (Nat.le_of_ble_eq_true rfl) rfl hF (tX5_expression Z hz h3) (fun w7 h6 hF => ?_)
      refine j_if_ne (pc := 34) 39 X dX5_tellRule_34 rfl hF (fun hF => ?_) (fun hF => ?_)
      · refine j_aload_n (pc := 39) 1 X dX5_tellRule_39 rfl ?_
        refine j_getr (pc := 40) X dX5_tellRule_40 (hz _ sh_142) fl_X5_29 rfl ?_
        refine j_getr (pc := 43) X dX5_tellRule_43 (hz _ sh_125) fl_X5_176 rfl ?_
        refine j_iload_n (pc := 46) 2 X dX5_tellRule_46 rfl ?_
        refine j_iload_n (pc := 47) 0 X dX5_tellRule_47 rfl ?_
        refine j_iast (pc := 48) X dX5_tellRule_48 (hz _ sh_130) hF (fun h8 hF => ?_)
        refine j_aload_n (pc := 49) 1 X dX5_tellRule_49 rfl ?_
        refine j_getr (pc := 50) X dX5_tellRule_50 (hz _ sh_142) fl_X5_29 rfl ?_
        refine j_getr (pc := 53) X dX5_tellRule_53 (hz _ sh_125) fl_X5_179 rfl ?_
        refine j_iload_n (pc := 56) 2 X dX5_tellRule_56 rfl ?_
        refine j_aload_n (pc := 57) 1 X dX5_tellRule_57 rfl ?_
        refine j_getr (pc := 58) X dX5_tellRule_58 (hz _ sh_142) fl_X5_29 rfl ?_
        refine j_geti (pc := 61) X dX5_tellRule_61 (hz _ sh_125) fl_X5_149 rfl ?_
        refine j_iast (pc := 64) X dX5_tellRule_64 (hz _ sh_131) hF (fun h9 hF => ?_)
        refine j_aload_n (pc := 65) 1 X dX5_tellRule_65 rfl ?_
        refine j_iconst (pc := 66) 4 X dX5_tellRule_66 rfl ?_
        refine j_cVi (pc := 67) (As := [.int 4]) (rest := []) X dX5_tellRule_67 ml_X5_88 ck_X5_take cv_X5_take (hz _ sh_142) rfl (Nat.le_of_ble_eq_true rfl) rfl (Nat.le_of_ble_eq_true rfl) rfl hF (tX5_take Z 4 hz h9) (fun w11 h10 hF => ?_)
        exact j_zret (pc := 70) X E dX5_tellRule_70 hF
      · refine j_iconst (pc := 37) 0 X dX5_tellRule_37 rfl ?_
        exact j_zret (pc := 38) X E dX5_tellRule_38 hF
    · refine j_iconst (pc := 20) 0 X dX5_tellRule_20 rfl ?_
      exact j_zret (pc := 21) X E dX5_tellRule_21 hF
theorem dX5_tell_0 : decode cX5_tell 0 = .ok (.aload_n 0, 1) := by decide +kernel
theorem dX5_tell_1 : decode cX5_tell 1 = .ok (.getfield 47, 3) := by decide +kernel
theorem dX5_tell_4 : decode cX5_tell 4 = .ok (.tableswitch 89 16 24 #[52, 57, 62, 67, 89, 72, 77, 77, 77], 52) := by decide +kernel
theorem dX5_tell_56 : decode cX5_tell 56 = .ok (.aload_n 0, 1) := by decide +kernel
theorem dX5_tell_57 : decode cX5_tell 57 = .ok (.invokevirtual 60, 3) := by decide +kernel
theorem dX5_tell_60 : decode cX5_tell 60 = .ok (.ireturn, 1) := by decide +kernel
theorem dX5_tell_61 : decode cX5_tell 61 = .ok (.aload_n 0, 1) := by decide +kernel
theorem dX5_tell_62 : decode cX5_tell 62 = .ok (.invokevirtual 63, 3) := by decide +kernel
theorem dX5_tell_65 : decode cX5_tell 65 = .ok (.ireturn, 1) := by decide +kernel
theorem dX5_tell_66 : decode cX5_tell 66 = .ok (.aload_n 0, 1) := by decide +kernel
theorem dX5_tell_67 : decode cX5_tell 67 = .ok (.invokevirtual 66, 3) := by decide +kernel
theorem dX5_tell_70 : decode cX5_tell 70 = .ok (.ireturn, 1) := by decide +kernel
theorem dX5_tell_71 : decode cX5_tell 71 = .ok (.aload_n 0, 1) := by decide +kernel
theorem dX5_tell_72 : decode cX5_tell 72 = .ok (.invokevirtual 69, 3) := by decide +kernel
theorem dX5_tell_75 : decode cX5_tell 75 = .ok (.ireturn, 1) := by decide +kernel
theorem dX5_tell_76 : decode cX5_tell 76 = .ok (.aload_n 0, 1) := by decide +kernel
theorem dX5_tell_77 : decode cX5_tell 77 = .ok (.invokevirtual 72, 3) := by decide +kernel
theorem dX5_tell_80 : decode cX5_tell 80 = .ok (.ireturn, 1) := by decide +kernel
theorem dX5_tell_81 : decode cX5_tell 81 = .ok (.aload_n 0, 1) := by decide +kernel
theorem dX5_tell_82 : decode cX5_tell 82 = .ok (.aload_n 0, 1) := by decide +kernel
theorem dX5_tell_83 : decode cX5_tell 83 = .ok (.getfield 47, 3) := by decide +kernel
theorem dX5_tell_86 : decode cX5_tell 86 = .ok (.bipush 22, 2) := by decide +kernel
theorem dX5_tell_88 : decode cX5_tell 88 = .ok (.isub, 1) := by decide +kernel
theorem dX5_tell_89 : decode cX5_tell 89 = .ok (.invokevirtual 75, 3) := by decide +kernel
theorem dX5_tell_92 : decode cX5_tell 92 = .ok (.ireturn, 1) := by decide +kernel
theorem dX5_tell_93 : decode cX5_tell 93 = .ok (.aload_n 0, 1) := by decide +kernel
theorem dX5_tell_94 : decode cX5_tell 94 = .ok (.iconst 1, 1) := by decide +kernel
theorem dX5_tell_95 : decode cX5_tell 95 = .ok (.invokevirtual 79, 3) := by decide +kernel
theorem dX5_tell_98 : decode cX5_tell 98 = .ok (.ireturn, 1) := by decide +kernel
def fX5_tell  (h : Hp) : Option (Int32 × Hp) := (if (h.1 142 7).toInt < 16 ∨ 24 < (h.1 142 7).toInt then bi (fX5_stop 1 h) (fun w2 h1 => ck (zb w2) (some (w2, h1))) else if (h.1 142 7) = 16 then bi (fX5_tellPerson h) (fun w4 h3 => ck (zb w4) (some (w4, h3))) else if (h.1 142 7) = 17 then bi (fX5_tellClerk h) (fun w6 h5 => ck (zb w6) (some (w6, h5))) else if (h.1 142 7) = 18 then bi (fX5_tellBarred h) (fun w8 h7 => ck (zb w8) (some (w8, h7))) else if (h.1 142 7) = 19 then bi (fX5_tellLetter h) (fun w10 h9 => ck (zb w10) (some (w10, h9))) else if (h.1 142 7) = 20 then bi (fX5_stop 1 h) (fun w12 h11 => ck (zb w12) (some (w12, h11))) else if (h.1 142 7) = 21 then bi (fX5_tellProof h) (fun w14 h13 => ck (zb w14) (some (w14, h13))) else if (h.1 142 7) = 22 then bi (fX5_tellRule ((h.1 142 7) - 22) h) (fun w16 h15 => ck (zb w16) (some (w16, h15))) else if (h.1 142 7) = 23 then bi (fX5_tellRule ((h.1 142 7) - 22) h) (fun w18 h17 => ck (zb w18) (some (w18, h17))) else if (h.1 142 7) = 24 then bi (fX5_tellRule ((h.1 142 7) - 22) h) (fun w20 h19 => ck (zb w20) (some (w20, h19))) else none)
set_option maxRecDepth 20000 in
theorem tX5_tell (Z : ZT)  (hz : HZ Z) (h : Hp) (r : Int32) (hr : Hp) (hF : fX5_tell  h = some (r, hr)) : MC Z yX5_tell cX5_tell 1 (some .boolean) 5 [.ref (Z.2.1 142)] h (some (.int r)) hr := by
  unfold fX5_tell at hF
  refine mc_start (by decide) (Nat.le_of_ble_eq_true rfl) (fun G X E => ?_)
  refine j_aload_n (pc := 0) 0 X dX5_tell_0 rfl ?_
  refine j_geti (pc := 1) X dX5_tell_1 (hz _ sh_142) fl_X5_47 rfl ?_
  refine j_tab (pc := 4) (tgt := 93) X dX5_tell_4 rfl hF (fun hF => ?_) (fun hF => ?_)
  · refine j_aload_n (pc := 93) 0 X dX5_tell_93 rfl ?_
    refine j_iconst (pc := 94) 1 X dX5_tell_94 rfl ?_
    refine j_cVi (pc := 95) (As := [.int 1]) (rest := []) X dX5_tell_95 ml_X5_79 ck_X5_stop cv_X5_stop (hz _ sh_142) rfl (Nat.le_of_ble_eq_true rfl) rfl (Nat.le_of_ble_eq_true rfl) rfl hF (tX5_stop Z 1 hz h) (fun w2 h1 hF => ?_)
    exact j_zret (pc := 98) X E dX5_tell_98 hF
  refine j_tabi (pc := 4) (v := 16) (tgt := 56) X dX5_tell_4 rfl rfl rfl rfl hF (fun hF => ?_) (fun hF => ?_)
  · refine j_aload_n (pc := 56) 0 X dX5_tell_56 rfl ?_
    refine j_cVi (pc := 57) (As := []) (rest := []) X dX5_tell_57 ml_X5_60 ck_X5_tellPerson cv_X5_tellPerson (hz _ sh_142) rfl (Nat.le_of_ble_eq_true rfl) rfl (Nat.le_of_ble_eq_true rfl) rfl hF (tX5_tellPerson Z hz h) (fun w4 h3 hF => ?_)
    exact j_zret (pc := 60) X E dX5_tell_60 hF
  refine j_tabi (pc := 4) (v := 17) (tgt := 61) X dX5_tell_4 rfl rfl rfl rfl hF (fun hF => ?_) (fun hF => ?_)
  · refine j_aload_n (pc := 61) 0 X dX5_tell_61 rfl ?_
    refine j_cVi (pc := 62) (As := []) (rest := []) X dX5_tell_62 ml_X5_63 ck_X5_tellClerk cv_X5_tellClerk (hz _ sh_142) rfl (Nat.le_of_ble_eq_true rfl) rfl (Nat.le_of_ble_eq_true rfl) rfl hF (tX5_tellClerk Z hz h) (fun w6 h5 hF => ?_)
    exact j_zret (pc := 65) X E dX5_tell_65 hF
  refine j_tabi (pc := 4) (v := 18) (tgt := 66) X dX5_tell_4 rfl rfl rfl rfl hF (fun hF => ?_) (fun hF => ?_)
  · refine j_aload_n (pc := 66) 0 X dX5_tell_66 rfl ?_
    refine j_cVi (pc := 67) (As := []) (rest := []) X dX5_tell_67 ml_X5_66 ck_X5_tellBarred cv_X5_tellBarred (hz _ sh_142) rfl (Nat.le_of_ble_eq_true rfl) rfl (Nat.le_of_ble_eq_true rfl) rfl hF (tX5_tellBarred Z hz h) (fun w8 h7 hF => ?_)
    exact j_zret (pc := 70) X E dX5_tell_70 hF
  refine j_tabi (pc := 4) (v := 19) (tgt := 71) X dX5_tell_4 rfl rfl rfl rfl hF (fun hF => ?_) (fun hF => ?_)
  · refine j_aload_n (pc := 71) 0 X dX5_tell_71 rfl ?_
    refine j_cVi (pc := 72) (As := []) (rest := []) X dX5_tell_72 ml_X5_69 ck_X5_tellLetter cv_X5_tellLetter (hz _ sh_142) rfl (Nat.le_of_ble_eq_true rfl) rfl (Nat.le_of_ble_eq_true rfl) rfl hF (tX5_tellLetter Z hz h) (fun w10 h9 hF => ?_)
    exact j_zret (pc := 75) X E dX5_tell_75 hF
  refine j_tabi (pc := 4) (v := 20) (tgt := 93) X dX5_tell_4 rfl rfl rfl rfl hF (fun hF => ?_) (fun hF => ?_)
  · refine j_aload_n (pc := 93) 0 X dX5_tell_93 rfl ?_
    refine j_iconst (pc := 94) 1 X dX5_tell_94 rfl ?_
    refine j_cVi (pc := 95) (As := [.int 1]) (rest := []) X dX5_tell_95 ml_X5_79 ck_X5_stop cv_X5_stop (hz _ sh_142) rfl (Nat.le_of_ble_eq_true rfl) rfl (Nat.le_of_ble_eq_true rfl) rfl hF (tX5_stop Z 1 hz h) (fun w12 h11 hF => ?_)
    exact j_zret (pc := 98) X E dX5_tell_98 hF
  refine j_tabi (pc := 4) (v := 21) (tgt := 76) X dX5_tell_4 rfl rfl rfl rfl hF (fun hF => ?_) (fun hF => ?_)
  · refine j_aload_n (pc := 76) 0 X dX5_tell_76 rfl ?_
    refine j_cVi (pc := 77) (As := []) (rest := []) X dX5_tell_77 ml_X5_72 ck_X5_tellProof cv_X5_tellProof (hz _ sh_142) rfl (Nat.le_of_ble_eq_true rfl) rfl (Nat.le_of_ble_eq_true rfl) rfl hF (tX5_tellProof Z hz h) (fun w14 h13 hF => ?_)
    exact j_zret (pc := 80) X E dX5_tell_80 hF
  refine j_tabi (pc := 4) (v := 22) (tgt := 81) X dX5_tell_4 rfl rfl rfl rfl hF (fun hF => ?_) (fun hF => ?_)
  · refine j_aload_n (pc := 81) 0 X dX5_tell_81 rfl ?_
    refine j_aload_n (pc := 82) 0 X dX5_tell_82 rfl ?_
    refine j_geti (pc := 83) X dX5_tell_83 (hz _ sh_142) fl_X5_47 rfl ?_
    refine j_bipush (pc := 86) 22 X dX5_tell_86 rfl ?_
    refine j_isub (pc := 88) X dX5_tell_88 ?_
    refine j_cVi (pc := 89) (As := [.int ((h.1 142 7) - 22)]) (rest := []) X dX5_tell_89 ml_X5_75 ck_X5_tellRule cv_X5_tellRule (hz _ sh_142) rfl (Nat.le_of_ble_eq_true rfl) rfl (Nat.le_of_ble_eq_true rfl) rfl hF (tX5_tellRule Z ((h.1 142 7) - 22) hz h) (fun w16 h15 hF => ?_)
    exact j_zret (pc := 92) X E dX5_tell_92 hF
  refine j_tabi (pc := 4) (v := 23) (tgt := 81) X dX5_tell_4 rfl rfl rfl rfl hF (fun hF => ?_) (fun hF => ?_)
  · refine j_aload_n (pc := 81) 0 X dX5_tell_81 rfl ?_
    refine j_aload_n (pc := 82) 0 X dX5_tell_82 rfl ?_
    refine j_geti (pc := 83) X dX5_tell_83 (hz _ sh_142) fl_X5_47 rfl ?_
    refine j_bipush (pc := 86) 22 X dX5_tell_86 rfl ?_
    refine j_isub (pc := 88) X dX5_tell_88 ?_
    refine j_cVi (pc := 89) (As := [.int ((h.1 142 7) - 22)]) (rest := []) X dX5_tell_89 ml_X5_75 ck_X5_tellRule cv_X5_tellRule (hz _ sh_142) rfl (Nat.le_of_ble_eq_true rfl) rfl (Nat.le_of_ble_eq_true rfl) rfl hF (tX5_tellRule Z ((h.1 142 7) - 22) hz h) (fun w18 h17 hF => ?_)
    exact j_zret (pc := 92) X E dX5_tell_92 hF
  refine j_tabi (pc := 4) (v := 24) (tgt := 81) X dX5_tell_4 rfl rfl rfl rfl hF (fun hF => ?_) (fun hF => ?_)
  · refine j_aload_n (pc := 81) 0 X dX5_tell_81 rfl ?_
    refine j_aload_n (pc := 82) 0 X dX5_tell_82 rfl ?_
    refine j_geti (pc := 83) X dX5_tell_83 (hz _ sh_142) fl_X5_47 rfl ?_
    refine j_bipush (pc := 86) 22 X dX5_tell_86 rfl ?_
    refine j_isub (pc := 88) X dX5_tell_88 ?_
    refine j_cVi (pc := 89) (As := [.int ((h.1 142 7) - 22)]) (rest := []) X dX5_tell_89 ml_X5_75 ck_X5_tellRule cv_X5_tellRule (hz _ sh_142) rfl (Nat.le_of_ble_eq_true rfl) rfl (Nat.le_of_ble_eq_true rfl) rfl hF (tX5_tellRule Z ((h.1 142 7) - 22) hz h) (fun w20 h19 hF => ?_)
    exact j_zret (pc := 92) X E dX5_tell_92 hF
  cases hF
theorem dX5_tellAll_0 : decode cX5_tellAll 0 = .ok (.iconst 1, 1) := by decide +kernel
theorem dX5_tellAll_1 : decode cX5_tellAll 1 = .ok (.istore_n 1, 1) := by decide +kernel
theorem dX5_tellAll_2 : decode cX5_tellAll 2 = .ok (.iconst 0, 1) := by decide +kernel
theorem dX5_tellAll_3 : decode cX5_tellAll 3 = .ok (.istore_n 2, 1) := by decide +kernel
theorem dX5_tellAll_4 : decode cX5_tellAll 4 = .ok (.iload_n 2, 1) := by decide +kernel
theorem dX5_tellAll_5 : decode cX5_tellAll 5 = .ok (.sipush 400, 3) := by decide +kernel
theorem dX5_tellAll_8 : decode cX5_tellAll 8 = .ok (.if_icmp .gt 25, 3) := by decide +kernel
theorem dX5_tellAll_11 : decode cX5_tellAll 11 = .ok (.iload_n 1, 1) := by decide +kernel
theorem dX5_tellAll_12 : decode cX5_tellAll 12 = .ok (.ifCond .eq 21, 3) := by decide +kernel
theorem dX5_tellAll_15 : decode cX5_tellAll 15 = .ok (.aload_n 0, 1) := by decide +kernel
theorem dX5_tellAll_16 : decode cX5_tellAll 16 = .ok (.getfield 47, 3) := by decide +kernel
theorem dX5_tellAll_19 : decode cX5_tellAll 19 = .ok (.ifCond .eq 14, 3) := by decide +kernel
theorem dX5_tellAll_22 : decode cX5_tellAll 22 = .ok (.aload_n 0, 1) := by decide +kernel
theorem dX5_tellAll_23 : decode cX5_tellAll 23 = .ok (.invokevirtual 56, 3) := by decide +kernel
theorem dX5_tellAll_26 : decode cX5_tellAll 26 = .ok (.istore_n 1, 1) := by decide +kernel
theorem dX5_tellAll_27 : decode cX5_tellAll 27 = .ok (.iinc 2 1, 3) := by decide +kernel
theorem dX5_tellAll_30 : decode cX5_tellAll 30 = .ok (.goto (-26), 3) := by decide +kernel
theorem dX5_tellAll_33 : decode cX5_tellAll 33 = .ok (.return_, 1) := by decide +kernel
def bX5_tellAll_4   (r4 : Int32 → Int32 → Hp → Option (Hp)) (x1 : Int32) (x2 : Int32) (h : Hp) : Option (Hp) := (if 400 < x2 then some h else (if x1 = 0 then some h else (if (h.1 142 7) = 0 then some h else bi (fX5_tell h) (fun w2 h1 => lt w2 (fun v3 => lt (x2 + 1) (fun v4 => r4 v3 v4 h1))))))
def lX5_tellAll_4   : Nat → Int32 → Int32 → Hp → Option (Hp)
  | 0 => fun _ _ _ => none
  | n + 1 => bX5_tellAll_4   (lX5_tellAll_4   n)
set_option maxRecDepth 20000 in
theorem BX5_tellAll_4 {Z : ZT} {G : GT} {hr : Hp} (X : CX Z G cX5_tellAll RX5 3 6) (E : RX Z G none (none) hr) (hz : HZ Z)  (r4 : Int32 → Int32 → Hp → Option (Hp)) (hr4 : ∀ (x1 : Int32) (x2 : Int32) (h : Hp), r4 x1 x2 h = some hr → J Z G 3 h 4 [(0, .ref (Z.2.1 142)), (1, .int x1), (2, .int x2)] []) (x1 : Int32) (x2 : Int32) (h : Hp) (hF : bX5_tellAll_4   r4 x1 x2 h = some hr) : J Z G 3 h 4 [(0, .ref (Z.2.1 142)), (1, .int x1), (2, .int x2)] [] := by
  unfold bX5_tellAll_4 at hF
  refine j_iload_n (pc := 4) 2 X dX5_tellAll_4 rfl ?_
  refine j_sipush (pc := 5) 400 X dX5_tellAll_5 rfl ?_
  refine j_icmp_gt (pc := 8) 33 X dX5_tellAll_8 rfl hF (fun hF => ?_) (fun hF => ?_)
  · exact j_vret (pc := 33) X E dX5_tellAll_33 hF
  · refine j_iload_n (pc := 11) 1 X dX5_tellAll_11 rfl ?_
    refine j_if_eq (pc := 12) 33 X dX5_tellAll_12 rfl hF (fun hF => ?_) (fun hF => ?_)
    · exact j_vret (pc := 33) X E dX5_tellAll_33 hF
    · refine j_aload_n (pc := 15) 0 X dX5_tellAll_15 rfl ?_
      refine j_geti (pc := 16) X dX5_tellAll_16 (hz _ sh_142) fl_X5_47 rfl ?_
      refine j_if_eq (pc := 19) 33 X dX5_tellAll_19 rfl hF (fun hF => ?_) (fun hF => ?_)
      · exact j_vret (pc := 33) X E dX5_tellAll_33 hF
      · refine j_aload_n (pc := 22) 0 X dX5_tellAll_22 rfl ?_
        refine j_cVi (pc := 23) (As := []) (rest := []) X dX5_tellAll_23 ml_X5_56 ck_X5_tell cv_X5_tell (hz _ sh_142) rfl (Nat.le_of_ble_eq_true rfl) rfl (Nat.le_of_ble_eq_true rfl) rfl hF (tX5_tell Z hz h) (fun w2 h1 hF => ?_)
        refine j_istore_n (pc := 26) (fun y => [(1, .int y), (0, .ref (Z.2.1 142)), (2, .int x2)]) X dX5_tellAll_26 (by decide) (fun _ => rfl) hF (fun v3 hF => ?_)
        refine j_iinc (pc := 27) 2 (x2 + 1) (fun y => [(2, .int y), (1, .int v3), (0, .ref (Z.2.1 142))]) X dX5_tellAll_27 rfl rfl (by decide) (fun _ => rfl) hF (fun v4 hF => ?_)
        refine j_goto (pc := 30) 4 X dX5_tellAll_30 rfl ?_
        refine j_lv [(0, .ref (Z.2.1 142)), (1, .int v3), (2, .int v4)] [2, 1, 0] rfl ?_
        exact hr4 v3 v4 h1 hF
theorem LX5_tellAll_4 {Z : ZT} {G : GT} {hr : Hp} (X : CX Z G cX5_tellAll RX5 3 6) (E : RX Z G none (none) hr) (hz : HZ Z)  : ∀ (n : Nat) (x1 : Int32) (x2 : Int32) (h : Hp), lX5_tellAll_4   n x1 x2 h = some hr → J Z G 3 h 4 [(0, .ref (Z.2.1 142)), (1, .int x1), (2, .int x2)] [] := by
  intro n
  induction n with
  | zero => intro x1 x2 h hF; cases hF
  | succ n ih => intro x1 x2 h hF; exact BX5_tellAll_4 X E hz  (lX5_tellAll_4   n) ih x1 x2 h hF
def fX5_tellAll  (h : Hp) : Option (Hp) := lt 1 (fun v1 => lt 0 (fun v2 => lX5_tellAll_4 FU v1 v2 h))
set_option maxRecDepth 20000 in
theorem tX5_tellAll (Z : ZT)  (hz : HZ Z) (h : Hp) (hr : Hp) (hF : fX5_tellAll  h = some hr) : MC Z yX5_tellAll cX5_tellAll 3 none 6 [.ref (Z.2.1 142)] h (none) hr := by
  unfold fX5_tellAll at hF
  refine mc_start (by decide) (Nat.le_of_ble_eq_true rfl) (fun G X E => ?_)
  refine j_iconst (pc := 0) 1 X dX5_tellAll_0 rfl ?_
  refine j_istore_n (pc := 1) (fun y => [(1, .int y), (0, .ref (Z.2.1 142))]) X dX5_tellAll_1 (by decide) (fun _ => rfl) hF (fun v1 hF => ?_)
  refine j_iconst (pc := 2) 0 X dX5_tellAll_2 rfl ?_
  refine j_istore_n (pc := 3) (fun y => [(2, .int y), (1, .int v1), (0, .ref (Z.2.1 142))]) X dX5_tellAll_3 (by decide) (fun _ => rfl) hF (fun v2 hF => ?_)
  refine j_lv [(0, .ref (Z.2.1 142)), (1, .int v1), (2, .int v2)] [2, 1, 0] rfl ?_
  exact LX5_tellAll_4 X E hz FU v1 v2 h hF
