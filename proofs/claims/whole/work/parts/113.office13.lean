theorem dX5_settleRead_0 : decode cX5_settleRead 0 = .ok (.aload_n 0, 1) := by decide +kernel
theorem dX5_settleRead_1 : decode cX5_settleRead 1 = .ok (.getfield 29, 3) := by decide +kernel
theorem dX5_settleRead_4 : decode cX5_settleRead 4 = .ok (.getfield 182, 3) := by decide +kernel
theorem dX5_settleRead_7 : decode cX5_settleRead 7 = .ok (.iload_n 2, 1) := by decide +kernel
theorem dX5_settleRead_8 : decode cX5_settleRead 8 = .ok (.iaload, 1) := by decide +kernel
theorem dX5_settleRead_9 : decode cX5_settleRead 9 = .ok (.bipush 8, 2) := by decide +kernel
theorem dX5_settleRead_11 : decode cX5_settleRead 11 = .ok (.ishr, 1) := by decide +kernel
theorem dX5_settleRead_12 : decode cX5_settleRead 12 = .ok (.istore_n 3, 1) := by decide +kernel
theorem dX5_settleRead_13 : decode cX5_settleRead 13 = .ok (.iload_n 3, 1) := by decide +kernel
theorem dX5_settleRead_14 : decode cX5_settleRead 14 = .ok (.iconst 0, 1) := by decide +kernel
theorem dX5_settleRead_15 : decode cX5_settleRead 15 = .ok (.sipush 400, 3) := by decide +kernel
theorem dX5_settleRead_18 : decode cX5_settleRead 18 = .ok (.invokestatic 108, 3) := by decide +kernel
theorem dX5_settleRead_21 : decode cX5_settleRead 21 = .ok (.ifCond .ne 4, 3) := by decide +kernel
theorem dX5_settleRead_24 : decode cX5_settleRead 24 = .ok (.return_, 1) := by decide +kernel
theorem dX5_settleRead_25 : decode cX5_settleRead 25 = .ok (.aload_n 0, 1) := by decide +kernel
theorem dX5_settleRead_26 : decode cX5_settleRead 26 = .ok (.getfield 18, 3) := by decide +kernel
theorem dX5_settleRead_29 : decode cX5_settleRead 29 = .ok (.aload_n 0, 1) := by decide +kernel
theorem dX5_settleRead_30 : decode cX5_settleRead 30 = .ok (.getfield 29, 3) := by decide +kernel
theorem dX5_settleRead_33 : decode cX5_settleRead 33 = .ok (.getfield 101, 3) := by decide +kernel
theorem dX5_settleRead_36 : decode cX5_settleRead 36 = .ok (.aload_n 0, 1) := by decide +kernel
theorem dX5_settleRead_37 : decode cX5_settleRead 37 = .ok (.getfield 25, 3) := by decide +kernel
theorem dX5_settleRead_40 : decode cX5_settleRead 40 = .ok (.getfield 85, 3) := by decide +kernel
theorem dX5_settleRead_43 : decode cX5_settleRead 43 = .ok (.iload_n 3, 1) := by decide +kernel
theorem dX5_settleRead_44 : decode cX5_settleRead 44 = .ok (.laload, 1) := by decide +kernel
theorem dX5_settleRead_45 : decode cX5_settleRead 45 = .ok (.invokestatic 94, 3) := by decide +kernel
theorem dX5_settleRead_48 : decode cX5_settleRead 48 = .ok (.istore 4, 2) := by decide +kernel
theorem dX5_settleRead_50 : decode cX5_settleRead 50 = .ok (.iload 4, 2) := by decide +kernel
theorem dX5_settleRead_52 : decode cX5_settleRead 52 = .ok (.ifCond .ge 12, 3) := by decide +kernel
theorem dX5_settleRead_55 : decode cX5_settleRead 55 = .ok (.aload_n 0, 1) := by decide +kernel
theorem dX5_settleRead_56 : decode cX5_settleRead 56 = .ok (.iconst 4, 1) := by decide +kernel
theorem dX5_settleRead_57 : decode cX5_settleRead 57 = .ok (.iload_n 3, 1) := by decide +kernel
theorem dX5_settleRead_58 : decode cX5_settleRead 58 = .ok (.invokevirtual 104, 3) := by decide +kernel
theorem dX5_settleRead_61 : decode cX5_settleRead 61 = .ok (.goto 33, 3) := by decide +kernel
theorem dX5_settleRead_64 : decode cX5_settleRead 64 = .ok (.aload_n 0, 1) := by decide +kernel
theorem dX5_settleRead_65 : decode cX5_settleRead 65 = .ok (.getfield 29, 3) := by decide +kernel
theorem dX5_settleRead_68 : decode cX5_settleRead 68 = .ok (.getfield 182, 3) := by decide +kernel
theorem dX5_settleRead_71 : decode cX5_settleRead 71 = .ok (.iload_n 2, 1) := by decide +kernel
theorem dX5_settleRead_72 : decode cX5_settleRead 72 = .ok (.bipush 29, 2) := by decide +kernel
theorem dX5_settleRead_74 : decode cX5_settleRead 74 = .ok (.iload 4, 2) := by decide +kernel
theorem dX5_settleRead_76 : decode cX5_settleRead 76 = .ok (.bipush 8, 2) := by decide +kernel
theorem dX5_settleRead_78 : decode cX5_settleRead 78 = .ok (.ishl, 1) := by decide +kernel
theorem dX5_settleRead_79 : decode cX5_settleRead 79 = .ok (.ior, 1) := by decide +kernel
theorem dX5_settleRead_80 : decode cX5_settleRead 80 = .ok (.iastore, 1) := by decide +kernel
theorem dX5_settleRead_81 : decode cX5_settleRead 81 = .ok (.aload_n 1, 1) := by decide +kernel
theorem dX5_settleRead_82 : decode cX5_settleRead 82 = .ok (.dup, 1) := by decide +kernel
theorem dX5_settleRead_83 : decode cX5_settleRead 83 = .ok (.getfield 200, 3) := by decide +kernel
theorem dX5_settleRead_86 : decode cX5_settleRead 86 = .ok (.iconst 1, 1) := by decide +kernel
theorem dX5_settleRead_87 : decode cX5_settleRead 87 = .ok (.iload 4, 2) := by decide +kernel
theorem dX5_settleRead_89 : decode cX5_settleRead 89 = .ok (.ishl, 1) := by decide +kernel
theorem dX5_settleRead_90 : decode cX5_settleRead 90 = .ok (.ior, 1) := by decide +kernel
theorem dX5_settleRead_91 : decode cX5_settleRead 91 = .ok (.putfield 200, 3) := by decide +kernel
theorem dX5_settleRead_94 : decode cX5_settleRead 94 = .ok (.return_, 1) := by decide +kernel
def fX5_settleRead (u1 : Nat) (a2 : Int32) (h : Hp) : Option (Hp) := ck (inb a2 400) (lt ((h.1 129 (ix a2)) >>> ((8 : Int32) &&& 31)) (fun v1 => bi (fX11_within v1 0 400 h) (fun w3 h2 => (if w3 = 0 then some h2 else ck (inb v1 401) (bi (fX5_find 145 10 (h2.1 125 9) (h2.2 106 (ix v1)) h2) (fun w5 h4 => lt w5 (fun v6 => (if 0 ≤ v6 then ck (inb a2 400) (lt (wI h4 129 (ix a2) ((29 : Int32) ||| (v6 <<< ((8 : Int32) &&& 31)))) (fun h7 => lt (wI h7 u1 7 ((h7.1 u1 7) ||| ((1 : Int32) <<< (v6 &&& 31)))) (fun h8 => some h8))) else bv (fX5_mark 4 v1 h4) (fun h9 => some h9)))))))))
set_option maxRecDepth 20000 in
theorem tX5_settleRead (Z : ZT) (u1 : Nat) (hu1 : isL u1) (a2 : Int32) (hz : HZ Z) (h : Hp) (hr : Hp) (hF : fX5_settleRead u1 a2 h = some hr) : MC Z yX5_settleRead cX5_settleRead 5 none 1 [.ref (Z.2.1 142), .ref (Z.2.1 u1), .int a2] h (none) hr := by
  unfold fX5_settleRead at hF
  refine mc_start (by decide) (Nat.le_of_ble_eq_true rfl) (fun G X E => ?_)
  refine j_aload_n (pc := 0) 0 X dX5_settleRead_0 rfl ?_
  refine j_getr (pc := 1) X dX5_settleRead_1 (hz _ sh_142) fl_X5_29 rfl ?_
  refine j_getr (pc := 4) X dX5_settleRead_4 (hz _ sh_125) fl_X5_182 rfl ?_
  refine j_iload_n (pc := 7) 2 X dX5_settleRead_7 rfl ?_
  refine j_iald (pc := 8) X dX5_settleRead_8 (hz _ sh_129) hF (fun hF => ?_)
  refine j_bipush (pc := 9) 8 X dX5_settleRead_9 rfl ?_
  refine j_ishr (pc := 11) X dX5_settleRead_11 ?_
  refine j_istore_n (pc := 12) (fun y => [(3, .int y), (0, .ref (Z.2.1 142)), (1, .ref (Z.2.1 u1)), (2, .int a2)]) X dX5_settleRead_12 (by decide) (fun _ => rfl) hF (fun v1 hF => ?_)
  refine j_iload_n (pc := 13) 0 X dX5_settleRead_13 rfl ?_
  refine j_iconst (pc := 14) 0 X dX5_settleRead_14 rfl ?_
  refine j_sipush (pc := 15) 400 X dX5_settleRead_15 rfl ?_
  refine j_cSNi (pc := 18) (As := [.int v1, .int 0, .int 400]) (rest := []) X dX5_settleRead_18 ml_X5_108 ck_X11_within sk_X11_within (Nat.le_of_ble_eq_true rfl) rfl (Nat.le_of_ble_eq_true rfl) rfl hF (tX11_within Z v1 0 400 trivial h) (fun w3 h2 hF => ?_)
  refine j_if_ne (pc := 21) 25 X dX5_settleRead_21 rfl hF (fun hF => ?_) (fun hF => ?_)
  · refine j_aload_n (pc := 25) 1 X dX5_settleRead_25 rfl ?_
    refine j_getr (pc := 26) X dX5_settleRead_26 (hz _ sh_142) fl_X5_18 rfl ?_
    refine j_aload_n (pc := 29) 1 X dX5_settleRead_29 rfl ?_
    refine j_getr (pc := 30) X dX5_settleRead_30 (hz _ sh_142) fl_X5_29 rfl ?_
    refine j_geti (pc := 33) X dX5_settleRead_33 (hz _ sh_125) fl_X5_101 rfl ?_
    refine j_aload_n (pc := 36) 1 X dX5_settleRead_36 rfl ?_
    refine j_getr (pc := 37) X dX5_settleRead_37 (hz _ sh_142) fl_X5_25 rfl ?_
    refine j_getr (pc := 40) X dX5_settleRead_40 (hz _ sh_103) fl_X5_85 rfl ?_
    refine j_iload_n (pc := 43) 0 X dX5_settleRead_43 rfl ?_
    refine j_lald (pc := 44) X dX5_settleRead_44 (hz _ sh_106) hF (fun hF => ?_)
    refine j_cSi (pc := 45) (As := [.ref (Z.2.1 145), .int (h2.1 125 9), .long (h2.2 106 (ix v1))]) (rest := []) X dX5_settleRead_45 ml_X5_94 ck_X5_find sk_X5_find (Nat.le_of_ble_eq_true rfl) rfl (Nat.le_of_ble_eq_true rfl) rfl hF (tX5_find Z 145 10 (hz _ sh_145) (h2.1 125 9) (h2.2 106 (ix v1)) trivial h2) (fun w5 h4 hF => ?_)
    refine j_istore (pc := 48) (fun y => [(4, .int y), (3, .int v1), (0, .ref (Z.2.1 142)), (1, .ref (Z.2.1 u1)), (2, .int a2)]) X dX5_settleRead_48 (by decide) (fun _ => rfl) hF (fun v6 hF => ?_)
    refine j_iload (pc := 50) 0 X dX5_settleRead_50 rfl ?_
    refine j_if_ge (pc := 52) 64 X dX5_settleRead_52 rfl hF (fun hF => ?_) (fun hF => ?_)
    · refine j_aload_n (pc := 64) 2 X dX5_settleRead_64 rfl ?_
      refine j_getr (pc := 65) X dX5_settleRead_65 (hz _ sh_142) fl_X5_29 rfl ?_
      refine j_getr (pc := 68) X dX5_settleRead_68 (hz _ sh_125) fl_X5_182 rfl ?_
      refine j_iload_n (pc := 71) 4 X dX5_settleRead_71 rfl ?_
      refine j_bipush (pc := 72) 29 X dX5_settleRead_72 rfl ?_
      refine j_iload (pc := 74) 0 X dX5_settleRead_74 rfl ?_
      refine j_bipush (pc := 76) 8 X dX5_settleRead_76 rfl ?_
      refine j_ishl (pc := 78) X dX5_settleRead_78 ?_
      refine j_ior (pc := 79) X dX5_settleRead_79 ?_
      refine j_iast (pc := 80) X dX5_settleRead_80 (hz _ sh_129) hF (fun h7 hF => ?_)
      refine j_aload_n (pc := 81) 3 X dX5_settleRead_81 rfl ?_
      refine j_dup (pc := 82) X dX5_settleRead_82 rfl ?_
      refine j_geti (pc := 83) X dX5_settleRead_83 (hz _ (shL hu1)) fl_X5_200 rfl ?_
      refine j_iconst (pc := 86) 1 X dX5_settleRead_86 rfl ?_
      refine j_iload (pc := 87) 0 X dX5_settleRead_87 rfl ?_
      refine j_ishl (pc := 89) X dX5_settleRead_89 ?_
      refine j_ior (pc := 90) X dX5_settleRead_90 ?_
      refine j_puti (pc := 91) X dX5_settleRead_91 (hz _ (shL hu1)) fp_X5_200 rfl hF (fun h8 hF => ?_)
      exact j_vret (pc := 94) X E dX5_settleRead_94 hF
    · refine j_aload_n (pc := 55) 2 X dX5_settleRead_55 rfl ?_
      refine j_iconst (pc := 56) 4 X dX5_settleRead_56 rfl ?_
      refine j_iload_n (pc := 57) 1 X dX5_settleRead_57 rfl ?_
      refine j_cVv (pc := 58) (As := [.int 4, .int v1]) (rest := []) X dX5_settleRead_58 ml_X5_104 ck_X5_mark cv_X5_mark (hz _ sh_142) rfl (Nat.le_of_ble_eq_true rfl) rfl (Nat.le_of_ble_eq_true rfl) rfl hF (tX5_mark Z 4 v1 hz h4) (fun h9 hF => ?_)
      refine j_goto (pc := 61) 94 X dX5_settleRead_61 rfl ?_
      exact j_vret (pc := 94) X E dX5_settleRead_94 hF
  · exact j_vret (pc := 24) X E dX5_settleRead_24 hF
theorem dX5_settle_0 : decode cX5_settle 0 = .ok (.aload_n 0, 1) := by decide +kernel
theorem dX5_settle_1 : decode cX5_settle 1 = .ok (.getfield 50, 3) := by decide +kernel
theorem dX5_settle_4 : decode cX5_settle 4 = .ok (.iconst 1, 1) := by decide +kernel
theorem dX5_settle_5 : decode cX5_settle 5 = .ok (.if_icmp .eq 11, 3) := by decide +kernel
theorem dX5_settle_8 : decode cX5_settle 8 = .ok (.aload_n 0, 1) := by decide +kernel
theorem dX5_settle_9 : decode cX5_settle 9 = .ok (.getfield 50, 3) := by decide +kernel
theorem dX5_settle_12 : decode cX5_settle 12 = .ok (.iconst 2, 1) := by decide +kernel
theorem dX5_settle_13 : decode cX5_settle 13 = .ok (.if_icmp .ne 4, 3) := by decide +kernel
theorem dX5_settle_16 : decode cX5_settle 16 = .ok (.return_, 1) := by decide +kernel
theorem dX5_settle_17 : decode cX5_settle 17 = .ok (.iconst 0, 1) := by decide +kernel
theorem dX5_settle_18 : decode cX5_settle 18 = .ok (.istore_n 1, 1) := by decide +kernel
theorem dX5_settle_19 : decode cX5_settle 19 = .ok (.iload_n 1, 1) := by decide +kernel
theorem dX5_settle_20 : decode cX5_settle 20 = .ok (.aload_n 0, 1) := by decide +kernel
theorem dX5_settle_21 : decode cX5_settle 21 = .ok (.getfield 29, 3) := by decide +kernel
theorem dX5_settle_24 : decode cX5_settle 24 = .ok (.getfield 101, 3) := by decide +kernel
theorem dX5_settle_27 : decode cX5_settle 27 = .ok (.if_icmp .ge 67, 3) := by decide +kernel
theorem dX5_settle_30 : decode cX5_settle 30 = .ok (.aload_n 0, 1) := by decide +kernel
theorem dX5_settle_31 : decode cX5_settle 31 = .ok (.getfield 29, 3) := by decide +kernel
theorem dX5_settle_34 : decode cX5_settle 34 = .ok (.getfield 133, 3) := by decide +kernel
theorem dX5_settle_37 : decode cX5_settle 37 = .ok (.iload_n 1, 1) := by decide +kernel
theorem dX5_settle_38 : decode cX5_settle 38 = .ok (.aaload, 1) := by decide +kernel
theorem dX5_settle_39 : decode cX5_settle 39 = .ok (.astore_n 2, 1) := by decide +kernel
theorem dX5_settle_40 : decode cX5_settle 40 = .ok (.aload_n 2, 1) := by decide +kernel
theorem dX5_settle_41 : decode cX5_settle 41 = .ok (.iconst 0, 1) := by decide +kernel
theorem dX5_settle_42 : decode cX5_settle 42 = .ok (.putfield 200, 3) := by decide +kernel
theorem dX5_settle_45 : decode cX5_settle 45 = .ok (.aload_n 2, 1) := by decide +kernel
theorem dX5_settle_46 : decode cX5_settle 46 = .ok (.getfield 152, 3) := by decide +kernel
theorem dX5_settle_49 : decode cX5_settle 49 = .ok (.istore_n 3, 1) := by decide +kernel
theorem dX5_settle_50 : decode cX5_settle 50 = .ok (.iload_n 3, 1) := by decide +kernel
theorem dX5_settle_51 : decode cX5_settle 51 = .ok (.aload_n 2, 1) := by decide +kernel
theorem dX5_settle_52 : decode cX5_settle 52 = .ok (.getfield 158, 3) := by decide +kernel
theorem dX5_settle_55 : decode cX5_settle 55 = .ok (.if_icmp .ge 33, 3) := by decide +kernel
theorem dX5_settle_58 : decode cX5_settle 58 = .ok (.aload_n 0, 1) := by decide +kernel
theorem dX5_settle_59 : decode cX5_settle 59 = .ok (.getfield 29, 3) := by decide +kernel
theorem dX5_settle_62 : decode cX5_settle 62 = .ok (.getfield 182, 3) := by decide +kernel
theorem dX5_settle_65 : decode cX5_settle 65 = .ok (.iload_n 3, 1) := by decide +kernel
theorem dX5_settle_66 : decode cX5_settle 66 = .ok (.iaload, 1) := by decide +kernel
theorem dX5_settle_67 : decode cX5_settle 67 = .ok (.sipush 255, 3) := by decide +kernel
theorem dX5_settle_70 : decode cX5_settle 70 = .ok (.iand, 1) := by decide +kernel
theorem dX5_settle_71 : decode cX5_settle 71 = .ok (.bipush 29, 2) := by decide +kernel
theorem dX5_settle_73 : decode cX5_settle 73 = .ok (.if_icmp .ne 9, 3) := by decide +kernel
theorem dX5_settle_76 : decode cX5_settle 76 = .ok (.aload_n 0, 1) := by decide +kernel
theorem dX5_settle_77 : decode cX5_settle 77 = .ok (.aload_n 2, 1) := by decide +kernel
theorem dX5_settle_78 : decode cX5_settle 78 = .ok (.iload_n 3, 1) := by decide +kernel
theorem dX5_settle_79 : decode cX5_settle 79 = .ok (.invokevirtual 203, 3) := by decide +kernel
theorem dX5_settle_82 : decode cX5_settle 82 = .ok (.iinc 3 1, 3) := by decide +kernel
theorem dX5_settle_85 : decode cX5_settle 85 = .ok (.goto (-35), 3) := by decide +kernel
theorem dX5_settle_88 : decode cX5_settle 88 = .ok (.iinc 1 1, 3) := by decide +kernel
theorem dX5_settle_91 : decode cX5_settle 91 = .ok (.goto (-72), 3) := by decide +kernel
theorem dX5_settle_94 : decode cX5_settle 94 = .ok (.return_, 1) := by decide +kernel
def bX5_settle_82  (r19 : Int32 → Hp → Option (Hp)) (r50 : Int32 → Nat → Int32 → Hp → Option (Hp)) (x1 : Int32) (x2 : Nat) (x3 : Int32) (h : Hp) : Option (Hp) := lt (x3 + 1) (fun v1 => r50 x1 x2 v1 h)
set_option maxRecDepth 20000 in
theorem BX5_settle_82 {Z : ZT} {G : GT} {hr : Hp} (X : CX Z G cX5_settle RX5 4 2) (E : RX Z G none (none) hr) (hz : HZ Z) (r19 : Int32 → Hp → Option (Hp)) (hr19 : ∀ (x1 : Int32) (h : Hp), r19 x1 h = some hr → J Z G 4 h 19 [(0, .ref (Z.2.1 142)), (1, .int x1)] []) (r50 : Int32 → Nat → Int32 → Hp → Option (Hp)) (hr50 : ∀ (x1 : Int32) (x2 : Nat) (p2 : isL x2) (x3 : Int32) (h : Hp), r50 x1 x2 x3 h = some hr → J Z G 4 h 50 [(0, .ref (Z.2.1 142)), (1, .int x1), (2, .ref (Z.2.1 x2)), (3, .int x3)] []) (x1 : Int32) (x2 : Nat) (p2 : isL x2) (x3 : Int32) (h : Hp) (hF : bX5_settle_82  r19 r50 x1 x2 x3 h = some hr) : J Z G 4 h 82 [(0, .ref (Z.2.1 142)), (1, .int x1), (2, .ref (Z.2.1 x2)), (3, .int x3)] [] := by
  unfold bX5_settle_82 at hF
  refine j_iinc (pc := 82) 3 (x3 + 1) (fun y => [(3, .int y), (0, .ref (Z.2.1 142)), (1, .int x1), (2, .ref (Z.2.1 x2))]) X dX5_settle_82 rfl rfl (by decide) (fun _ => rfl) hF (fun v1 hF => ?_)
  refine j_goto (pc := 85) 50 X dX5_settle_85 rfl ?_
  refine j_lv [(0, .ref (Z.2.1 142)), (1, .int x1), (2, .ref (Z.2.1 x2)), (3, .int v1)] [1, 2, 3, 0] rfl ?_
  exact hr50 x1 x2 p2 v1 h hF
def bX5_settle_50  (r19 : Int32 → Hp → Option (Hp)) (r50 : Int32 → Nat → Int32 → Hp → Option (Hp)) (x1 : Int32) (x2 : Nat) (x3 : Int32) (h : Hp) : Option (Hp) := (if (h.1 x2 6) ≤ x3 then lt (x1 + 1) (fun v1 => r19 v1 h) else ck (inb x3 400) ((if ((h.1 129 (ix x3)) &&& 255) = 29 then bv (fX5_settleRead x2 x3 h) (fun h2 => bX5_settle_82 r19 r50 x1 x2 x3 h2) else bX5_settle_82 r19 r50 x1 x2 x3 h)))
def lX5_settle_50  (r19 : Int32 → Hp → Option (Hp)) : Nat → Int32 → Nat → Int32 → Hp → Option (Hp)
  | 0 => fun _ _ _ _ => none
  | n + 1 => bX5_settle_50  r19 (lX5_settle_50  r19 n)
set_option maxRecDepth 20000 in
theorem BX5_settle_50 {Z : ZT} {G : GT} {hr : Hp} (X : CX Z G cX5_settle RX5 4 2) (E : RX Z G none (none) hr) (hz : HZ Z) (r19 : Int32 → Hp → Option (Hp)) (hr19 : ∀ (x1 : Int32) (h : Hp), r19 x1 h = some hr → J Z G 4 h 19 [(0, .ref (Z.2.1 142)), (1, .int x1)] []) (r50 : Int32 → Nat → Int32 → Hp → Option (Hp)) (hr50 : ∀ (x1 : Int32) (x2 : Nat) (p2 : isL x2) (x3 : Int32) (h : Hp), r50 x1 x2 x3 h = some hr → J Z G 4 h 50 [(0, .ref (Z.2.1 142)), (1, .int x1), (2, .ref (Z.2.1 x2)), (3, .int x3)] []) (x1 : Int32) (x2 : Nat) (p2 : isL x2) (x3 : Int32) (h : Hp) (hF : bX5_settle_50  r19 r50 x1 x2 x3 h = some hr) : J Z G 4 h 50 [(0, .ref (Z.2.1 142)), (1, .int x1), (2, .ref (Z.2.1 x2)), (3, .int x3)] [] := by
  unfold bX5_settle_50 at hF
  refine j_iload_n (pc := 50) 3 X dX5_settle_50 rfl ?_
  refine j_aload_n (pc := 51) 2 X dX5_settle_51 rfl ?_
  refine j_geti (pc := 52) X dX5_settle_52 (hz _ (shL p2)) fl_X5_158 rfl ?_
  refine j_icmp_ge (pc := 55) 88 X dX5_settle_55 rfl hF (fun hF => ?_) (fun hF => ?_)
  · refine j_iinc (pc := 88) 1 (x1 + 1) (fun y => [(1, .int y), (0, .ref (Z.2.1 142)), (2, .ref (Z.2.1 x2)), (3, .int x3)]) X dX5_settle_88 rfl rfl (by decide) (fun _ => rfl) hF (fun v1 hF => ?_)
    refine j_goto (pc := 91) 19 X dX5_settle_91 rfl ?_
    refine j_lv [(0, .ref (Z.2.1 142)), (1, .int v1)] [1, 0] rfl ?_
    exact hr19 v1 h hF
  · refine j_aload_n (pc := 58) 0 X dX5_settle_58 rfl ?_
    refine j_getr (pc := 59) X dX5_settle_59 (hz _ sh_142) fl_X5_29 rfl ?_
    refine j_getr (pc := 62) X dX5_settle_62 (hz _ sh_125) fl_X5_182 rfl ?_
    refine j_iload_n (pc := 65) 3 X dX5_settle_65 rfl ?_
    refine j_iald (pc := 66) X dX5_settle_66 (hz _ sh_129) hF (fun hF => ?_)
    refine j_sipush (pc := 67) 255 X dX5_settle_67 rfl ?_
    refine j_iand (pc := 70) X dX5_settle_70 ?_
    refine j_bipush (pc := 71) 29 X dX5_settle_71 rfl ?_
    refine j_icmp_ne (pc := 73) 82 X dX5_settle_73 rfl hF (fun hF => ?_) (fun hF => ?_)
    · exact BX5_settle_82 X E hz r19 hr19 r50 hr50 x1 x2 p2 x3 h hF
    · refine j_aload_n (pc := 76) 0 X dX5_settle_76 rfl ?_
      refine j_aload_n (pc := 77) 2 X dX5_settle_77 rfl ?_
      refine j_iload_n (pc := 78) 3 X dX5_settle_78 rfl ?_
      refine j_cVv (pc := 79) (As := [.ref (Z.2.1 x2), .int x3]) (rest := []) X dX5_settle_79 ml_X5_203 ck_X5_settleRead cv_X5_settleRead (hz _ sh_142) rfl (Nat.le_of_ble_eq_true rfl) rfl (Nat.le_of_ble_eq_true rfl) rfl hF (tX5_settleRead Z x2 p2 x3 hz h) (fun h2 hF => ?_)
      exact BX5_settle_82 X E hz r19 hr19 r50 hr50 x1 x2 p2 x3 h2 hF
theorem LX5_settle_50 {Z : ZT} {G : GT} {hr : Hp} (X : CX Z G cX5_settle RX5 4 2) (E : RX Z G none (none) hr) (hz : HZ Z) (r19 : Int32 → Hp → Option (Hp)) (hr19 : ∀ (x1 : Int32) (h : Hp), r19 x1 h = some hr → J Z G 4 h 19 [(0, .ref (Z.2.1 142)), (1, .int x1)] []) : ∀ (n : Nat) (x1 : Int32) (x2 : Nat) (p2 : isL x2) (x3 : Int32) (h : Hp), lX5_settle_50  r19 n x1 x2 x3 h = some hr → J Z G 4 h 50 [(0, .ref (Z.2.1 142)), (1, .int x1), (2, .ref (Z.2.1 x2)), (3, .int x3)] [] := by
  intro n
  induction n with
  | zero => intro x1 x2 p2 x3 h hF; cases hF
  | succ n ih => intro x1 x2 p2 x3 h hF; exact BX5_settle_50 X E hz r19 hr19 (lX5_settle_50  r19 n) ih x1 x2 p2 x3 h hF
def bX5_settle_19   (r19 : Int32 → Hp → Option (Hp)) (x1 : Int32) (h : Hp) : Option (Hp) := (if (h.1 125 9) ≤ x1 then some h else ck (inb x1 10) (lt (wI h (132 + ix x1) 7 0) (fun h2 => lt (h2.1 (132 + ix x1) 5) (fun v3 => lX5_settle_50 r19 FU x1 (132 + ix x1) v3 h2))))
def lX5_settle_19   : Nat → Int32 → Hp → Option (Hp)
  | 0 => fun _ _ => none
  | n + 1 => bX5_settle_19   (lX5_settle_19   n)
set_option maxRecDepth 20000 in
theorem BX5_settle_19 {Z : ZT} {G : GT} {hr : Hp} (X : CX Z G cX5_settle RX5 4 2) (E : RX Z G none (none) hr) (hz : HZ Z)  (r19 : Int32 → Hp → Option (Hp)) (hr19 : ∀ (x1 : Int32) (h : Hp), r19 x1 h = some hr → J Z G 4 h 19 [(0, .ref (Z.2.1 142)), (1, .int x1)] []) (x1 : Int32) (h : Hp) (hF : bX5_settle_19   r19 x1 h = some hr) : J Z G 4 h 19 [(0, .ref (Z.2.1 142)), (1, .int x1)] [] := by
  unfold bX5_settle_19 at hF
  refine j_iload_n (pc := 19) 1 X dX5_settle_19 rfl ?_
  refine j_aload_n (pc := 20) 0 X dX5_settle_20 rfl ?_
  refine j_getr (pc := 21) X dX5_settle_21 (hz _ sh_142) fl_X5_29 rfl ?_
  refine j_geti (pc := 24) X dX5_settle_24 (hz _ sh_125) fl_X5_101 rfl ?_
  refine j_icmp_ge (pc := 27) 94 X dX5_settle_27 rfl hF (fun hF => ?_) (fun hF => ?_)
  · exact j_vret (pc := 94) X E dX5_settle_94 hF
  · refine j_aload_n (pc := 30) 0 X dX5_settle_30 rfl ?_
    refine j_getr (pc := 31) X dX5_settle_31 (hz _ sh_142) fl_X5_29 rfl ?_
    refine j_getr (pc := 34) X dX5_settle_34 (hz _ sh_125) fl_X5_133 rfl ?_
    refine j_iload_n (pc := 37) 1 X dX5_settle_37 rfl ?_
    refine j_aald (pc := 38) (g := fun j => 132 + j) (C := "AfterOffice$Letter") X dX5_settle_38 (hz _ sh_128) (fun _ => rfl) rfl al_128 hF (fun hb1 hF => ?_)
    refine j_astore_n (pc := 39) [(2, .ref (Z.2.1 (132 + ix x1))), (0, .ref (Z.2.1 142)), (1, .int x1)] X dX5_settle_39 (by decide) rfl ?_
    refine j_aload_n (pc := 40) 0 X dX5_settle_40 rfl ?_
    refine j_iconst (pc := 41) 0 X dX5_settle_41 rfl ?_
    refine j_puti (pc := 42) X dX5_settle_42 (hz _ (shL (is_128 hb1))) fp_X5_200 rfl hF (fun h2 hF => ?_)
    refine j_aload_n (pc := 45) 0 X dX5_settle_45 rfl ?_
    refine j_geti (pc := 46) X dX5_settle_46 (hz _ (shL (is_128 hb1))) fl_X5_152 rfl ?_
    refine j_istore_n (pc := 49) (fun y => [(3, .int y), (2, .ref (Z.2.1 (132 + ix x1))), (0, .ref (Z.2.1 142)), (1, .int x1)]) X dX5_settle_49 (by decide) (fun _ => rfl) hF (fun v3 hF => ?_)
    refine j_lv [(0, .ref (Z.2.1 142)), (1, .int x1), (2, .ref (Z.2.1 (132 + ix x1))), (3, .int v3)] [2, 3, 1, 0] rfl ?_
    exact LX5_settle_50 X E hz r19 hr19 FU x1 (132 + ix x1) (is_128 hb1) v3 h2 hF
theorem LX5_settle_19 {Z : ZT} {G : GT} {hr : Hp} (X : CX Z G cX5_settle RX5 4 2) (E : RX Z G none (none) hr) (hz : HZ Z)  : ∀ (n : Nat) (x1 : Int32) (h : Hp), lX5_settle_19   n x1 h = some hr → J Z G 4 h 19 [(0, .ref (Z.2.1 142)), (1, .int x1)] [] := by
  intro n
  induction n with
  | zero => intro x1 h hF; cases hF
  | succ n ih => intro x1 h hF; exact BX5_settle_19 X E hz  (lX5_settle_19   n) ih x1 h hF
def fX5_settle  (h : Hp) : Option (Hp) := (if (h.1 142 8) = 1 then some h else (if (h.1 142 8) = 2 then some h else lt 0 (fun v1 => lX5_settle_19 FU v1 h)))
set_option maxRecDepth 20000 in
theorem tX5_settle (Z : ZT)  (hz : HZ Z) (h : Hp) (hr : Hp) (hF : fX5_settle  h = some hr) : MC Z yX5_settle cX5_settle 4 none 2 [.ref (Z.2.1 142)] h (none) hr := by
  unfold fX5_settle at hF
  refine mc_start (by decide) (Nat.le_of_ble_eq_true rfl) (fun G X E => ?_)
  refine j_aload_n (pc := 0) 0 X dX5_settle_0 rfl ?_
  refine j_geti (pc := 1) X dX5_settle_1 (hz _ sh_142) fl_X5_50 rfl ?_
  refine j_iconst (pc := 4) 1 X dX5_settle_4 rfl ?_
  refine j_icmp_eq (pc := 5) 16 X dX5_settle_5 rfl hF (fun hF => ?_) (fun hF => ?_)
  · exact j_vret (pc := 16) X E dX5_settle_16 hF
  · refine j_aload_n (pc := 8) 0 X dX5_settle_8 rfl ?_
    refine j_geti (pc := 9) X dX5_settle_9 (hz _ sh_142) fl_X5_50 rfl ?_
    refine j_iconst (pc := 12) 2 X dX5_settle_12 rfl ?_
    refine j_icmp_ne (pc := 13) 17 X dX5_settle_13 rfl hF (fun hF => ?_) (fun hF => ?_)
    · refine j_iconst (pc := 17) 0 X dX5_settle_17 rfl ?_
      refine j_istore_n (pc := 18) (fun y => [(1, .int y), (0, .ref (Z.2.1 142))]) X dX5_settle_18 (by decide) (fun _ => rfl) hF (fun v1 hF => ?_)
      refine j_lv [(0, .ref (Z.2.1 142)), (1, .int v1)] [1, 0] rfl ?_
      exact LX5_settle_19 X E hz FU v1 h hF
    · exact j_vret (pc := 16) X E dX5_settle_16 hF
theorem dX6_fillTables_0 : decode cX6_fillTables 0 = .ok (.iconst 0, 1) := by decide +kernel
theorem dX6_fillTables_1 : decode cX6_fillTables 1 = .ok (.istore_n 1, 1) := by decide +kernel
theorem dX6_fillTables_2 : decode cX6_fillTables 2 = .ok (.iload_n 1, 1) := by decide +kernel
theorem dX6_fillTables_3 : decode cX6_fillTables 3 = .ok (.bipush 60, 2) := by decide +kernel
theorem dX6_fillTables_5 : decode cX6_fillTables 5 = .ok (.if_icmp .ge 108, 3) := by decide +kernel
theorem dX6_fillTables_8 : decode cX6_fillTables 8 = .ok (.iconst 0, 1) := by decide +kernel
theorem dX6_fillTables_9 : decode cX6_fillTables 9 = .ok (.istore_n 2, 1) := by decide +kernel
theorem dX6_fillTables_10 : decode cX6_fillTables 10 = .ok (.iload_n 2, 1) := by decide +kernel
theorem dX6_fillTables_11 : decode cX6_fillTables 11 = .ok (.aload_n 0, 1) := by decide +kernel
theorem dX6_fillTables_12 : decode cX6_fillTables 12 = .ok (.getfield 24, 3) := by decide +kernel
theorem dX6_fillTables_15 : decode cX6_fillTables 15 = .ok (.getfield 28, 3) := by decide +kernel
theorem dX6_fillTables_18 : decode cX6_fillTables 18 = .ok (.if_icmp .ge 47, 3) := by decide +kernel
theorem dX6_fillTables_21 : decode cX6_fillTables 21 = .ok (.aload_n 0, 1) := by decide +kernel
theorem dX6_fillTables_22 : decode cX6_fillTables 22 = .ok (.bipush 22, 2) := by decide +kernel
theorem dX6_fillTables_24 : decode cX6_fillTables 24 = .ok (.iload_n 1, 1) := by decide +kernel
theorem dX6_fillTables_25 : decode cX6_fillTables 25 = .ok (.aload_n 0, 1) := by decide +kernel
theorem dX6_fillTables_26 : decode cX6_fillTables 26 = .ok (.getfield 24, 3) := by decide +kernel
theorem dX6_fillTables_29 : decode cX6_fillTables 29 = .ok (.getfield 34, 3) := by decide +kernel
theorem dX6_fillTables_32 : decode cX6_fillTables 32 = .ok (.iload_n 2, 1) := by decide +kernel
theorem dX6_fillTables_33 : decode cX6_fillTables 33 = .ok (.iaload, 1) := by decide +kernel
theorem dX6_fillTables_34 : decode cX6_fillTables 34 = .ok (.iload_n 1, 1) := by decide +kernel
theorem dX6_fillTables_35 : decode cX6_fillTables 35 = .ok (.iadd, 1) := by decide +kernel
theorem dX6_fillTables_36 : decode cX6_fillTables 36 = .ok (.iconst 0, 1) := by decide +kernel
theorem dX6_fillTables_37 : decode cX6_fillTables 37 = .ok (.iconst 0, 1) := by decide +kernel
theorem dX6_fillTables_38 : decode cX6_fillTables 38 = .ok (.invokevirtual 37, 3) := by decide +kernel
theorem dX6_fillTables_41 : decode cX6_fillTables 41 = .ok (.istore_n 3, 1) := by decide +kernel
theorem dX6_fillTables_42 : decode cX6_fillTables 42 = .ok (.aload_n 0, 1) := by decide +kernel
theorem dX6_fillTables_43 : decode cX6_fillTables 43 = .ok (.getfield 18, 3) := by decide +kernel
theorem dX6_fillTables_46 : decode cX6_fillTables 46 = .ok (.iload_n 2, 1) := by decide +kernel
theorem dX6_fillTables_47 : decode cX6_fillTables 47 = .ok (.bipush 60, 2) := by decide +kernel
theorem dX6_fillTables_49 : decode cX6_fillTables 49 = .ok (.imul, 1) := by decide +kernel
theorem dX6_fillTables_50 : decode cX6_fillTables 50 = .ok (.iload_n 1, 1) := by decide +kernel
theorem dX6_fillTables_51 : decode cX6_fillTables 51 = .ok (.iadd, 1) := by decide +kernel
theorem dX6_fillTables_52 : decode cX6_fillTables 52 = .ok (.iload_n 3, 1) := by decide +kernel
theorem dX6_fillTables_53 : decode cX6_fillTables 53 = .ok (.bipush 100, 2) := by decide +kernel
theorem dX6_fillTables_55 : decode cX6_fillTables 55 = .ok (.invokestatic 41, 3) := by decide +kernel
theorem dX6_fillTables_58 : decode cX6_fillTables 58 = .ok (.iastore, 1) := by decide +kernel
theorem dX6_fillTables_59 : decode cX6_fillTables 59 = .ok (.iinc 2 1, 3) := by decide +kernel
theorem dX6_fillTables_62 : decode cX6_fillTables 62 = .ok (.goto (-52), 3) := by decide +kernel
theorem dX6_fillTables_65 : decode cX6_fillTables 65 = .ok (.iconst 0, 1) := by decide +kernel
theorem dX6_fillTables_66 : decode cX6_fillTables 66 = .ok (.istore_n 2, 1) := by decide +kernel
theorem dX6_fillTables_67 : decode cX6_fillTables 67 = .ok (.iload_n 2, 1) := by decide +kernel
theorem dX6_fillTables_68 : decode cX6_fillTables 68 = .ok (.iconst 4, 1) := by decide +kernel
theorem dX6_fillTables_69 : decode cX6_fillTables 69 = .ok (.if_icmp .ge 38, 3) := by decide +kernel
theorem dX6_fillTables_72 : decode cX6_fillTables 72 = .ok (.aload_n 0, 1) := by decide +kernel
theorem dX6_fillTables_73 : decode cX6_fillTables 73 = .ok (.bipush 23, 2) := by decide +kernel
theorem dX6_fillTables_75 : decode cX6_fillTables 75 = .ok (.iload_n 1, 1) := by decide +kernel
theorem dX6_fillTables_76 : decode cX6_fillTables 76 = .ok (.iconst 0, 1) := by decide +kernel
theorem dX6_fillTables_77 : decode cX6_fillTables 77 = .ok (.iload_n 2, 1) := by decide +kernel
theorem dX6_fillTables_78 : decode cX6_fillTables 78 = .ok (.iconst 0, 1) := by decide +kernel
theorem dX6_fillTables_79 : decode cX6_fillTables 79 = .ok (.invokevirtual 37, 3) := by decide +kernel
theorem dX6_fillTables_82 : decode cX6_fillTables 82 = .ok (.istore_n 3, 1) := by decide +kernel
theorem dX6_fillTables_83 : decode cX6_fillTables 83 = .ok (.aload_n 0, 1) := by decide +kernel
theorem dX6_fillTables_84 : decode cX6_fillTables 84 = .ok (.getfield 21, 3) := by decide +kernel
theorem dX6_fillTables_87 : decode cX6_fillTables 87 = .ok (.iload_n 2, 1) := by decide +kernel
theorem dX6_fillTables_88 : decode cX6_fillTables 88 = .ok (.bipush 60, 2) := by decide +kernel
theorem dX6_fillTables_90 : decode cX6_fillTables 90 = .ok (.imul, 1) := by decide +kernel
theorem dX6_fillTables_91 : decode cX6_fillTables 91 = .ok (.iload_n 1, 1) := by decide +kernel
theorem dX6_fillTables_92 : decode cX6_fillTables 92 = .ok (.iadd, 1) := by decide +kernel
theorem dX6_fillTables_93 : decode cX6_fillTables 93 = .ok (.iload_n 3, 1) := by decide +kernel
theorem dX6_fillTables_94 : decode cX6_fillTables 94 = .ok (.sipush 999, 3) := by decide +kernel
theorem dX6_fillTables_97 : decode cX6_fillTables 97 = .ok (.invokestatic 41, 3) := by decide +kernel
theorem dX6_fillTables_100 : decode cX6_fillTables 100 = .ok (.iastore, 1) := by decide +kernel
theorem dX6_fillTables_101 : decode cX6_fillTables 101 = .ok (.iinc 2 1, 3) := by decide +kernel
theorem dX6_fillTables_104 : decode cX6_fillTables 104 = .ok (.goto (-37), 3) := by decide +kernel
theorem dX6_fillTables_107 : decode cX6_fillTables 107 = .ok (.iinc 1 1, 3) := by decide +kernel
theorem dX6_fillTables_110 : decode cX6_fillTables 110 = .ok (.goto (-108), 3) := by decide +kernel
theorem dX6_fillTables_113 : decode cX6_fillTables 113 = .ok (.return_, 1) := by decide +kernel
def bX6_fillTables_67  (r2 : Int32 → Hp → Option (Hp)) (r67 : Int32 → Int32 → Hp → Option (Hp)) (x1 : Int32) (x2 : Int32) (h : Hp) : Option (Hp) := (if 4 ≤ x2 then lt (x1 + 1) (fun v1 => r2 v1 h) else bi (fX6_ruled 23 x1 0 x2 0 h) (fun w3 h2 => lt w3 (fun v4 => bi (fX11_keepTo v4 999 h2) (fun w6 h5 => ck (inb ((x2 * 60) + x1) 240) (lt (wI h5 151 (ix ((x2 * 60) + x1)) w6) (fun h7 => lt (x2 + 1) (fun v8 => r67 x1 v8 h7)))))))
def lX6_fillTables_67  (r2 : Int32 → Hp → Option (Hp)) : Nat → Int32 → Int32 → Hp → Option (Hp)
  | 0 => fun _ _ _ => none
  | n + 1 => bX6_fillTables_67  r2 (lX6_fillTables_67  r2 n)
set_option maxRecDepth 20000 in
theorem BX6_fillTables_67 {Z : ZT} {G : GT} {hr : Hp} (X : CX Z G cX6_fillTables RX6 4 3) (E : RX Z G none (none) hr) (hz : HZ Z) (r2 : Int32 → Hp → Option (Hp)) (hr2 : ∀ (x1 : Int32) (h : Hp), r2 x1 h = some hr → J Z G 4 h 2 [(0, .ref (Z.2.1 147)), (1, .int x1)] []) (r67 : Int32 → Int32 → Hp → Option (Hp)) (hr67 : ∀ (x1 : Int32) (x2 : Int32) (h : Hp), r67 x1 x2 h = some hr → J Z G 4 h 67 [(0, .ref (Z.2.1 147)), (1, .int x1), (2, .int x2)] []) (x1 : Int32) (x2 : Int32) (h : Hp) (hF : bX6_fillTables_67  r2 r67 x1 x2 h = some hr) : J Z G 4 h 67 [(0, .ref (Z.2.1 147)), (1, .int x1), (2, .int x2)] [] := by
  unfold bX6_fillTables_67 at hF
  refine j_iload_n (pc := 67) 2 X dX6_fillTables_67 rfl ?_
  refine j_iconst (pc := 68) 4 X dX6_fillTables_68 rfl ?_
  refine j_icmp_ge (pc := 69) 107 X dX6_fillTables_69 rfl hF (fun hF => ?_) (fun hF => ?_)
  · refine j_iinc (pc := 107) 1 (x1 + 1) (fun y => [(1, .int y), (0, .ref (Z.2.1 147)), (2, .int x2)]) X dX6_fillTables_107 rfl rfl (by decide) (fun _ => rfl) hF (fun v1 hF => ?_)
    refine j_goto (pc := 110) 2 X dX6_fillTables_110 rfl ?_
    refine j_lv [(0, .ref (Z.2.1 147)), (1, .int v1)] [1, 0] rfl ?_
    exact hr2 v1 h hF
  · refine j_aload_n (pc := 72) 0 X dX6_fillTables_72 rfl ?_
    refine j_bipush (pc := 73) 23 X dX6_fillTables_73 rfl ?_
    refine j_iload_n (pc := 75) 1 X dX6_fillTables_75 rfl ?_
    refine j_iconst (pc := 76) 0 X dX6_fillTables_76 rfl ?_
    refine j_iload_n (pc := 77) 2 X dX6_fillTables_77 rfl ?_
    refine j_iconst (pc := 78) 0 X dX6_fillTables_78 rfl ?_
    refine j_cVi (pc := 79) (As := [.int 23, .int x1, .int 0, .int x2, .int 0]) (rest := []) X dX6_fillTables_79 ml_X6_37 ck_X6_ruled cv_X6_ruled (hz _ sh_147) rfl (Nat.le_of_ble_eq_true rfl) rfl (Nat.le_of_ble_eq_true rfl) rfl hF (tX6_ruled Z 23 x1 0 x2 0 hz h) (fun w3 h2 hF => ?_)
    refine j_istore_n (pc := 82) (fun y => [(3, .int y), (0, .ref (Z.2.1 147)), (1, .int x1), (2, .int x2)]) X dX6_fillTables_82 (by decide) (fun _ => rfl) hF (fun v4 hF => ?_)
    refine j_aload_n (pc := 83) 1 X dX6_fillTables_83 rfl ?_
    refine j_getr (pc := 84) X dX6_fillTables_84 (hz _ sh_147) fl_X6_21 rfl ?_
    refine j_iload_n (pc := 87) 3 X dX6_fillTables_87 rfl ?_
    refine j_bipush (pc := 88) 60 X dX6_fillTables_88 rfl ?_
    refine j_imul (pc := 90) X dX6_fillTables_90 ?_
    refine j_iload_n (pc := 91) 2 X dX6_fillTables_91 rfl ?_
    refine j_iadd (pc := 92) X dX6_fillTables_92 ?_
    refine j_iload_n (pc := 93) 0 X dX6_fillTables_93 rfl ?_
    refine j_sipush (pc := 94) 999 X dX6_fillTables_94 rfl ?_
    refine j_cSNi (pc := 97) (As := [.int v4, .int 999]) (rest := [.int ((x2 * 60) + x1), .ref (Z.2.1 151)]) X dX6_fillTables_97 ml_X6_41 ck_X11_keepTo sk_X11_keepTo (Nat.le_of_ble_eq_true rfl) rfl (Nat.le_of_ble_eq_true rfl) rfl hF (tX11_keepTo Z v4 999 trivial h2) (fun w6 h5 hF => ?_)
    refine j_iast (pc := 100) X dX6_fillTables_100 (hz _ sh_151) hF (fun h7 hF => ?_)
    refine j_iinc (pc := 101) 3 (x2 + 1) (fun y => [(2, .int y), (3, .int v4), (0, .ref (Z.2.1 147)), (1, .int x1)]) X dX6_fillTables_101 rfl rfl (by decide) (fun _ => rfl) hF (fun v8 hF => ?_)
    refine j_goto (pc := 104) 67 X dX6_fillTables_104 rfl ?_
    refine j_lv [(0, .ref (Z.2.1 147)), (1, .int x1), (2, .int v8)] [2, 3, 0] rfl ?_
    exact hr67 x1 v8 h7 hF
theorem LX6_fillTables_67 {Z : ZT} {G : GT} {hr : Hp} (X : CX Z G cX6_fillTables RX6 4 3) (E : RX Z G none (none) hr) (hz : HZ Z) (r2 : Int32 → Hp → Option (Hp)) (hr2 : ∀ (x1 : Int32) (h : Hp), r2 x1 h = some hr → J Z G 4 h 2 [(0, .ref (Z.2.1 147)), (1, .int x1)] []) : ∀ (n : Nat) (x1 : Int32) (x2 : Int32) (h : Hp), lX6_fillTables_67  r2 n x1 x2 h = some hr → J Z G 4 h 67 [(0, .ref (Z.2.1 147)), (1, .int x1), (2, .int x2)] [] := by
  intro n
  induction n with
  | zero => intro x1 x2 h hF; cases hF
  | succ n ih => intro x1 x2 h hF; exact BX6_fillTables_67 X E hz r2 hr2 (lX6_fillTables_67  r2 n) ih x1 x2 h hF
def bX6_fillTables_10  (r2 : Int32 → Hp → Option (Hp)) (r10 : Int32 → Int32 → Hp → Option (Hp)) (x1 : Int32) (x2 : Int32) (h : Hp) : Option (Hp) := (if (h.1 108 6) ≤ x2 then lt 0 (fun v1 => lX6_fillTables_67 r2 FU x1 v1 h) else ck (inb x2 10) (bi (fX6_ruled 22 x1 ((h.1 109 (ix x2)) + x1) 0 0 h) (fun w3 h2 => lt w3 (fun v4 => bi (fX11_keepTo v4 100 h2) (fun w6 h5 => ck (inb ((x2 * 60) + x1) 600) (lt (wI h5 150 (ix ((x2 * 60) + x1)) w6) (fun h7 => lt (x2 + 1) (fun v8 => r10 x1 v8 h7))))))))
def lX6_fillTables_10  (r2 : Int32 → Hp → Option (Hp)) : Nat → Int32 → Int32 → Hp → Option (Hp)
  | 0 => fun _ _ _ => none
  | n + 1 => bX6_fillTables_10  r2 (lX6_fillTables_10  r2 n)
set_option maxRecDepth 20000 in
theorem BX6_fillTables_10 {Z : ZT} {G : GT} {hr : Hp} (X : CX Z G cX6_fillTables RX6 4 3) (E : RX Z G none (none) hr) (hz : HZ Z) (r2 : Int32 → Hp → Option (Hp)) (hr2 : ∀ (x1 : Int32) (h : Hp), r2 x1 h = some hr → J Z G 4 h 2 [(0, .ref (Z.2.1 147)), (1, .int x1)] []) (r10 : Int32 → Int32 → Hp → Option (Hp)) (hr10 : ∀ (x1 : Int32) (x2 : Int32) (h : Hp), r10 x1 x2 h = some hr → J Z G 4 h 10 [(0, .ref (Z.2.1 147)), (1, .int x1), (2, .int x2)] []) (x1 : Int32) (x2 : Int32) (h : Hp) (hF : bX6_fillTables_10  r2 r10 x1 x2 h = some hr) : J Z G 4 h 10 [(0, .ref (Z.2.1 147)), (1, .int x1), (2, .int x2)] [] := by
  unfold bX6_fillTables_10 at hF
  refine j_iload_n (pc := 10) 2 X dX6_fillTables_10 rfl ?_
  refine j_aload_n (pc := 11) 0 X dX6_fillTables_11 rfl ?_
  refine j_getr (pc := 12) X dX6_fillTables_12 (hz _ sh_147) fl_X6_24 rfl ?_
  refine j_geti (pc := 15) X dX6_fillTables_15 (hz _ sh_108) fl_X6_28 rfl ?_
  refine j_icmp_ge (pc := 18) 65 X dX6_fillTables_18 rfl hF (fun hF => ?_) (fun hF => ?_)
  · refine j_iconst (pc := 65) 0 X dX6_fillTables_65 rfl ?_
    refine j_istore_n (pc := 66) (fun y => [(2, .int y), (0, .ref (Z.2.1 147)), (1, .int x1)]) X dX6_fillTables_66 (by decide) (fun _ => rfl) hF (fun v1 hF => ?_)
    refine j_lv [(0, .ref (Z.2.1 147)), (1, .int x1), (2, .int v1)] [1, 2, 0] rfl ?_
    exact LX6_fillTables_67 X E hz r2 hr2 FU x1 v1 h hF
  · refine j_aload_n (pc := 21) 0 X dX6_fillTables_21 rfl ?_
    refine j_bipush (pc := 22) 22 X dX6_fillTables_22 rfl ?_
    refine j_iload_n (pc := 24) 1 X dX6_fillTables_24 rfl ?_
    refine j_aload_n (pc := 25) 0 X dX6_fillTables_25 rfl ?_
    refine j_getr (pc := 26) X dX6_fillTables_26 (hz _ sh_147) fl_X6_24 rfl ?_
    refine j_getr (pc := 29) X dX6_fillTables_29 (hz _ sh_108) fl_X6_34 rfl ?_
    refine j_iload_n (pc := 32) 2 X dX6_fillTables_32 rfl ?_
    refine j_iald (pc := 33) X dX6_fillTables_33 (hz _ sh_109) hF (fun hF => ?_)
    refine j_iload_n (pc := 34) 1 X dX6_fillTables_34 rfl ?_
    refine j_iadd (pc := 35) X dX6_fillTables_35 ?_
    refine j_iconst (pc := 36) 0 X dX6_fillTables_36 rfl ?_
    refine j_iconst (pc := 37) 0 X dX6_fillTables_37 rfl ?_
    refine j_cVi (pc := 38) (As := [.int 22, .int x1, .int ((h.1 109 (ix x2)) + x1), .int 0, .int 0]) (rest := []) X dX6_fillTables_38 ml_X6_37 ck_X6_ruled cv_X6_ruled (hz _ sh_147) rfl (Nat.le_of_ble_eq_true rfl) rfl (Nat.le_of_ble_eq_true rfl) rfl hF (tX6_ruled Z 22 x1 ((h.1 109 (ix x2)) + x1) 0 0 hz h) (fun w3 h2 hF => ?_)
    refine j_istore_n (pc := 41) (fun y => [(3, .int y), (0, .ref (Z.2.1 147)), (1, .int x1), (2, .int x2)]) X dX6_fillTables_41 (by decide) (fun _ => rfl) hF (fun v4 hF => ?_)
    refine j_aload_n (pc := 42) 1 X dX6_fillTables_42 rfl ?_
    refine j_getr (pc := 43) X dX6_fillTables_43 (hz _ sh_147) fl_X6_18 rfl ?_
    refine j_iload_n (pc := 46) 3 X dX6_fillTables_46 rfl ?_
    refine j_bipush (pc := 47) 60 X dX6_fillTables_47 rfl ?_
    refine j_imul (pc := 49) X dX6_fillTables_49 ?_
    refine j_iload_n (pc := 50) 2 X dX6_fillTables_50 rfl ?_
    refine j_iadd (pc := 51) X dX6_fillTables_51 ?_
    refine j_iload_n (pc := 52) 0 X dX6_fillTables_52 rfl ?_
    refine j_bipush (pc := 53) 100 X dX6_fillTables_53 rfl ?_
    refine j_cSNi (pc := 55) (As := [.int v4, .int 100]) (rest := [.int ((x2 * 60) + x1), .ref (Z.2.1 150)]) X dX6_fillTables_55 ml_X6_41 ck_X11_keepTo sk_X11_keepTo (Nat.le_of_ble_eq_true rfl) rfl (Nat.le_of_ble_eq_true rfl) rfl hF (tX11_keepTo Z v4 100 trivial h2) (fun w6 h5 hF => ?_)
    refine j_iast (pc := 58) X dX6_fillTables_58 (hz _ sh_150) hF (fun h7 hF => ?_)
    refine j_iinc (pc := 59) 3 (x2 + 1) (fun y => [(2, .int y), (3, .int v4), (0, .ref (Z.2.1 147)), (1, .int x1)]) X dX6_fillTables_59 rfl rfl (by decide) (fun _ => rfl) hF (fun v8 hF => ?_)
    refine j_goto (pc := 62) 10 X dX6_fillTables_62 rfl ?_
    refine j_lv [(0, .ref (Z.2.1 147)), (1, .int x1), (2, .int v8)] [2, 3, 0] rfl ?_
    exact hr10 x1 v8 h7 hF
theorem LX6_fillTables_10 {Z : ZT} {G : GT} {hr : Hp} (X : CX Z G cX6_fillTables RX6 4 3) (E : RX Z G none (none) hr) (hz : HZ Z) (r2 : Int32 → Hp → Option (Hp)) (hr2 : ∀ (x1 : Int32) (h : Hp), r2 x1 h = some hr → J Z G 4 h 2 [(0, .ref (Z.2.1 147)), (1, .int x1)] []) : ∀ (n : Nat) (x1 : Int32) (x2 : Int32) (h : Hp), lX6_fillTables_10  r2 n x1 x2 h = some hr → J Z G 4 h 10 [(0, .ref (Z.2.1 147)), (1, .int x1), (2, .int x2)] [] := by
  intro n
  induction n with
  | zero => intro x1 x2 h hF; cases hF
  | succ n ih => intro x1 x2 h hF; exact BX6_fillTables_10 X E hz r2 hr2 (lX6_fillTables_10  r2 n) ih x1 x2 h hF
def bX6_fillTables_2   (r2 : Int32 → Hp → Option (Hp)) (x1 : Int32) (h : Hp) : Option (Hp) := (if 60 ≤ x1 then some h else lt 0 (fun v1 => lX6_fillTables_10 r2 FU x1 v1 h))
def lX6_fillTables_2   : Nat → Int32 → Hp → Option (Hp)
  | 0 => fun _ _ => none
  | n + 1 => bX6_fillTables_2   (lX6_fillTables_2   n)
set_option maxRecDepth 20000 in
theorem BX6_fillTables_2 {Z : ZT} {G : GT} {hr : Hp} (X : CX Z G cX6_fillTables RX6 4 3) (E : RX Z G none (none) hr) (hz : HZ Z)  (r2 : Int32 → Hp → Option (Hp)) (hr2 : ∀ (x1 : Int32) (h : Hp), r2 x1 h = some hr → J Z G 4 h 2 [(0, .ref (Z.2.1 147)), (1, .int x1)] []) (x1 : Int32) (h : Hp) (hF : bX6_fillTables_2   r2 x1 h = some hr) : J Z G 4 h 2 [(0, .ref (Z.2.1 147)), (1, .int x1)] [] := by
  unfold bX6_fillTables_2 at hF
  refine j_iload_n (pc := 2) 1 X dX6_fillTables_2 rfl ?_
  refine j_bipush (pc := 3) 60 X dX6_fillTables_3 rfl ?_
  refine j_icmp_ge (pc := 5) 113 X dX6_fillTables_5 rfl hF (fun hF => ?_) (fun hF => ?_)
  · exact j_vret (pc := 113) X E dX6_fillTables_113 hF
  · refine j_iconst (pc := 8) 0 X dX6_fillTables_8 rfl ?_
    refine j_istore_n (pc := 9) (fun y => [(2, .int y), (0, .ref (Z.2.1 147)), (1, .int x1)]) X dX6_fillTables_9 (by decide) (fun _ => rfl) hF (fun v1 hF => ?_)
    refine j_lv [(0, .ref (Z.2.1 147)), (1, .int x1), (2, .int v1)] [1, 2, 0] rfl ?_
    exact LX6_fillTables_10 X E hz r2 hr2 FU x1 v1 h hF
theorem LX6_fillTables_2 {Z : ZT} {G : GT} {hr : Hp} (X : CX Z G cX6_fillTables RX6 4 3) (E : RX Z G none (none) hr) (hz : HZ Z)  : ∀ (n : Nat) (x1 : Int32) (h : Hp), lX6_fillTables_2   n x1 h = some hr → J Z G 4 h 2 [(0, .ref (Z.2.1 147)), (1, .int x1)] [] := by
  intro n
  induction n with
  | zero => intro x1 h hF; cases hF
  | succ n ih => intro x1 h hF; exact BX6_fillTables_2 X E hz  (lX6_fillTables_2   n) ih x1 h hF
def fX6_fillTables  (h : Hp) : Option (Hp) := lt 0 (fun v1 => lX6_fillTables_2 FU v1 h)
set_option maxRecDepth 20000 in
theorem tX6_fillTables (Z : ZT)  (hz : HZ Z) (h : Hp) (hr : Hp) (hF : fX6_fillTables  h = some hr) : MC Z yX6_fillTables cX6_fillTables 4 none 3 [.ref (Z.2.1 147)] h (none) hr := by
  unfold fX6_fillTables at hF
  refine mc_start (by decide) (Nat.le_of_ble_eq_true rfl) (fun G X E => ?_)
  refine j_iconst (pc := 0) 0 X dX6_fillTables_0 rfl ?_
  refine j_istore_n (pc := 1) (fun y => [(1, .int y), (0, .ref (Z.2.1 147))]) X dX6_fillTables_1 (by decide) (fun _ => rfl) hF (fun v1 hF => ?_)
  refine j_lv [(0, .ref (Z.2.1 147)), (1, .int v1)] [1, 0] rfl ?_
  exact LX6_fillTables_2 X E hz FU v1 h hF
theorem dX7_follow_0 : decode cX7_follow 0 = .ok (.iconst 0, 1) := by decide +kernel
theorem dX7_follow_1 : decode cX7_follow 1 = .ok (.istore_n 1, 1) := by decide +kernel
theorem dX7_follow_2 : decode cX7_follow 2 = .ok (.iload_n 1, 1) := by decide +kernel
theorem dX7_follow_3 : decode cX7_follow 3 = .ok (.aload_n 0, 1) := by decide +kernel
theorem dX7_follow_4 : decode cX7_follow 4 = .ok (.getfield 15, 3) := by decide +kernel
theorem dX7_follow_7 : decode cX7_follow 7 = .ok (.getfield 19, 3) := by decide +kernel
theorem dX7_follow_10 : decode cX7_follow 10 = .ok (.if_icmp .ge 27, 3) := by decide +kernel
theorem dX7_follow_13 : decode cX7_follow 13 = .ok (.aload_n 0, 1) := by decide +kernel
theorem dX7_follow_14 : decode cX7_follow 14 = .ok (.getfield 9, 3) := by decide +kernel
theorem dX7_follow_17 : decode cX7_follow 17 = .ok (.iload_n 1, 1) := by decide +kernel
theorem dX7_follow_18 : decode cX7_follow 18 = .ok (.aload_n 0, 1) := by decide +kernel
theorem dX7_follow_19 : decode cX7_follow 19 = .ok (.getfield 15, 3) := by decide +kernel
theorem dX7_follow_22 : decode cX7_follow 22 = .ok (.getfield 25, 3) := by decide +kernel
theorem dX7_follow_25 : decode cX7_follow 25 = .ok (.iload_n 1, 1) := by decide +kernel
theorem dX7_follow_26 : decode cX7_follow 26 = .ok (.aaload, 1) := by decide +kernel
theorem dX7_follow_27 : decode cX7_follow 27 = .ok (.getfield 29, 3) := by decide +kernel
theorem dX7_follow_30 : decode cX7_follow 30 = .ok (.iastore, 1) := by decide +kernel
theorem dX7_follow_31 : decode cX7_follow 31 = .ok (.iinc 1 1, 3) := by decide +kernel
theorem dX7_follow_34 : decode cX7_follow 34 = .ok (.goto (-32), 3) := by decide +kernel
theorem dX7_follow_37 : decode cX7_follow 37 = .ok (.iconst 0, 1) := by decide +kernel
theorem dX7_follow_38 : decode cX7_follow 38 = .ok (.istore_n 1, 1) := by decide +kernel
theorem dX7_follow_39 : decode cX7_follow 39 = .ok (.iload_n 1, 1) := by decide +kernel
theorem dX7_follow_40 : decode cX7_follow 40 = .ok (.aload_n 0, 1) := by decide +kernel
theorem dX7_follow_41 : decode cX7_follow 41 = .ok (.getfield 15, 3) := by decide +kernel
theorem dX7_follow_44 : decode cX7_follow 44 = .ok (.getfield 19, 3) := by decide +kernel
theorem dX7_follow_47 : decode cX7_follow 47 = .ok (.if_icmp .ge 56, 3) := by decide +kernel
theorem dX7_follow_50 : decode cX7_follow 50 = .ok (.iconst 0, 1) := by decide +kernel
theorem dX7_follow_51 : decode cX7_follow 51 = .ok (.istore_n 2, 1) := by decide +kernel
theorem dX7_follow_52 : decode cX7_follow 52 = .ok (.iload_n 2, 1) := by decide +kernel
theorem dX7_follow_53 : decode cX7_follow 53 = .ok (.aload_n 0, 1) := by decide +kernel
theorem dX7_follow_54 : decode cX7_follow 54 = .ok (.getfield 15, 3) := by decide +kernel
theorem dX7_follow_57 : decode cX7_follow 57 = .ok (.getfield 19, 3) := by decide +kernel
theorem dX7_follow_60 : decode cX7_follow 60 = .ok (.if_icmp .ge 37, 3) := by decide +kernel
theorem dX7_follow_63 : decode cX7_follow 63 = .ok (.aload_n 0, 1) := by decide +kernel
theorem dX7_follow_64 : decode cX7_follow 64 = .ok (.getfield 9, 3) := by decide +kernel
theorem dX7_follow_67 : decode cX7_follow 67 = .ok (.iload_n 2, 1) := by decide +kernel
theorem dX7_follow_68 : decode cX7_follow 68 = .ok (.iaload, 1) := by decide +kernel
theorem dX7_follow_69 : decode cX7_follow 69 = .ok (.iload_n 1, 1) := by decide +kernel
theorem dX7_follow_70 : decode cX7_follow 70 = .ok (.invokestatic 34, 3) := by decide +kernel
theorem dX7_follow_73 : decode cX7_follow 73 = .ok (.ifCond .eq 18, 3) := by decide +kernel
theorem dX7_follow_76 : decode cX7_follow 76 = .ok (.aload_n 0, 1) := by decide +kernel
theorem dX7_follow_77 : decode cX7_follow 77 = .ok (.getfield 9, 3) := by decide +kernel
theorem dX7_follow_80 : decode cX7_follow 80 = .ok (.iload_n 2, 1) := by decide +kernel
theorem dX7_follow_81 : decode cX7_follow 81 = .ok (.dup2, 1) := by decide +kernel
theorem dX7_follow_82 : decode cX7_follow 82 = .ok (.iaload, 1) := by decide +kernel
theorem dX7_follow_83 : decode cX7_follow 83 = .ok (.aload_n 0, 1) := by decide +kernel
theorem dX7_follow_84 : decode cX7_follow 84 = .ok (.getfield 9, 3) := by decide +kernel
theorem dX7_follow_87 : decode cX7_follow 87 = .ok (.iload_n 1, 1) := by decide +kernel
theorem dX7_follow_88 : decode cX7_follow 88 = .ok (.iaload, 1) := by decide +kernel
theorem dX7_follow_89 : decode cX7_follow 89 = .ok (.ior, 1) := by decide +kernel
theorem dX7_follow_90 : decode cX7_follow 90 = .ok (.iastore, 1) := by decide +kernel
theorem dX7_follow_91 : decode cX7_follow 91 = .ok (.iinc 2 1, 3) := by decide +kernel
theorem dX7_follow_94 : decode cX7_follow 94 = .ok (.goto (-42), 3) := by decide +kernel
theorem dX7_follow_97 : decode cX7_follow 97 = .ok (.iinc 1 1, 3) := by decide +kernel
theorem dX7_follow_100 : decode cX7_follow 100 = .ok (.goto (-61), 3) := by decide +kernel
theorem dX7_follow_103 : decode cX7_follow 103 = .ok (.return_, 1) := by decide +kernel
def bX7_follow_91  (r39 : Int32 → Hp → Option (Hp)) (r52 : Int32 → Int32 → Hp → Option (Hp)) (x1 : Int32) (x2 : Int32) (h : Hp) : Option (Hp) := lt (x2 + 1) (fun v1 => r52 x1 v1 h)
set_option maxRecDepth 20000 in
theorem BX7_follow_91 {Z : ZT} {G : GT} {hr : Hp} (X : CX Z G cX7_follow RX7 3 1) (E : RX Z G none (none) hr) (hz : HZ Z) (r39 : Int32 → Hp → Option (Hp)) (hr39 : ∀ (x1 : Int32) (h : Hp), r39 x1 h = some hr → J Z G 3 h 39 [(0, .ref (Z.2.1 209)), (1, .int x1)] []) (r52 : Int32 → Int32 → Hp → Option (Hp)) (hr52 : ∀ (x1 : Int32) (x2 : Int32) (h : Hp), r52 x1 x2 h = some hr → J Z G 3 h 52 [(0, .ref (Z.2.1 209)), (1, .int x1), (2, .int x2)] []) (x1 : Int32) (x2 : Int32) (h : Hp) (hF : bX7_follow_91  r39 r52 x1 x2 h = some hr) : J Z G 3 h 91 [(0, .ref (Z.2.1 209)), (1, .int x1), (2, .int x2)] [] := by
  unfold bX7_follow_91 at hF
  refine j_iinc (pc := 91) 2 (x2 + 1) (fun y => [(2, .int y), (0, .ref (Z.2.1 209)), (1, .int x1)]) X dX7_follow_91 rfl rfl (by decide) (fun _ => rfl) hF (fun v1 hF => ?_)
  refine j_goto (pc := 94) 52 X dX7_follow_94 rfl ?_
  refine j_lv [(0, .ref (Z.2.1 209)), (1, .int x1), (2, .int v1)] [1, 2, 0] rfl ?_
  exact hr52 x1 v1 h hF
def bX7_follow_52  (r39 : Int32 → Hp → Option (Hp)) (r52 : Int32 → Int32 → Hp → Option (Hp)) (x1 : Int32) (x2 : Int32) (h : Hp) : Option (Hp) := (if (h.1 108 9) ≤ x2 then lt (x1 + 1) (fun v1 => r39 v1 h) else ck (inb x2 10) (bi (fX11_has (h.1 210 (ix x2)) x1 h) (fun w3 h2 => (if w3 = 0 then bX7_follow_91 r39 r52 x1 x2 h2 else ck (inb x2 10) (ck (inb x1 10) (ck (inb x2 10) (lt (wI h2 210 (ix x2) ((h2.1 210 (ix x2)) ||| (h2.1 210 (ix x1)))) (fun h4 => bX7_follow_91 r39 r52 x1 x2 h4))))))))
def lX7_follow_52  (r39 : Int32 → Hp → Option (Hp)) : Nat → Int32 → Int32 → Hp → Option (Hp)
  | 0 => fun _ _ _ => none
  | n + 1 => bX7_follow_52  r39 (lX7_follow_52  r39 n)
set_option maxRecDepth 20000 in
theorem BX7_follow_52 {Z : ZT} {G : GT} {hr : Hp} (X : CX Z G cX7_follow RX7 3 1) (E : RX Z G none (none) hr) (hz : HZ Z) (r39 : Int32 → Hp → Option (Hp)) (hr39 : ∀ (x1 : Int32) (h : Hp), r39 x1 h = some hr → J Z G 3 h 39 [(0, .ref (Z.2.1 209)), (1, .int x1)] []) (r52 : Int32 → Int32 → Hp → Option (Hp)) (hr52 : ∀ (x1 : Int32) (x2 : Int32) (h : Hp), r52 x1 x2 h = some hr → J Z G 3 h 52 [(0, .ref (Z.2.1 209)), (1, .int x1), (2, .int x2)] []) (x1 : Int32) (x2 : Int32) (h : Hp) (hF : bX7_follow_52  r39 r52 x1 x2 h = some hr) : J Z G 3 h 52 [(0, .ref (Z.2.1 209)), (1, .int x1), (2, .int x2)] [] := by
  unfold bX7_follow_52 at hF
  refine j_iload_n (pc := 52) 2 X dX7_follow_52 rfl ?_
  refine j_aload_n (pc := 53) 0 X dX7_follow_53 rfl ?_
  refine j_getr (pc := 54) X dX7_follow_54 (hz _ sh_209) fl_X7_15 rfl ?_
  refine j_geti (pc := 57) X dX7_follow_57 (hz _ sh_108) fl_X7_19 rfl ?_
  refine j_icmp_ge (pc := 60) 97 X dX7_follow_60 rfl hF (fun hF => ?_) (fun hF => ?_)
  · refine j_iinc (pc := 97) 1 (x1 + 1) (fun y => [(1, .int y), (0, .ref (Z.2.1 209)), (2, .int x2)]) X dX7_follow_97 rfl rfl (by decide) (fun _ => rfl) hF (fun v1 hF => ?_)
    refine j_goto (pc := 100) 39 X dX7_follow_100 rfl ?_
    refine j_lv [(0, .ref (Z.2.1 209)), (1, .int v1)] [1, 0] rfl ?_
    exact hr39 v1 h hF
  · refine j_aload_n (pc := 63) 0 X dX7_follow_63 rfl ?_
    refine j_getr (pc := 64) X dX7_follow_64 (hz _ sh_209) fl_X7_9 rfl ?_
    refine j_iload_n (pc := 67) 2 X dX7_follow_67 rfl ?_
    refine j_iald (pc := 68) X dX7_follow_68 (hz _ sh_210) hF (fun hF => ?_)
    refine j_iload_n (pc := 69) 1 X dX7_follow_69 rfl ?_
    refine j_cSNi (pc := 70) (As := [.int (h.1 210 (ix x2)), .int x1]) (rest := []) X dX7_follow_70 ml_X7_34 ck_X11_has sk_X11_has (Nat.le_of_ble_eq_true rfl) rfl (Nat.le_of_ble_eq_true rfl) rfl hF (tX11_has Z (h.1 210 (ix x2)) x1 trivial h) (fun w3 h2 hF => ?_)
    refine j_if_eq (pc := 73) 91 X dX7_follow_73 rfl hF (fun hF => ?_) (fun hF => ?_)
    · exact BX7_follow_91 X E hz r39 hr39 r52 hr52 x1 x2 h2 hF
    · refine j_aload_n (pc := 76) 0 X dX7_follow_76 rfl ?_
      refine j_getr (pc := 77) X dX7_follow_77 (hz _ sh_209) fl_X7_9 rfl ?_
      refine j_iload_n (pc := 80) 2 X dX7_follow_80 rfl ?_
      refine j_dup2 (pc := 81) X dX7_follow_81 rfl rfl ?_
      refine j_iald (pc := 82) X dX7_follow_82 (hz _ sh_210) hF (fun hF => ?_)
      refine j_aload_n (pc := 83) 0 X dX7_follow_83 rfl ?_
      refine j_getr (pc := 84) X dX7_follow_84 (hz _ sh_209) fl_X7_9 rfl ?_
      refine j_iload_n (pc := 87) 1 X dX7_follow_87 rfl ?_
      refine j_iald (pc := 88) X dX7_follow_88 (hz _ sh_210) hF (fun hF => ?_)
      refine j_ior (pc := 89) X dX7_follow_89 ?_
      refine j_iast (pc := 90) X dX7_follow_90 (hz _ sh_210) hF (fun h4 hF => ?_)
      exact BX7_follow_91 X E hz r39 hr39 r52 hr52 x1 x2 h4 hF
theorem LX7_follow_52 {Z : ZT} {G : GT} {hr : Hp} (X : CX Z G cX7_follow RX7 3 1) (E : RX Z G none (none) hr) (hz : HZ Z) (r39 : Int32 → Hp → Option (Hp)) (hr39 : ∀ (x1 : Int32) (h : Hp), r39 x1 h = some hr → J Z G 3 h 39 [(0, .ref (Z.2.1 209)), (1, .int x1)] []) : ∀ (n : Nat) (x1 : Int32) (x2 : Int32) (h : Hp), lX7_follow_52  r39 n x1 x2 h = some hr → J Z G 3 h 52 [(0, .ref (Z.2.1 209)), (1, .int x1), (2, .int x2)] [] := by
  intro n
  induction n with
  | zero => intro x1 x2 h hF; cases hF
  | succ n ih => intro x1 x2 h hF; exact BX7_follow_52 X E hz r39 hr39 (lX7_follow_52  r39 n) ih x1 x2 h hF
def bX7_follow_39   (r39 : Int32 → Hp → Option (Hp)) (x1 : Int32) (h : Hp) : Option (Hp) := (if (h.1 108 9) ≤ x1 then some h else lt 0 (fun v1 => lX7_follow_52 r39 FU x1 v1 h))
def lX7_follow_39   : Nat → Int32 → Hp → Option (Hp)
  | 0 => fun _ _ => none
  | n + 1 => bX7_follow_39   (lX7_follow_39   n)
set_option maxRecDepth 20000 in
theorem BX7_follow_39 {Z : ZT} {G : GT} {hr : Hp} (X : CX Z G cX7_follow RX7 3 1) (E : RX Z G none (none) hr) (hz : HZ Z)  (r39 : Int32 → Hp → Option (Hp)) (hr39 : ∀ (x1 : Int32) (h : Hp), r39 x1 h = some hr → J Z G 3 h 39 [(0, .ref (Z.2.1 209)), (1, .int x1)] []) (x1 : Int32) (h : Hp) (hF : bX7_follow_39   r39 x1 h = some hr) : J Z G 3 h 39 [(0, .ref (Z.2.1 209)), (1, .int x1)] [] := by
  unfold bX7_follow_39 at hF
  refine j_iload_n (pc := 39) 1 X dX7_follow_39 rfl ?_
  refine j_aload_n (pc := 40) 0 X dX7_follow_40 rfl ?_
  refine j_getr (pc := 41) X dX7_follow_41 (hz _ sh_209) fl_X7_15 rfl ?_
  refine j_geti (pc := 44) X dX7_follow_44 (hz _ sh_108) fl_X7_19 rfl ?_
  refine j_icmp_ge (pc := 47) 103 X dX7_follow_47 rfl hF (fun hF => ?_) (fun hF => ?_)
  · exact j_vret (pc := 103) X E dX7_follow_103 hF
  · refine j_iconst (pc := 50) 0 X dX7_follow_50 rfl ?_
    refine j_istore_n (pc := 51) (fun y => [(2, .int y), (0, .ref (Z.2.1 209)), (1, .int x1)]) X dX7_follow_51 (by decide) (fun _ => rfl) hF (fun v1 hF => ?_)
    refine j_lv [(0, .ref (Z.2.1 209)), (1, .int x1), (2, .int v1)] [1, 2, 0] rfl ?_
    exact LX7_follow_52 X E hz r39 hr39 FU x1 v1 h hF
theorem LX7_follow_39 {Z : ZT} {G : GT} {hr : Hp} (X : CX Z G cX7_follow RX7 3 1) (E : RX Z G none (none) hr) (hz : HZ Z)  : ∀ (n : Nat) (x1 : Int32) (h : Hp), lX7_follow_39   n x1 h = some hr → J Z G 3 h 39 [(0, .ref (Z.2.1 209)), (1, .int x1)] [] := by
  intro n
  induction n with
  | zero => intro x1 h hF; cases hF
  | succ n ih => intro x1 h hF; exact BX7_follow_39 X E hz  (lX7_follow_39   n) ih x1 h hF
def bX7_follow_2   (r2 : Int32 → Hp → Option (Hp)) (x1 : Int32) (h : Hp) : Option (Hp) := (if (h.1 108 9) ≤ x1 then lt 0 (fun v1 => lX7_follow_39 FU v1 h) else ck (inb x1 10) (ck (inb x1 10) (lt (wI h 210 (ix x1) (h.1 (115 + ix x1) 7)) (fun h3 => lt (x1 + 1) (fun v4 => r2 v4 h3)))))
def lX7_follow_2   : Nat → Int32 → Hp → Option (Hp)
  | 0 => fun _ _ => none
  | n + 1 => bX7_follow_2   (lX7_follow_2   n)
set_option maxRecDepth 20000 in
theorem BX7_follow_2 {Z : ZT} {G : GT} {hr : Hp} (X : CX Z G cX7_follow RX7 3 1) (E : RX Z G none (none) hr) (hz : HZ Z)  (r2 : Int32 → Hp → Option (Hp)) (hr2 : ∀ (x1 : Int32) (h : Hp), r2 x1 h = some hr → J Z G 3 h 2 [(0, .ref (Z.2.1 209)), (1, .int x1)] []) (x1 : Int32) (h : Hp) (hF : bX7_follow_2   r2 x1 h = some hr) : J Z G 3 h 2 [(0, .ref (Z.2.1 209)), (1, .int x1)] [] := by
  unfold bX7_follow_2 at hF
  refine j_iload_n (pc := 2) 1 X dX7_follow_2 rfl ?_
  refine j_aload_n (pc := 3) 0 X dX7_follow_3 rfl ?_
  refine j_getr (pc := 4) X dX7_follow_4 (hz _ sh_209) fl_X7_15 rfl ?_
  refine j_geti (pc := 7) X dX7_follow_7 (hz _ sh_108) fl_X7_19 rfl ?_
  refine j_icmp_ge (pc := 10) 37 X dX7_follow_10 rfl hF (fun hF => ?_) (fun hF => ?_)
  · refine j_iconst (pc := 37) 0 X dX7_follow_37 rfl ?_
    refine j_istore_n (pc := 38) (fun y => [(1, .int y), (0, .ref (Z.2.1 209))]) X dX7_follow_38 (by decide) (fun _ => rfl) hF (fun v1 hF => ?_)
    refine j_lv [(0, .ref (Z.2.1 209)), (1, .int v1)] [1, 0] rfl ?_
    exact LX7_follow_39 X E hz FU v1 h hF
  · refine j_aload_n (pc := 13) 0 X dX7_follow_13 rfl ?_
    refine j_getr (pc := 14) X dX7_follow_14 (hz _ sh_209) fl_X7_9 rfl ?_
    refine j_iload_n (pc := 17) 1 X dX7_follow_17 rfl ?_
    refine j_aload_n (pc := 18) 0 X dX7_follow_18 rfl ?_
    refine j_getr (pc := 19) X dX7_follow_19 (hz _ sh_209) fl_X7_15 rfl ?_
    refine j_getr (pc := 22) X dX7_follow_22 (hz _ sh_108) fl_X7_25 rfl ?_
    refine j_iload_n (pc := 25) 1 X dX7_follow_25 rfl ?_
    refine j_aald (pc := 26) (g := fun j => 115 + j) (C := "AfterOffice$Letter") X dX7_follow_26 (hz _ sh_111) (fun _ => rfl) rfl al_111 hF (fun hb2 hF => ?_)
    refine j_geti (pc := 27) X dX7_follow_27 (hz _ (shL (is_111 hb2))) fl_X7_29 rfl ?_
    refine j_iast (pc := 30) X dX7_follow_30 (hz _ sh_210) hF (fun h3 hF => ?_)
    refine j_iinc (pc := 31) 1 (x1 + 1) (fun y => [(1, .int y), (0, .ref (Z.2.1 209))]) X dX7_follow_31 rfl rfl (by decide) (fun _ => rfl) hF (fun v4 hF => ?_)
    refine j_goto (pc := 34) 2 X dX7_follow_34 rfl ?_
    refine j_lv [(0, .ref (Z.2.1 209)), (1, .int v4)] [1, 0] rfl ?_
    exact hr2 v4 h3 hF
theorem LX7_follow_2 {Z : ZT} {G : GT} {hr : Hp} (X : CX Z G cX7_follow RX7 3 1) (E : RX Z G none (none) hr) (hz : HZ Z)  : ∀ (n : Nat) (x1 : Int32) (h : Hp), lX7_follow_2   n x1 h = some hr → J Z G 3 h 2 [(0, .ref (Z.2.1 209)), (1, .int x1)] [] := by
  intro n
  induction n with
  | zero => intro x1 h hF; cases hF
  | succ n ih => intro x1 h hF; exact BX7_follow_2 X E hz  (lX7_follow_2   n) ih x1 h hF
def fX7_follow  (h : Hp) : Option (Hp) := lt 0 (fun v1 => lX7_follow_2 FU v1 h)
set_option maxRecDepth 20000 in
theorem tX7_follow (Z : ZT)  (hz : HZ Z) (h : Hp) (hr : Hp) (hF : fX7_follow  h = some hr) : MC Z yX7_follow cX7_follow 3 none 1 [.ref (Z.2.1 209)] h (none) hr := by
  unfold fX7_follow at hF
  refine mc_start (by decide) (Nat.le_of_ble_eq_true rfl) (fun G X E => ?_)
  refine j_iconst (pc := 0) 0 X dX7_follow_0 rfl ?_
  refine j_istore_n (pc := 1) (fun y => [(1, .int y), (0, .ref (Z.2.1 209))]) X dX7_follow_1 (by decide) (fun _ => rfl) hF (fun v1 hF => ?_)
  refine j_lv [(0, .ref (Z.2.1 209)), (1, .int v1)] [1, 0] rfl ?_
  exact LX7_follow_2 X E hz FU v1 h hF
theorem dX7_mutual_0 : decode cX7_mutual 0 = .ok (.iconst 0, 1) := by decide +kernel
theorem dX7_mutual_1 : decode cX7_mutual 1 = .ok (.istore_n 2, 1) := by decide +kernel
theorem dX7_mutual_2 : decode cX7_mutual 2 = .ok (.iconst 0, 1) := by decide +kernel
theorem dX7_mutual_3 : decode cX7_mutual 3 = .ok (.istore_n 3, 1) := by decide +kernel
theorem dX7_mutual_4 : decode cX7_mutual 4 = .ok (.iload_n 3, 1) := by decide +kernel
theorem dX7_mutual_5 : decode cX7_mutual 5 = .ok (.aload_n 0, 1) := by decide +kernel
theorem dX7_mutual_6 : decode cX7_mutual 6 = .ok (.getfield 15, 3) := by decide +kernel
theorem dX7_mutual_9 : decode cX7_mutual 9 = .ok (.getfield 19, 3) := by decide +kernel
theorem dX7_mutual_12 : decode cX7_mutual 12 = .ok (.if_icmp .ge 41, 3) := by decide +kernel
theorem dX7_mutual_15 : decode cX7_mutual 15 = .ok (.aload_n 0, 1) := by decide +kernel
theorem dX7_mutual_16 : decode cX7_mutual 16 = .ok (.getfield 9, 3) := by decide +kernel
theorem dX7_mutual_19 : decode cX7_mutual 19 = .ok (.iload_n 1, 1) := by decide +kernel
theorem dX7_mutual_20 : decode cX7_mutual 20 = .ok (.iaload, 1) := by decide +kernel
theorem dX7_mutual_21 : decode cX7_mutual 21 = .ok (.iload_n 3, 1) := by decide +kernel
theorem dX7_mutual_22 : decode cX7_mutual 22 = .ok (.invokestatic 34, 3) := by decide +kernel
theorem dX7_mutual_25 : decode cX7_mutual 25 = .ok (.ifCond .eq 22, 3) := by decide +kernel
theorem dX7_mutual_28 : decode cX7_mutual 28 = .ok (.aload_n 0, 1) := by decide +kernel
theorem dX7_mutual_29 : decode cX7_mutual 29 = .ok (.getfield 9, 3) := by decide +kernel
theorem dX7_mutual_32 : decode cX7_mutual 32 = .ok (.iload_n 3, 1) := by decide +kernel
theorem dX7_mutual_33 : decode cX7_mutual 33 = .ok (.iaload, 1) := by decide +kernel
theorem dX7_mutual_34 : decode cX7_mutual 34 = .ok (.iload_n 1, 1) := by decide +kernel
theorem dX7_mutual_35 : decode cX7_mutual 35 = .ok (.invokestatic 34, 3) := by decide +kernel
theorem dX7_mutual_38 : decode cX7_mutual 38 = .ok (.ifCond .eq 9, 3) := by decide +kernel
theorem dX7_mutual_41 : decode cX7_mutual 41 = .ok (.iload_n 2, 1) := by decide +kernel
theorem dX7_mutual_42 : decode cX7_mutual 42 = .ok (.iconst 1, 1) := by decide +kernel
theorem dX7_mutual_43 : decode cX7_mutual 43 = .ok (.iload_n 3, 1) := by decide +kernel
theorem dX7_mutual_44 : decode cX7_mutual 44 = .ok (.ishl, 1) := by decide +kernel
theorem dX7_mutual_45 : decode cX7_mutual 45 = .ok (.ior, 1) := by decide +kernel
theorem dX7_mutual_46 : decode cX7_mutual 46 = .ok (.istore_n 2, 1) := by decide +kernel
theorem dX7_mutual_47 : decode cX7_mutual 47 = .ok (.iinc 3 1, 3) := by decide +kernel
theorem dX7_mutual_50 : decode cX7_mutual 50 = .ok (.goto (-46), 3) := by decide +kernel
theorem dX7_mutual_53 : decode cX7_mutual 53 = .ok (.iload_n 2, 1) := by decide +kernel
theorem dX7_mutual_54 : decode cX7_mutual 54 = .ok (.ireturn, 1) := by decide +kernel
def bX7_mutual_47  (r4 : Int32 → Int32 → Int32 → Hp → Option (Int32 × Hp)) (x1 : Int32) (x2 : Int32) (x3 : Int32) (h : Hp) : Option (Int32 × Hp) := lt (x3 + 1) (fun v1 => r4 x1 x2 v1 h)
set_option maxRecDepth 20000 in
theorem BX7_mutual_47 {Z : ZT} {G : GT} {r : Int32} {hr : Hp} (X : CX Z G cX7_mutual RX7 4 1) (E : RX Z G (some .int) (some (.int r)) hr) (hz : HZ Z) (r4 : Int32 → Int32 → Int32 → Hp → Option (Int32 × Hp)) (hr4 : ∀ (x1 : Int32) (x2 : Int32) (x3 : Int32) (h : Hp), r4 x1 x2 x3 h = some (r, hr) → J Z G 4 h 4 [(0, .ref (Z.2.1 209)), (1, .int x1), (2, .int x2), (3, .int x3)] []) (x1 : Int32) (x2 : Int32) (x3 : Int32) (h : Hp) (hF : bX7_mutual_47  r4 x1 x2 x3 h = some (r, hr)) : J Z G 4 h 47 [(0, .ref (Z.2.1 209)), (1, .int x1), (2, .int x2), (3, .int x3)] [] := by
  unfold bX7_mutual_47 at hF
  refine j_iinc (pc := 47) 3 (x3 + 1) (fun y => [(3, .int y), (0, .ref (Z.2.1 209)), (1, .int x1), (2, .int x2)]) X dX7_mutual_47 rfl rfl (by decide) (fun _ => rfl) hF (fun v1 hF => ?_)
  refine j_goto (pc := 50) 4 X dX7_mutual_50 rfl ?_
  refine j_lv [(0, .ref (Z.2.1 209)), (1, .int x1), (2, .int x2), (3, .int v1)] [1, 2, 3, 0] rfl ?_
  exact hr4 x1 x2 v1 h hF
def bX7_mutual_4   (r4 : Int32 → Int32 → Int32 → Hp → Option (Int32 × Hp)) (x1 : Int32) (x2 : Int32) (x3 : Int32) (h : Hp) : Option (Int32 × Hp) := (if (h.1 108 9) ≤ x3 then some (x2, h) else ck (inb x1 10) (bi (fX11_has (h.1 210 (ix x1)) x3 h) (fun w2 h1 => (if w2 = 0 then bX7_mutual_47 r4 x1 x2 x3 h1 else ck (inb x3 10) (bi (fX11_has (h1.1 210 (ix x3)) x1 h1) (fun w4 h3 => (if w4 = 0 then bX7_mutual_47 r4 x1 x2 x3 h3 else lt (x2 ||| ((1 : Int32) <<< (x3 &&& 31))) (fun v5 => bX7_mutual_47 r4 x1 v5 x3 h3))))))))
def lX7_mutual_4   : Nat → Int32 → Int32 → Int32 → Hp → Option (Int32 × Hp)
  | 0 => fun _ _ _ _ => none
  | n + 1 => bX7_mutual_4   (lX7_mutual_4   n)
set_option maxRecDepth 20000 in
theorem BX7_mutual_4 {Z : ZT} {G : GT} {r : Int32} {hr : Hp} (X : CX Z G cX7_mutual RX7 4 1) (E : RX Z G (some .int) (some (.int r)) hr) (hz : HZ Z)  (r4 : Int32 → Int32 → Int32 → Hp → Option (Int32 × Hp)) (hr4 : ∀ (x1 : Int32) (x2 : Int32) (x3 : Int32) (h : Hp), r4 x1 x2 x3 h = some (r, hr) → J Z G 4 h 4 [(0, .ref (Z.2.1 209)), (1, .int x1), (2, .int x2), (3, .int x3)] []) (x1 : Int32) (x2 : Int32) (x3 : Int32) (h : Hp) (hF : bX7_mutual_4   r4 x1 x2 x3 h = some (r, hr)) : J Z G 4 h 4 [(0, .ref (Z.2.1 209)), (1, .int x1), (2, .int x2), (3, .int x3)] [] := by
  unfold bX7_mutual_4 at hF
  refine j_iload_n (pc := 4) 3 X dX7_mutual_4 rfl ?_
  refine j_aload_n (pc := 5) 0 X dX7_mutual_5 rfl ?_
  refine j_getr (pc := 6) X dX7_mutual_6 (hz _ sh_209) fl_X7_15 rfl ?_
  refine j_geti (pc := 9) X dX7_mutual_9 (hz _ sh_108) fl_X7_19 rfl ?_
  refine j_icmp_ge (pc := 12) 53 X dX7_mutual_12 rfl hF (fun hF => ?_) (fun hF => ?_)
  · refine j_iload_n (pc := 53) 2 X dX7_mutual_53 rfl ?_
    exact j_iret (pc := 54) X E dX7_mutual_54 hF
  · refine j_aload_n (pc := 15) 0 X dX7_mutual_15 rfl ?_
    refine j_getr (pc := 16) X dX7_mutual_16 (hz _ sh_209) fl_X7_9 rfl ?_
    refine j_iload_n (pc := 19) 1 X dX7_mutual_19 rfl ?_
    refine j_iald (pc := 20) X dX7_mutual_20 (hz _ sh_210) hF (fun hF => ?_)
    refine j_iload_n (pc := 21) 3 X dX7_mutual_21 rfl ?_
    refine j_cSNi (pc := 22) (As := [.int (h.1 210 (ix x1)), .int x3]) (rest := []) X dX7_mutual_22 ml_X7_34 ck_X11_has sk_X11_has (Nat.le_of_ble_eq_true rfl) rfl (Nat.le_of_ble_eq_true rfl) rfl hF (tX11_has Z (h.1 210 (ix x1)) x3 trivial h) (fun w2 h1 hF => ?_)
    refine j_if_eq (pc := 25) 47 X dX7_mutual_25 rfl hF (fun hF => ?_) (fun hF => ?_)
    · exact BX7_mutual_47 X E hz r4 hr4 x1 x2 x3 h1 hF
    · refine j_aload_n (pc := 28) 0 X dX7_mutual_28 rfl ?_
      refine j_getr (pc := 29) X dX7_mutual_29 (hz _ sh_209) fl_X7_9 rfl ?_
      refine j_iload_n (pc := 32) 3 X dX7_mutual_32 rfl ?_
      refine j_iald (pc := 33) X dX7_mutual_33 (hz _ sh_210) hF (fun hF => ?_)
      refine j_iload_n (pc := 34) 1 X dX7_mutual_34 rfl ?_
      refine j_cSNi (pc := 35) (As := [.int (h1.1 210 (ix x3)), .int x1]) (rest := []) X dX7_mutual_35 ml_X7_34 ck_X11_has sk_X11_has (Nat.le_of_ble_eq_true rfl) rfl (Nat.le_of_ble_eq_true rfl) rfl hF (tX11_has Z (h1.1 210 (ix x3)) x1 trivial h1) (fun w4 h3 hF => ?_)
      refine j_if_eq (pc := 38) 47 X dX7_mutual_38 rfl hF (fun hF => ?_) (fun hF => ?_)
      · exact BX7_mutual_47 X E hz r4 hr4 x1 x2 x3 h3 hF
      · refine j_iload_n (pc := 41) 2 X dX7_mutual_41 rfl ?_
        refine j_iconst (pc := 42) 1 X dX7_mutual_42 rfl ?_
        refine j_iload_n (pc := 43) 3 X dX7_mutual_43 rfl ?_
        refine j_ishl (pc := 44) X dX7_mutual_44 ?_
        refine j_ior (pc := 45) X dX7_mutual_45 ?_
        refine j_istore_n (pc := 46) (fun y => [(2, .int y), (0, .ref (Z.2.1 209)), (1, .int x1), (3, .int x3)]) X dX7_mutual_46 (by decide) (fun _ => rfl) hF (fun v5 hF => ?_)
        refine j_lv [(0, .ref (Z.2.1 209)), (1, .int x1), (2, .int v5), (3, .int x3)] [1, 2, 0, 3] rfl ?_
        exact BX7_mutual_47 X E hz r4 hr4 x1 v5 x3 h3 hF
theorem LX7_mutual_4 {Z : ZT} {G : GT} {r : Int32} {hr : Hp} (X : CX Z G cX7_mutual RX7 4 1) (E : RX Z G (some .int) (some (.int r)) hr) (hz : HZ Z)  : ∀ (n : Nat) (x1 : Int32) (x2 : Int32) (x3 : Int32) (h : Hp), lX7_mutual_4   n x1 x2 x3 h = some (r, hr) → J Z G 4 h 4 [(0, .ref (Z.2.1 209)), (1, .int x1), (2, .int x2), (3, .int x3)] [] := by
  intro n
  induction n with
  | zero => intro x1 x2 x3 h hF; cases hF
  | succ n ih => intro x1 x2 x3 h hF; exact BX7_mutual_4 X E hz  (lX7_mutual_4   n) ih x1 x2 x3 h hF
def fX7_mutual (a1 : Int32) (h : Hp) : Option (Int32 × Hp) := lt 0 (fun v1 => lt 0 (fun v2 => lX7_mutual_4 FU a1 v1 v2 h))
set_option maxRecDepth 20000 in
theorem tX7_mutual (Z : ZT) (a1 : Int32) (hz : HZ Z) (h : Hp) (r : Int32) (hr : Hp) (hF : fX7_mutual a1 h = some (r, hr)) : MC Z yX7_mutual cX7_mutual 4 (some .int) 1 [.ref (Z.2.1 209), .int a1] h (some (.int r)) hr := by
  unfold fX7_mutual at hF
  refine mc_start (by decide) (Nat.le_of_ble_eq_true rfl) (fun G X E => ?_)
  refine j_iconst (pc := 0) 0 X dX7_mutual_0 rfl ?_
  refine j_istore_n (pc := 1) (fun y => [(2, .int y), (0, .ref (Z.2.1 209)), (1, .int a1)]) X dX7_mutual_1 (by decide) (fun _ => rfl) hF (fun v1 hF => ?_)
  refine j_iconst (pc := 2) 0 X dX7_mutual_2 rfl ?_
  refine j_istore_n (pc := 3) (fun y => [(3, .int y), (2, .int v1), (0, .ref (Z.2.1 209)), (1, .int a1)]) X dX7_mutual_3 (by decide) (fun _ => rfl) hF (fun v2 hF => ?_)
  refine j_lv [(0, .ref (Z.2.1 209)), (1, .int a1), (2, .int v1), (3, .int v2)] [2, 3, 1, 0] rfl ?_
  exact LX7_mutual_4 X E hz FU a1 v1 v2 h hF
theorem dX7_ringOf_0 : decode cX7_ringOf 0 = .ok (.aload_n 0, 1) := by decide +kernel
theorem dX7_ringOf_1 : decode cX7_ringOf 1 = .ok (.invokevirtual 38, 3) := by decide +kernel
theorem dX7_ringOf_4 : decode cX7_ringOf 4 = .ok (.aload_n 0, 1) := by decide +kernel
theorem dX7_ringOf_5 : decode cX7_ringOf 5 = .ok (.iload_n 1, 1) := by decide +kernel
theorem dX7_ringOf_6 : decode cX7_ringOf 6 = .ok (.invokevirtual 41, 3) := by decide +kernel
theorem dX7_ringOf_9 : decode cX7_ringOf 9 = .ok (.ireturn, 1) := by decide +kernel
def fX7_ringOf (a1 : Int32) (h : Hp) : Option (Int32 × Hp) := bv (fX7_follow h) (fun h1 => bi (fX7_mutual a1 h1) (fun w3 h2 => some (w3, h2)))
set_option maxRecDepth 20000 in
theorem tX7_ringOf (Z : ZT) (a1 : Int32) (hz : HZ Z) (h : Hp) (r : Int32) (hr : Hp) (hF : fX7_ringOf a1 h = some (r, hr)) : MC Z yX7_ringOf cX7_ringOf 2 (some .int) 2 [.ref (Z.2.1 209), .int a1] h (some (.int r)) hr := by
  unfold fX7_ringOf at hF
  refine mc_start (by decide) (Nat.le_of_ble_eq_true rfl) (fun G X E => ?_)
  refine j_aload_n (pc := 0) 0 X dX7_ringOf_0 rfl ?_
  refine j_cVv (pc := 1) (As := []) (rest := []) X dX7_ringOf_1 ml_X7_38 ck_X7_follow cv_X7_follow (hz _ sh_209) rfl (Nat.le_of_ble_eq_true rfl) rfl (Nat.le_of_ble_eq_true rfl) rfl hF (tX7_follow Z hz h) (fun h1 hF => ?_)
  refine j_aload_n (pc := 4) 0 X dX7_ringOf_4 rfl ?_
  refine j_iload_n (pc := 5) 1 X dX7_ringOf_5 rfl ?_
  refine j_cVi (pc := 6) (As := [.int a1]) (rest := []) X dX7_ringOf_6 ml_X7_41 ck_X7_mutual cv_X7_mutual (hz _ sh_209) rfl (Nat.le_of_ble_eq_true rfl) rfl (Nat.le_of_ble_eq_true rfl) rfl hF (tX7_mutual Z a1 hz h1) (fun w3 h2 hF => ?_)
  exact j_iret (pc := 9) X E dX7_ringOf_9 hF
theorem dX7_howMany_0 : decode cX7_howMany 0 = .ok (.aload_n 0, 1) := by decide +kernel
theorem dX7_howMany_1 : decode cX7_howMany 1 = .ok (.invokevirtual 38, 3) := by decide +kernel
theorem dX7_howMany_4 : decode cX7_howMany 4 = .ok (.iconst 0, 1) := by decide +kernel
theorem dX7_howMany_5 : decode cX7_howMany 5 = .ok (.istore_n 1, 1) := by decide +kernel
theorem dX7_howMany_6 : decode cX7_howMany 6 = .ok (.iconst 0, 1) := by decide +kernel
theorem dX7_howMany_7 : decode cX7_howMany 7 = .ok (.istore_n 2, 1) := by decide +kernel
theorem dX7_howMany_8 : decode cX7_howMany 8 = .ok (.iload_n 2, 1) := by decide +kernel
theorem dX7_howMany_9 : decode cX7_howMany 9 = .ok (.aload_n 0, 1) := by decide +kernel
theorem dX7_howMany_10 : decode cX7_howMany 10 = .ok (.getfield 15, 3) := by decide +kernel
theorem dX7_howMany_13 : decode cX7_howMany 13 = .ok (.getfield 19, 3) := by decide +kernel
theorem dX7_howMany_16 : decode cX7_howMany 16 = .ok (.if_icmp .ge 30, 3) := by decide +kernel
theorem dX7_howMany_19 : decode cX7_howMany 19 = .ok (.aload_n 0, 1) := by decide +kernel
theorem dX7_howMany_20 : decode cX7_howMany 20 = .ok (.iload_n 2, 1) := by decide +kernel
theorem dX7_howMany_21 : decode cX7_howMany 21 = .ok (.invokevirtual 41, 3) := by decide +kernel
theorem dX7_howMany_24 : decode cX7_howMany 24 = .ok (.istore_n 3, 1) := by decide +kernel
theorem dX7_howMany_25 : decode cX7_howMany 25 = .ok (.iload_n 3, 1) := by decide +kernel
theorem dX7_howMany_26 : decode cX7_howMany 26 = .ok (.ifCond .eq 14, 3) := by decide +kernel
theorem dX7_howMany_29 : decode cX7_howMany 29 = .ok (.iload_n 3, 1) := by decide +kernel
theorem dX7_howMany_30 : decode cX7_howMany 30 = .ok (.invokestatic 45, 3) := by decide +kernel
theorem dX7_howMany_33 : decode cX7_howMany 33 = .ok (.iload_n 2, 1) := by decide +kernel
theorem dX7_howMany_34 : decode cX7_howMany 34 = .ok (.if_icmp .ne 6, 3) := by decide +kernel
theorem dX7_howMany_37 : decode cX7_howMany 37 = .ok (.iinc 1 1, 3) := by decide +kernel
theorem dX7_howMany_40 : decode cX7_howMany 40 = .ok (.iinc 2 1, 3) := by decide +kernel
theorem dX7_howMany_43 : decode cX7_howMany 43 = .ok (.goto (-35), 3) := by decide +kernel
theorem dX7_howMany_46 : decode cX7_howMany 46 = .ok (.iload_n 1, 1) := by decide +kernel
theorem dX7_howMany_47 : decode cX7_howMany 47 = .ok (.ireturn, 1) := by decide +kernel
def bX7_howMany_40  (r8 : Int32 → Int32 → Hp → Option (Int32 × Hp)) (x1 : Int32) (x2 : Int32) (h : Hp) : Option (Int32 × Hp) := lt (x2 + 1) (fun v1 => r8 x1 v1 h)
set_option maxRecDepth 20000 in
theorem BX7_howMany_40 {Z : ZT} {G : GT} {r : Int32} {hr : Hp} (X : CX Z G cX7_howMany RX7 4 2) (E : RX Z G (some .int) (some (.int r)) hr) (hz : HZ Z) (r8 : Int32 → Int32 → Hp → Option (Int32 × Hp)) (hr8 : ∀ (x1 : Int32) (x2 : Int32) (h : Hp), r8 x1 x2 h = some (r, hr) → J Z G 4 h 8 [(0, .ref (Z.2.1 209)), (1, .int x1), (2, .int x2)] []) (x1 : Int32) (x2 : Int32) (h : Hp) (hF : bX7_howMany_40  r8 x1 x2 h = some (r, hr)) : J Z G 4 h 40 [(0, .ref (Z.2.1 209)), (1, .int x1), (2, .int x2)] [] := by
  unfold bX7_howMany_40 at hF
  refine j_iinc (pc := 40) 2 (x2 + 1) (fun y => [(2, .int y), (0, .ref (Z.2.1 209)), (1, .int x1)]) X dX7_howMany_40 rfl rfl (by decide) (fun _ => rfl) hF (fun v1 hF => ?_)
  refine j_goto (pc := 43) 8 X dX7_howMany_43 rfl ?_
  refine j_lv [(0, .ref (Z.2.1 209)), (1, .int x1), (2, .int v1)] [1, 2, 0] rfl ?_
  exact hr8 x1 v1 h hF
def bX7_howMany_8   (r8 : Int32 → Int32 → Hp → Option (Int32 × Hp)) (x1 : Int32) (x2 : Int32) (h : Hp) : Option (Int32 × Hp) := (if (h.1 108 9) ≤ x2 then some (x1, h) else bi (fX7_mutual x2 h) (fun w2 h1 => lt w2 (fun v3 => (if v3 = 0 then bX7_howMany_40 r8 x1 x2 h1 else bi (fJ6_numberOfTrailingZeros_0f7a4 v3 h1) (fun w5 h4 => (if w5 = x2 then lt (x1 + 1) (fun v6 => bX7_howMany_40 r8 v6 x2 h4) else bX7_howMany_40 r8 x1 x2 h4))))))
def lX7_howMany_8   : Nat → Int32 → Int32 → Hp → Option (Int32 × Hp)
  | 0 => fun _ _ _ => none
  | n + 1 => bX7_howMany_8   (lX7_howMany_8   n)
set_option maxRecDepth 20000 in
theorem BX7_howMany_8 {Z : ZT} {G : GT} {r : Int32} {hr : Hp} (X : CX Z G cX7_howMany RX7 4 2) (E : RX Z G (some .int) (some (.int r)) hr) (hz : HZ Z)  (r8 : Int32 → Int32 → Hp → Option (Int32 × Hp)) (hr8 : ∀ (x1 : Int32) (x2 : Int32) (h : Hp), r8 x1 x2 h = some (r, hr) → J Z G 4 h 8 [(0, .ref (Z.2.1 209)), (1, .int x1), (2, .int x2)] []) (x1 : Int32) (x2 : Int32) (h : Hp) (hF : bX7_howMany_8   r8 x1 x2 h = some (r, hr)) : J Z G 4 h 8 [(0, .ref (Z.2.1 209)), (1, .int x1), (2, .int x2)] [] := by
  unfold bX7_howMany_8 at hF
  refine j_iload_n (pc := 8) 2 X dX7_howMany_8 rfl ?_
  refine j_aload_n (pc := 9) 0 X dX7_howMany_9 rfl ?_
  refine j_getr (pc := 10) X dX7_howMany_10 (hz _ sh_209) fl_X7_15 rfl ?_
  refine j_geti (pc := 13) X dX7_howMany_13 (hz _ sh_108) fl_X7_19 rfl ?_
  refine j_icmp_ge (pc := 16) 46 X dX7_howMany_16 rfl hF (fun hF => ?_) (fun hF => ?_)
  · refine j_iload_n (pc := 46) 1 X dX7_howMany_46 rfl ?_
    exact j_iret (pc := 47) X E dX7_howMany_47 hF
  · refine j_aload_n (pc := 19) 0 X dX7_howMany_19 rfl ?_
    refine j_iload_n (pc := 20) 2 X dX7_howMany_20 rfl ?_
    refine j_cVi (pc := 21) (As := [.int x2]) (rest := []) X dX7_howMany_21 ml_X7_41 ck_X7_mutual cv_X7_mutual (hz _ sh_209) rfl (Nat.le_of_ble_eq_true rfl) rfl (Nat.le_of_ble_eq_true rfl) rfl hF (tX7_mutual Z x2 hz h) (fun w2 h1 hF => ?_)
    refine j_istore_n (pc := 24) (fun y => [(3, .int y), (0, .ref (Z.2.1 209)), (1, .int x1), (2, .int x2)]) X dX7_howMany_24 (by decide) (fun _ => rfl) hF (fun v3 hF => ?_)
    refine j_iload_n (pc := 25) 0 X dX7_howMany_25 rfl ?_
    refine j_if_eq (pc := 26) 40 X dX7_howMany_26 rfl hF (fun hF => ?_) (fun hF => ?_)
    · refine j_lv [(0, .ref (Z.2.1 209)), (1, .int x1), (2, .int x2)] [1, 2, 3] rfl ?_
      exact BX7_howMany_40 X E hz r8 hr8 x1 x2 h1 hF
    · refine j_iload_n (pc := 29) 0 X dX7_howMany_29 rfl ?_
      refine j_cSi (pc := 30) (As := [.int v3]) (rest := []) X dX7_howMany_30 ml_X7_45 ck_J6_numberOfTrailingZeros_0f7a4 sk_J6_numberOfTrailingZeros_0f7a4 (Nat.le_of_ble_eq_true rfl) rfl (Nat.le_of_ble_eq_true rfl) rfl hF (tJ6_numberOfTrailingZeros_0f7a4 Z v3 trivial h1) (fun w5 h4 hF => ?_)
      refine j_iload_n (pc := 33) 3 X dX7_howMany_33 rfl ?_
      refine j_icmp_ne (pc := 34) 40 X dX7_howMany_34 rfl hF (fun hF => ?_) (fun hF => ?_)
      · refine j_lv [(0, .ref (Z.2.1 209)), (1, .int x1), (2, .int x2)] [1, 2, 3] rfl ?_
        exact BX7_howMany_40 X E hz r8 hr8 x1 x2 h4 hF
      · refine j_iinc (pc := 37) 2 (x1 + 1) (fun y => [(1, .int y), (3, .int v3), (0, .ref (Z.2.1 209)), (2, .int x2)]) X dX7_howMany_37 rfl rfl (by decide) (fun _ => rfl) hF (fun v6 hF => ?_)
        refine j_lv [(0, .ref (Z.2.1 209)), (1, .int v6), (2, .int x2)] [2, 0, 3] rfl ?_
        exact BX7_howMany_40 X E hz r8 hr8 v6 x2 h4 hF
theorem LX7_howMany_8 {Z : ZT} {G : GT} {r : Int32} {hr : Hp} (X : CX Z G cX7_howMany RX7 4 2) (E : RX Z G (some .int) (some (.int r)) hr) (hz : HZ Z)  : ∀ (n : Nat) (x1 : Int32) (x2 : Int32) (h : Hp), lX7_howMany_8   n x1 x2 h = some (r, hr) → J Z G 4 h 8 [(0, .ref (Z.2.1 209)), (1, .int x1), (2, .int x2)] [] := by
  intro n
  induction n with
  | zero => intro x1 x2 h hF; cases hF
  | succ n ih => intro x1 x2 h hF; exact BX7_howMany_8 X E hz  (lX7_howMany_8   n) ih x1 x2 h hF
def fX7_howMany  (h : Hp) : Option (Int32 × Hp) := bv (fX7_follow h) (fun h1 => lt 0 (fun v2 => lt 0 (fun v3 => lX7_howMany_8 FU v2 v3 h1)))
set_option maxRecDepth 20000 in
theorem tX7_howMany (Z : ZT)  (hz : HZ Z) (h : Hp) (r : Int32) (hr : Hp) (hF : fX7_howMany  h = some (r, hr)) : MC Z yX7_howMany cX7_howMany 4 (some .int) 2 [.ref (Z.2.1 209)] h (some (.int r)) hr := by
  unfold fX7_howMany at hF
  refine mc_start (by decide) (Nat.le_of_ble_eq_true rfl) (fun G X E => ?_)
  refine j_aload_n (pc := 0) 0 X dX7_howMany_0 rfl ?_
  refine j_cVv (pc := 1) (As := []) (rest := []) X dX7_howMany_1 ml_X7_38 ck_X7_follow cv_X7_follow (hz _ sh_209) rfl (Nat.le_of_ble_eq_true rfl) rfl (Nat.le_of_ble_eq_true rfl) rfl hF (tX7_follow Z hz h) (fun h1 hF => ?_)
  refine j_iconst (pc := 4) 0 X dX7_howMany_4 rfl ?_
  refine j_istore_n (pc := 5) (fun y => [(1, .int y), (0, .ref (Z.2.1 209))]) X dX7_howMany_5 (by decide) (fun _ => rfl) hF (fun v2 hF => ?_)
  refine j_iconst (pc := 6) 0 X dX7_howMany_6 rfl ?_
  refine j_istore_n (pc := 7) (fun y => [(2, .int y), (1, .int v2), (0, .ref (Z.2.1 209))]) X dX7_howMany_7 (by decide) (fun _ => rfl) hF (fun v3 hF => ?_)
  refine j_lv [(0, .ref (Z.2.1 209)), (1, .int v2), (2, .int v3)] [2, 1, 0] rfl ?_
  exact LX7_howMany_8 X E hz FU v2 v3 h1 hF
theorem dX7_leavesRings_0 : decode cX7_leavesRings 0 = .ok (.iload_n 1, 1) := by decide +kernel
theorem dX7_leavesRings_1 : decode cX7_leavesRings 1 = .ok (.istore_n 2, 1) := by decide +kernel
theorem dX7_leavesRings_2 : decode cX7_leavesRings 2 = .ok (.iconst 0, 1) := by decide +kernel
theorem dX7_leavesRings_3 : decode cX7_leavesRings 3 = .ok (.istore_n 3, 1) := by decide +kernel
theorem dX7_leavesRings_4 : decode cX7_leavesRings 4 = .ok (.iload_n 3, 1) := by decide +kernel
theorem dX7_leavesRings_5 : decode cX7_leavesRings 5 = .ok (.bipush 10, 2) := by decide +kernel
theorem dX7_leavesRings_7 : decode cX7_leavesRings 7 = .ok (.if_icmp .ge 66, 3) := by decide +kernel
theorem dX7_leavesRings_10 : decode cX7_leavesRings 10 = .ok (.iconst 0, 1) := by decide +kernel
theorem dX7_leavesRings_11 : decode cX7_leavesRings 11 = .ok (.istore 4, 2) := by decide +kernel
theorem dX7_leavesRings_13 : decode cX7_leavesRings 13 = .ok (.iload 4, 2) := by decide +kernel
theorem dX7_leavesRings_15 : decode cX7_leavesRings 15 = .ok (.aload_n 0, 1) := by decide +kernel
theorem dX7_leavesRings_16 : decode cX7_leavesRings 16 = .ok (.getfield 15, 3) := by decide +kernel
theorem dX7_leavesRings_19 : decode cX7_leavesRings 19 = .ok (.getfield 19, 3) := by decide +kernel
theorem dX7_leavesRings_22 : decode cX7_leavesRings 22 = .ok (.if_icmp .ge 45, 3) := by decide +kernel
theorem dX7_leavesRings_25 : decode cX7_leavesRings 25 = .ok (.iload_n 2, 1) := by decide +kernel
theorem dX7_leavesRings_26 : decode cX7_leavesRings 26 = .ok (.iload 4, 2) := by decide +kernel
theorem dX7_leavesRings_28 : decode cX7_leavesRings 28 = .ok (.invokestatic 34, 3) := by decide +kernel
theorem dX7_leavesRings_31 : decode cX7_leavesRings 31 = .ok (.ifCond .eq 30, 3) := by decide +kernel
theorem dX7_leavesRings_34 : decode cX7_leavesRings 34 = .ok (.aload_n 0, 1) := by decide +kernel
theorem dX7_leavesRings_35 : decode cX7_leavesRings 35 = .ok (.getfield 15, 3) := by decide +kernel
theorem dX7_leavesRings_38 : decode cX7_leavesRings 38 = .ok (.getfield 25, 3) := by decide +kernel
theorem dX7_leavesRings_41 : decode cX7_leavesRings 41 = .ok (.iload 4, 2) := by decide +kernel
theorem dX7_leavesRings_43 : decode cX7_leavesRings 43 = .ok (.aaload, 1) := by decide +kernel
theorem dX7_leavesRings_44 : decode cX7_leavesRings 44 = .ok (.getfield 29, 3) := by decide +kernel
theorem dX7_leavesRings_47 : decode cX7_leavesRings 47 = .ok (.iload_n 2, 1) := by decide +kernel
theorem dX7_leavesRings_48 : decode cX7_leavesRings 48 = .ok (.iand, 1) := by decide +kernel
theorem dX7_leavesRings_49 : decode cX7_leavesRings 49 = .ok (.ifCond .ne 12, 3) := by decide +kernel
theorem dX7_leavesRings_52 : decode cX7_leavesRings 52 = .ok (.iload_n 2, 1) := by decide +kernel
theorem dX7_leavesRings_53 : decode cX7_leavesRings 53 = .ok (.iconst 1, 1) := by decide +kernel
theorem dX7_leavesRings_54 : decode cX7_leavesRings 54 = .ok (.iload 4, 2) := by decide +kernel
theorem dX7_leavesRings_56 : decode cX7_leavesRings 56 = .ok (.ishl, 1) := by decide +kernel
theorem dX7_leavesRings_57 : decode cX7_leavesRings 57 = .ok (.iconst (-1), 1) := by decide +kernel
theorem dX7_leavesRings_58 : decode cX7_leavesRings 58 = .ok (.ixor, 1) := by decide +kernel
theorem dX7_leavesRings_59 : decode cX7_leavesRings 59 = .ok (.iand, 1) := by decide +kernel
theorem dX7_leavesRings_60 : decode cX7_leavesRings 60 = .ok (.istore_n 2, 1) := by decide +kernel
theorem dX7_leavesRings_61 : decode cX7_leavesRings 61 = .ok (.iinc 4 1, 3) := by decide +kernel
theorem dX7_leavesRings_64 : decode cX7_leavesRings 64 = .ok (.goto (-51), 3) := by decide +kernel
theorem dX7_leavesRings_67 : decode cX7_leavesRings 67 = .ok (.iinc 3 1, 3) := by decide +kernel
theorem dX7_leavesRings_70 : decode cX7_leavesRings 70 = .ok (.goto (-66), 3) := by decide +kernel
theorem dX7_leavesRings_73 : decode cX7_leavesRings 73 = .ok (.iload_n 2, 1) := by decide +kernel
theorem dX7_leavesRings_74 : decode cX7_leavesRings 74 = .ok (.ifCond .eq 7, 3) := by decide +kernel
theorem dX7_leavesRings_77 : decode cX7_leavesRings 77 = .ok (.iconst 1, 1) := by decide +kernel
theorem dX7_leavesRings_78 : decode cX7_leavesRings 78 = .ok (.goto 4, 3) := by decide +kernel
theorem dX7_leavesRings_81 : decode cX7_leavesRings 81 = .ok (.iconst 0, 1) := by decide +kernel
theorem dX7_leavesRings_82 : decode cX7_leavesRings 82 = .ok (.ireturn, 1) := by decide +kernel
def bX7_leavesRings_61  (r4 : Int32 → Int32 → Hp → Option (Int32 × Hp)) (r13 : Int32 → Int32 → Int32 → Hp → Option (Int32 × Hp)) (x2 : Int32) (x3 : Int32) (x4 : Int32) (h : Hp) : Option (Int32 × Hp) := lt (x4 + 1) (fun v1 => r13 x2 x3 v1 h)
set_option maxRecDepth 20000 in
theorem BX7_leavesRings_61 {Z : ZT} {G : GT} {r : Int32} {hr : Hp} (X : CX Z G cX7_leavesRings RX7 5 1) (E : RX Z G (some .boolean) (some (.int r)) hr) (hz : HZ Z) (r4 : Int32 → Int32 → Hp → Option (Int32 × Hp)) (hr4 : ∀ (x2 : Int32) (x3 : Int32) (h : Hp), r4 x2 x3 h = some (r, hr) → J Z G 5 h 4 [(0, .ref (Z.2.1 209)), (2, .int x2), (3, .int x3)] []) (r13 : Int32 → Int32 → Int32 → Hp → Option (Int32 × Hp)) (hr13 : ∀ (x2 : Int32) (x3 : Int32) (x4 : Int32) (h : Hp), r13 x2 x3 x4 h = some (r, hr) → J Z G 5 h 13 [(0, .ref (Z.2.1 209)), (2, .int x2), (3, .int x3), (4, .int x4)] []) (x2 : Int32) (x3 : Int32) (x4 : Int32) (h : Hp) (hF : bX7_leavesRings_61  r4 r13 x2 x3 x4 h = some (r, hr)) : J Z G 5 h 61 [(0, .ref (Z.2.1 209)), (2, .int x2), (3, .int x3), (4, .int x4)] [] := by
  unfold bX7_leavesRings_61 at hF
  refine j_iinc (pc := 61) 3 (x4 + 1) (fun y => [(4, .int y), (0, .ref (Z.2.1 209)), (2, .int x2), (3, .int x3)]) X dX7_leavesRings_61 rfl rfl (by decide) (fun _ => rfl) hF (fun v1 hF => ?_)
  refine j_goto (pc := 64) 13 X dX7_leavesRings_64 rfl ?_
  refine j_lv [(0, .ref (Z.2.1 209)), (2, .int x2), (3, .int x3), (4, .int v1)] [1, 2, 3, 0] rfl ?_
  exact hr13 x2 x3 v1 h hF
def bX7_leavesRings_13  (r4 : Int32 → Int32 → Hp → Option (Int32 × Hp)) (r13 : Int32 → Int32 → Int32 → Hp → Option (Int32 × Hp)) (x2 : Int32) (x3 : Int32) (x4 : Int32) (h : Hp) : Option (Int32 × Hp) := (if (h.1 108 9) ≤ x4 then lt (x3 + 1) (fun v1 => r4 x2 v1 h) else bi (fX11_has x2 x4 h) (fun w3 h2 => (if w3 = 0 then bX7_leavesRings_61 r4 r13 x2 x3 x4 h2 else ck (inb x4 10) ((if ((h2.1 (115 + ix x4) 7) &&& x2) = 0 then lt (x2 &&& (((1 : Int32) <<< (x4 &&& 31)) ^^^ (-1))) (fun v5 => bX7_leavesRings_61 r4 r13 v5 x3 x4 h2) else bX7_leavesRings_61 r4 r13 x2 x3 x4 h2)))))
def lX7_leavesRings_13  (r4 : Int32 → Int32 → Hp → Option (Int32 × Hp)) : Nat → Int32 → Int32 → Int32 → Hp → Option (Int32 × Hp)
  | 0 => fun _ _ _ _ => none
  | n + 1 => bX7_leavesRings_13  r4 (lX7_leavesRings_13  r4 n)
set_option maxRecDepth 20000 in
theorem BX7_leavesRings_13 {Z : ZT} {G : GT} {r : Int32} {hr : Hp} (X : CX Z G cX7_leavesRings RX7 5 1) (E : RX Z G (some .boolean) (some (.int r)) hr) (hz : HZ Z) (r4 : Int32 → Int32 → Hp → Option (Int32 × Hp)) (hr4 : ∀ (x2 : Int32) (x3 : Int32) (h : Hp), r4 x2 x3 h = some (r, hr) → J Z G 5 h 4 [(0, .ref (Z.2.1 209)), (2, .int x2), (3, .int x3)] []) (r13 : Int32 → Int32 → Int32 → Hp → Option (Int32 × Hp)) (hr13 : ∀ (x2 : Int32) (x3 : Int32) (x4 : Int32) (h : Hp), r13 x2 x3 x4 h = some (r, hr) → J Z G 5 h 13 [(0, .ref (Z.2.1 209)), (2, .int x2), (3, .int x3), (4, .int x4)] []) (x2 : Int32) (x3 : Int32) (x4 : Int32) (h : Hp) (hF : bX7_leavesRings_13  r4 r13 x2 x3 x4 h = some (r, hr)) : J Z G 5 h 13 [(0, .ref (Z.2.1 209)), (2, .int x2), (3, .int x3), (4, .int x4)] [] := by
  unfold bX7_leavesRings_13 at hF
  refine j_iload (pc := 13) 3 X dX7_leavesRings_13 rfl ?_
  refine j_aload_n (pc := 15) 0 X dX7_leavesRings_15 rfl ?_
  refine j_getr (pc := 16) X dX7_leavesRings_16 (hz _ sh_209) fl_X7_15 rfl ?_
  refine j_geti (pc := 19) X dX7_leavesRings_19 (hz _ sh_108) fl_X7_19 rfl ?_
  refine j_icmp_ge (pc := 22) 67 X dX7_leavesRings_22 rfl hF (fun hF => ?_) (fun hF => ?_)
  · refine j_iinc (pc := 67) 2 (x3 + 1) (fun y => [(3, .int y), (0, .ref (Z.2.1 209)), (2, .int x2), (4, .int x4)]) X dX7_leavesRings_67 rfl rfl (by decide) (fun _ => rfl) hF (fun v1 hF => ?_)
    refine j_goto (pc := 70) 4 X dX7_leavesRings_70 rfl ?_
    refine j_lv [(0, .ref (Z.2.1 209)), (2, .int x2), (3, .int v1)] [1, 2, 0] rfl ?_
    exact hr4 x2 v1 h hF
  · refine j_iload_n (pc := 25) 1 X dX7_leavesRings_25 rfl ?_
    refine j_iload (pc := 26) 3 X dX7_leavesRings_26 rfl ?_
    refine j_cSNi (pc := 28) (As := [.int x2, .int x4]) (rest := []) X dX7_leavesRings_28 ml_X7_34 ck_X11_has sk_X11_has (Nat.le_of_ble_eq_true rfl) rfl (Nat.le_of_ble_eq_true rfl) rfl hF (tX11_has Z x2 x4 trivial h) (fun w3 h2 hF => ?_)
    refine j_if_eq (pc := 31) 61 X dX7_leavesRings_31 rfl hF (fun hF => ?_) (fun hF => ?_)
    · exact BX7_leavesRings_61 X E hz r4 hr4 r13 hr13 x2 x3 x4 h2 hF
    · refine j_aload_n (pc := 34) 0 X dX7_leavesRings_34 rfl ?_
      refine j_getr (pc := 35) X dX7_leavesRings_35 (hz _ sh_209) fl_X7_15 rfl ?_
      refine j_getr (pc := 38) X dX7_leavesRings_38 (hz _ sh_108) fl_X7_25 rfl ?_
      refine j_iload (pc := 41) 3 X dX7_leavesRings_41 rfl ?_
      refine j_aald (pc := 43) (g := fun j => 115 + j) (C := "AfterOffice$Letter") X dX7_leavesRings_43 (hz _ sh_111) (fun _ => rfl) rfl al_111 hF (fun hb4 hF => ?_)
      refine j_geti (pc := 44) X dX7_leavesRings_44 (hz _ (shL (is_111 hb4))) fl_X7_29 rfl ?_
      refine j_iload_n (pc := 47) 1 X dX7_leavesRings_47 rfl ?_
      refine j_iand (pc := 48) X dX7_leavesRings_48 ?_
      refine j_if_ne (pc := 49) 61 X dX7_leavesRings_49 rfl hF (fun hF => ?_) (fun hF => ?_)
      · exact BX7_leavesRings_61 X E hz r4 hr4 r13 hr13 x2 x3 x4 h2 hF
      · refine j_iload_n (pc := 52) 1 X dX7_leavesRings_52 rfl ?_
        refine j_iconst (pc := 53) 1 X dX7_leavesRings_53 rfl ?_
        refine j_iload (pc := 54) 3 X dX7_leavesRings_54 rfl ?_
        refine j_ishl (pc := 56) X dX7_leavesRings_56 ?_
        refine j_iconst (pc := 57) (-1) X dX7_leavesRings_57 rfl ?_
        refine j_ixor (pc := 58) X dX7_leavesRings_58 ?_
        refine j_iand (pc := 59) X dX7_leavesRings_59 ?_
        refine j_istore_n (pc := 60) (fun y => [(2, .int y), (0, .ref (Z.2.1 209)), (3, .int x3), (4, .int x4)]) X dX7_leavesRings_60 (by decide) (fun _ => rfl) hF (fun v5 hF => ?_)
        refine j_lv [(0, .ref (Z.2.1 209)), (2, .int v5), (3, .int x3), (4, .int x4)] [1, 0, 2, 3] rfl ?_
        exact BX7_leavesRings_61 X E hz r4 hr4 r13 hr13 v5 x3 x4 h2 hF
theorem LX7_leavesRings_13 {Z : ZT} {G : GT} {r : Int32} {hr : Hp} (X : CX Z G cX7_leavesRings RX7 5 1) (E : RX Z G (some .boolean) (some (.int r)) hr) (hz : HZ Z) (r4 : Int32 → Int32 → Hp → Option (Int32 × Hp)) (hr4 : ∀ (x2 : Int32) (x3 : Int32) (h : Hp), r4 x2 x3 h = some (r, hr) → J Z G 5 h 4 [(0, .ref (Z.2.1 209)), (2, .int x2), (3, .int x3)] []) : ∀ (n : Nat) (x2 : Int32) (x3 : Int32) (x4 : Int32) (h : Hp), lX7_leavesRings_13  r4 n x2 x3 x4 h = some (r, hr) → J Z G 5 h 13 [(0, .ref (Z.2.1 209)), (2, .int x2), (3, .int x3), (4, .int x4)] [] := by
  intro n
  induction n with
  | zero => intro x2 x3 x4 h hF; cases hF
  | succ n ih => intro x2 x3 x4 h hF; exact BX7_leavesRings_13 X E hz r4 hr4 (lX7_leavesRings_13  r4 n) ih x2 x3 x4 h hF
def bX7_leavesRings_4   (r4 : Int32 → Int32 → Hp → Option (Int32 × Hp)) (x2 : Int32) (x3 : Int32) (h : Hp) : Option (Int32 × Hp) := (if 10 ≤ x3 then (if x2 = 0 then ck (zb 0) (some (0, h)) else ck (zb 1) (some (1, h))) else lt 0 (fun v1 => lX7_leavesRings_13 r4 FU x2 x3 v1 h))
def lX7_leavesRings_4   : Nat → Int32 → Int32 → Hp → Option (Int32 × Hp)
  | 0 => fun _ _ _ => none
  | n + 1 => bX7_leavesRings_4   (lX7_leavesRings_4   n)
set_option maxRecDepth 20000 in
theorem BX7_leavesRings_4 {Z : ZT} {G : GT} {r : Int32} {hr : Hp} (X : CX Z G cX7_leavesRings RX7 5 1) (E : RX Z G (some .boolean) (some (.int r)) hr) (hz : HZ Z)  (r4 : Int32 → Int32 → Hp → Option (Int32 × Hp)) (hr4 : ∀ (x2 : Int32) (x3 : Int32) (h : Hp), r4 x2 x3 h = some (r, hr) → J Z G 5 h 4 [(0, .ref (Z.2.1 209)), (2, .int x2), (3, .int x3)] []) (x2 : Int32) (x3 : Int32) (h : Hp) (hF : bX7_leavesRings_4   r4 x2 x3 h = some (r, hr)) : J Z G 5 h 4 [(0, .ref (Z.2.1 209)), (2, .int x2), (3, .int x3)] [] := by
  unfold bX7_leavesRings_4 at hF
  refine j_iload_n (pc := 4) 2 X dX7_leavesRings_4 rfl ?_
  refine j_bipush (pc := 5) 10 X dX7_leavesRings_5 rfl ?_
  refine j_icmp_ge (pc := 7) 73 X dX7_leavesRings_7 rfl hF (fun hF => ?_) (fun hF => ?_)
  · refine j_iload_n (pc := 73) 1 X dX7_leavesRings_73 rfl ?_
    refine j_if_eq (pc := 74) 81 X dX7_leavesRings_74 rfl hF (fun hF => ?_) (fun hF => ?_)
    · refine j_iconst (pc := 81) 0 X dX7_leavesRings_81 rfl ?_
      exact j_zret (pc := 82) X E dX7_leavesRings_82 hF
    · refine j_iconst (pc := 77) 1 X dX7_leavesRings_77 rfl ?_
      refine j_goto (pc := 78) 82 X dX7_leavesRings_78 rfl ?_
      exact j_zret (pc := 82) X E dX7_leavesRings_82 hF
  · refine j_iconst (pc := 10) 0 X dX7_leavesRings_10 rfl ?_
    refine j_istore (pc := 11) (fun y => [(4, .int y), (0, .ref (Z.2.1 209)), (2, .int x2), (3, .int x3)]) X dX7_leavesRings_11 (by decide) (fun _ => rfl) hF (fun v1 hF => ?_)
    refine j_lv [(0, .ref (Z.2.1 209)), (2, .int x2), (3, .int x3), (4, .int v1)] [1, 2, 3, 0] rfl ?_
    exact LX7_leavesRings_13 X E hz r4 hr4 FU x2 x3 v1 h hF
theorem LX7_leavesRings_4 {Z : ZT} {G : GT} {r : Int32} {hr : Hp} (X : CX Z G cX7_leavesRings RX7 5 1) (E : RX Z G (some .boolean) (some (.int r)) hr) (hz : HZ Z)  : ∀ (n : Nat) (x2 : Int32) (x3 : Int32) (h : Hp), lX7_leavesRings_4   n x2 x3 h = some (r, hr) → J Z G 5 h 4 [(0, .ref (Z.2.1 209)), (2, .int x2), (3, .int x3)] [] := by
  intro n
  induction n with
  | zero => intro x2 x3 h hF; cases hF
  | succ n ih => intro x2 x3 h hF; exact BX7_leavesRings_4 X E hz  (lX7_leavesRings_4   n) ih x2 x3 h hF
def fX7_leavesRings (a1 : Int32) (h : Hp) : Option (Int32 × Hp) := lt a1 (fun v1 => lt 0 (fun v2 => lX7_leavesRings_4 FU v1 v2 h))
set_option maxRecDepth 20000 in
theorem tX7_leavesRings (Z : ZT) (a1 : Int32) (hz : HZ Z) (h : Hp) (r : Int32) (hr : Hp) (hF : fX7_leavesRings a1 h = some (r, hr)) : MC Z yX7_leavesRings cX7_leavesRings 5 (some .boolean) 1 [.ref (Z.2.1 209), .int a1] h (some (.int r)) hr := by
  unfold fX7_leavesRings at hF
  refine mc_start (by decide) (Nat.le_of_ble_eq_true rfl) (fun G X E => ?_)
  refine j_iload_n (pc := 0) 1 X dX7_leavesRings_0 rfl ?_
  refine j_istore_n (pc := 1) (fun y => [(2, .int y), (0, .ref (Z.2.1 209)), (1, .int a1)]) X dX7_leavesRings_1 (by decide) (fun _ => rfl) hF (fun v1 hF => ?_)
  refine j_iconst (pc := 2) 0 X dX7_leavesRings_2 rfl ?_
  refine j_istore_n (pc := 3) (fun y => [(3, .int y), (2, .int v1), (0, .ref (Z.2.1 209)), (1, .int a1)]) X dX7_leavesRings_3 (by decide) (fun _ => rfl) hF (fun v2 hF => ?_)
  refine j_lv [(0, .ref (Z.2.1 209)), (2, .int v1), (3, .int v2)] [2, 1, 0] rfl ?_
  exact LX7_leavesRings_4 X E hz FU v1 v2 h hF
theorem dX7_fewestToBurn_0 : decode cX7_fewestToBurn 0 = .ok (.iconst 1, 1) := by decide +kernel
theorem dX7_fewestToBurn_1 : decode cX7_fewestToBurn 1 = .ok (.aload_n 0, 1) := by decide +kernel
theorem dX7_fewestToBurn_2 : decode cX7_fewestToBurn 2 = .ok (.getfield 15, 3) := by decide +kernel
theorem dX7_fewestToBurn_5 : decode cX7_fewestToBurn 5 = .ok (.getfield 19, 3) := by decide +kernel
theorem dX7_fewestToBurn_8 : decode cX7_fewestToBurn 8 = .ok (.ishl, 1) := by decide +kernel
theorem dX7_fewestToBurn_9 : decode cX7_fewestToBurn 9 = .ok (.iconst 1, 1) := by decide +kernel
theorem dX7_fewestToBurn_10 : decode cX7_fewestToBurn 10 = .ok (.isub, 1) := by decide +kernel
theorem dX7_fewestToBurn_11 : decode cX7_fewestToBurn 11 = .ok (.istore_n 1, 1) := by decide +kernel
theorem dX7_fewestToBurn_12 : decode cX7_fewestToBurn 12 = .ok (.iload_n 1, 1) := by decide +kernel
theorem dX7_fewestToBurn_13 : decode cX7_fewestToBurn 13 = .ok (.istore_n 2, 1) := by decide +kernel
theorem dX7_fewestToBurn_14 : decode cX7_fewestToBurn 14 = .ok (.iconst 0, 1) := by decide +kernel
theorem dX7_fewestToBurn_15 : decode cX7_fewestToBurn 15 = .ok (.istore_n 3, 1) := by decide +kernel
theorem dX7_fewestToBurn_16 : decode cX7_fewestToBurn 16 = .ok (.iload_n 3, 1) := by decide +kernel
theorem dX7_fewestToBurn_17 : decode cX7_fewestToBurn 17 = .ok (.iload_n 1, 1) := by decide +kernel
theorem dX7_fewestToBurn_18 : decode cX7_fewestToBurn 18 = .ok (.if_icmp .ge 34, 3) := by decide +kernel
theorem dX7_fewestToBurn_21 : decode cX7_fewestToBurn 21 = .ok (.iload_n 3, 1) := by decide +kernel
theorem dX7_fewestToBurn_22 : decode cX7_fewestToBurn 22 = .ok (.invokestatic 50, 3) := by decide +kernel
theorem dX7_fewestToBurn_25 : decode cX7_fewestToBurn 25 = .ok (.iload_n 2, 1) := by decide +kernel
theorem dX7_fewestToBurn_26 : decode cX7_fewestToBurn 26 = .ok (.invokestatic 50, 3) := by decide +kernel
theorem dX7_fewestToBurn_29 : decode cX7_fewestToBurn 29 = .ok (.if_icmp .ge 17, 3) := by decide +kernel
theorem dX7_fewestToBurn_32 : decode cX7_fewestToBurn 32 = .ok (.aload_n 0, 1) := by decide +kernel
theorem dX7_fewestToBurn_33 : decode cX7_fewestToBurn 33 = .ok (.iload_n 1, 1) := by decide +kernel
theorem dX7_fewestToBurn_34 : decode cX7_fewestToBurn 34 = .ok (.iload_n 3, 1) := by decide +kernel
theorem dX7_fewestToBurn_35 : decode cX7_fewestToBurn 35 = .ok (.iconst (-1), 1) := by decide +kernel
theorem dX7_fewestToBurn_36 : decode cX7_fewestToBurn 36 = .ok (.ixor, 1) := by decide +kernel
theorem dX7_fewestToBurn_37 : decode cX7_fewestToBurn 37 = .ok (.iand, 1) := by decide +kernel
theorem dX7_fewestToBurn_38 : decode cX7_fewestToBurn 38 = .ok (.invokevirtual 53, 3) := by decide +kernel
theorem dX7_fewestToBurn_41 : decode cX7_fewestToBurn 41 = .ok (.ifCond .ne 5, 3) := by decide +kernel
theorem dX7_fewestToBurn_44 : decode cX7_fewestToBurn 44 = .ok (.iload_n 3, 1) := by decide +kernel
theorem dX7_fewestToBurn_45 : decode cX7_fewestToBurn 45 = .ok (.istore_n 2, 1) := by decide +kernel
theorem dX7_fewestToBurn_46 : decode cX7_fewestToBurn 46 = .ok (.iinc 3 1, 3) := by decide +kernel
theorem dX7_fewestToBurn_49 : decode cX7_fewestToBurn 49 = .ok (.goto (-33), 3) := by decide +kernel
theorem dX7_fewestToBurn_52 : decode cX7_fewestToBurn 52 = .ok (.iload_n 2, 1) := by decide +kernel
theorem dX7_fewestToBurn_53 : decode cX7_fewestToBurn 53 = .ok (.ireturn, 1) := by decide +kernel
def bX7_fewestToBurn_46  (r16 : Int32 → Int32 → Int32 → Hp → Option (Int32 × Hp)) (x1 : Int32) (x2 : Int32) (x3 : Int32) (h : Hp) : Option (Int32 × Hp) := lt (x3 + 1) (fun v1 => r16 x1 x2 v1 h)
set_option maxRecDepth 20000 in
theorem BX7_fewestToBurn_46 {Z : ZT} {G : GT} {r : Int32} {hr : Hp} (X : CX Z G cX7_fewestToBurn RX7 4 2) (E : RX Z G (some .int) (some (.int r)) hr) (hz : HZ Z) (r16 : Int32 → Int32 → Int32 → Hp → Option (Int32 × Hp)) (hr16 : ∀ (x1 : Int32) (x2 : Int32) (x3 : Int32) (h : Hp), r16 x1 x2 x3 h = some (r, hr) → J Z G 4 h 16 [(0, .ref (Z.2.1 209)), (1, .int x1), (2, .int x2), (3, .int x3)] []) (x1 : Int32) (x2 : Int32) (x3 : Int32) (h : Hp) (hF : bX7_fewestToBurn_46  r16 x1 x2 x3 h = some (r, hr)) : J Z G 4 h 46 [(0, .ref (Z.2.1 209)), (1, .int x1), (2, .int x2), (3, .int x3)] [] := by
  unfold bX7_fewestToBurn_46 at hF
  refine j_iinc (pc := 46) 3 (x3 + 1) (fun y => [(3, .int y), (0, .ref (Z.2.1 209)), (1, .int x1), (2, .int x2)]) X dX7_fewestToBurn_46 rfl rfl (by decide) (fun _ => rfl) hF (fun v1 hF => ?_)
  refine j_goto (pc := 49) 16 X dX7_fewestToBurn_49 rfl ?_
  refine j_lv [(0, .ref (Z.2.1 209)), (1, .int x1), (2, .int x2), (3, .int v1)] [1, 2, 3, 0] rfl ?_
  exact hr16 x1 x2 v1 h hF
def bX7_fewestToBurn_16   (r16 : Int32 → Int32 → Int32 → Hp → Option (Int32 × Hp)) (x1 : Int32) (x2 : Int32) (x3 : Int32) (h : Hp) : Option (Int32 × Hp) := (if x1 ≤ x3 then some (x2, h) else bi (fJ6_bitCount_0f7a4 x3 h) (fun w2 h1 => bi (fJ6_bitCount_0f7a4 x2 h1) (fun w4 h3 => (if w4 ≤ w2 then bX7_fewestToBurn_46 r16 x1 x2 x3 h3 else bi (fX7_leavesRings (x1 &&& (x3 ^^^ (-1))) h3) (fun w6 h5 => (if w6 = 0 then lt x3 (fun v7 => bX7_fewestToBurn_46 r16 x1 v7 x3 h5) else bX7_fewestToBurn_46 r16 x1 x2 x3 h5))))))
def lX7_fewestToBurn_16   : Nat → Int32 → Int32 → Int32 → Hp → Option (Int32 × Hp)
  | 0 => fun _ _ _ _ => none
  | n + 1 => bX7_fewestToBurn_16   (lX7_fewestToBurn_16   n)
set_option maxRecDepth 20000 in
theorem BX7_fewestToBurn_16 {Z : ZT} {G : GT} {r : Int32} {hr : Hp} (X : CX Z G cX7_fewestToBurn RX7 4 2) (E : RX Z G (some .int) (some (.int r)) hr) (hz : HZ Z)  (r16 : Int32 → Int32 → Int32 → Hp → Option (Int32 × Hp)) (hr16 : ∀ (x1 : Int32) (x2 : Int32) (x3 : Int32) (h : Hp), r16 x1 x2 x3 h = some (r, hr) → J Z G 4 h 16 [(0, .ref (Z.2.1 209)), (1, .int x1), (2, .int x2), (3, .int x3)] []) (x1 : Int32) (x2 : Int32) (x3 : Int32) (h : Hp) (hF : bX7_fewestToBurn_16   r16 x1 x2 x3 h = some (r, hr)) : J Z G 4 h 16 [(0, .ref (Z.2.1 209)), (1, .int x1), (2, .int x2), (3, .int x3)] [] := by
  unfold bX7_fewestToBurn_16 at hF
  refine j_iload_n (pc := 16) 3 X dX7_fewestToBurn_16 rfl ?_
  refine j_iload_n (pc := 17) 1 X dX7_fewestToBurn_17 rfl ?_
  refine j_icmp_ge (pc := 18) 52 X dX7_fewestToBurn_18 rfl hF (fun hF => ?_) (fun hF => ?_)
  · refine j_iload_n (pc := 52) 2 X dX7_fewestToBurn_52 rfl ?_
    exact j_iret (pc := 53) X E dX7_fewestToBurn_53 hF
  · refine j_iload_n (pc := 21) 3 X dX7_fewestToBurn_21 rfl ?_
    refine j_cSi (pc := 22) (As := [.int x3]) (rest := []) X dX7_fewestToBurn_22 ml_X7_50 ck_J6_bitCount_0f7a4 sk_J6_bitCount_0f7a4 (Nat.le_of_ble_eq_true rfl) rfl (Nat.le_of_ble_eq_true rfl) rfl hF (tJ6_bitCount_0f7a4 Z x3 trivial h) (fun w2 h1 hF => ?_)
    refine j_iload_n (pc := 25) 2 X dX7_fewestToBurn_25 rfl ?_
    refine j_cSi (pc := 26) (As := [.int x2]) (rest := [.int w2]) X dX7_fewestToBurn_26 ml_X7_50 ck_J6_bitCount_0f7a4 sk_J6_bitCount_0f7a4 (Nat.le_of_ble_eq_true rfl) rfl (Nat.le_of_ble_eq_true rfl) rfl hF (tJ6_bitCount_0f7a4 Z x2 trivial h1) (fun w4 h3 hF => ?_)
    refine j_icmp_ge (pc := 29) 46 X dX7_fewestToBurn_29 rfl hF (fun hF => ?_) (fun hF => ?_)
    · exact BX7_fewestToBurn_46 X E hz r16 hr16 x1 x2 x3 h3 hF
    · refine j_aload_n (pc := 32) 0 X dX7_fewestToBurn_32 rfl ?_
      refine j_iload_n (pc := 33) 1 X dX7_fewestToBurn_33 rfl ?_
      refine j_iload_n (pc := 34) 3 X dX7_fewestToBurn_34 rfl ?_
      refine j_iconst (pc := 35) (-1) X dX7_fewestToBurn_35 rfl ?_
      refine j_ixor (pc := 36) X dX7_fewestToBurn_36 ?_
      refine j_iand (pc := 37) X dX7_fewestToBurn_37 ?_
      refine j_cVi (pc := 38) (As := [.int (x1 &&& (x3 ^^^ (-1)))]) (rest := []) X dX7_fewestToBurn_38 ml_X7_53 ck_X7_leavesRings cv_X7_leavesRings (hz _ sh_209) rfl (Nat.le_of_ble_eq_true rfl) rfl (Nat.le_of_ble_eq_true rfl) rfl hF (tX7_leavesRings Z (x1 &&& (x3 ^^^ (-1))) hz h3) (fun w6 h5 hF => ?_)
      refine j_if_ne (pc := 41) 46 X dX7_fewestToBurn_41 rfl hF (fun hF => ?_) (fun hF => ?_)
      · exact BX7_fewestToBurn_46 X E hz r16 hr16 x1 x2 x3 h5 hF
      · refine j_iload_n (pc := 44) 3 X dX7_fewestToBurn_44 rfl ?_
        refine j_istore_n (pc := 45) (fun y => [(2, .int y), (0, .ref (Z.2.1 209)), (1, .int x1), (3, .int x3)]) X dX7_fewestToBurn_45 (by decide) (fun _ => rfl) hF (fun v7 hF => ?_)
        refine j_lv [(0, .ref (Z.2.1 209)), (1, .int x1), (2, .int v7), (3, .int x3)] [1, 2, 0, 3] rfl ?_
        exact BX7_fewestToBurn_46 X E hz r16 hr16 x1 v7 x3 h5 hF
theorem LX7_fewestToBurn_16 {Z : ZT} {G : GT} {r : Int32} {hr : Hp} (X : CX Z G cX7_fewestToBurn RX7 4 2) (E : RX Z G (some .int) (some (.int r)) hr) (hz : HZ Z)  : ∀ (n : Nat) (x1 : Int32) (x2 : Int32) (x3 : Int32) (h : Hp), lX7_fewestToBurn_16   n x1 x2 x3 h = some (r, hr) → J Z G 4 h 16 [(0, .ref (Z.2.1 209)), (1, .int x1), (2, .int x2), (3, .int x3)] [] := by
  intro n
  induction n with
  | zero => intro x1 x2 x3 h hF; cases hF
  | succ n ih => intro x1 x2 x3 h hF; exact BX7_fewestToBurn_16 X E hz  (lX7_fewestToBurn_16   n) ih x1 x2 x3 h hF
def fX7_fewestToBurn  (h : Hp) : Option (Int32 × Hp) := lt (((1 : Int32) <<< ((h.1 108 9) &&& 31)) - 1) (fun v1 => lt v1 (fun v2 => lt 0 (fun v3 => lX7_fewestToBurn_16 FU v1 v2 v3 h)))
set_option maxRecDepth 20000 in
theorem tX7_fewestToBurn (Z : ZT)  (hz : HZ Z) (h : Hp) (r : Int32) (hr : Hp) (hF : fX7_fewestToBurn  h = some (r, hr)) : MC Z yX7_fewestToBurn cX7_fewestToBurn 4 (some .int) 2 [.ref (Z.2.1 209)] h (some (.int r)) hr := by
  unfold fX7_fewestToBurn at hF
  refine mc_start (by decide) (Nat.le_of_ble_eq_true rfl) (fun G X E => ?_)
  refine j_iconst (pc := 0) 1 X dX7_fewestToBurn_0 rfl ?_
  refine j_aload_n (pc := 1) 0 X dX7_fewestToBurn_1 rfl ?_
  refine j_getr (pc := 2) X dX7_fewestToBurn_2 (hz _ sh_209) fl_X7_15 rfl ?_
  refine j_geti (pc := 5) X dX7_fewestToBurn_5 (hz _ sh_108) fl_X7_19 rfl ?_
  refine j_ishl (pc := 8) X dX7_fewestToBurn_8 ?_
  refine j_iconst (pc := 9) 1 X dX7_fewestToBurn_9 rfl ?_
  refine j_isub (pc := 10) X dX7_fewestToBurn_10 ?_
  refine j_istore_n (pc := 11) (fun y => [(1, .int y), (0, .ref (Z.2.1 209))]) X dX7_fewestToBurn_11 (by decide) (fun _ => rfl) hF (fun v1 hF => ?_)
  refine j_iload_n (pc := 12) 0 X dX7_fewestToBurn_12 rfl ?_
  refine j_istore_n (pc := 13) (fun y => [(2, .int y), (1, .int v1), (0, .ref (Z.2.1 209))]) X dX7_fewestToBurn_13 (by decide) (fun _ => rfl) hF (fun v2 hF => ?_)
  refine j_iconst (pc := 14) 0 X dX7_fewestToBurn_14 rfl ?_
  refine j_istore_n (pc := 15) (fun y => [(3, .int y), (2, .int v2), (1, .int v1), (0, .ref (Z.2.1 209))]) X dX7_fewestToBurn_15 (by decide) (fun _ => rfl) hF (fun v3 hF => ?_)
  refine j_lv [(0, .ref (Z.2.1 209)), (1, .int v1), (2, .int v2), (3, .int v3)] [3, 2, 1, 0] rfl ?_
  exact LX7_fewestToBurn_16 X E hz FU v1 v2 v3 h hF
theorem dX8_hasRoom_0 : decode cX8_hasRoom 0 = .ok (.aload_n 0, 1) := by decide +kernel
theorem dX8_hasRoom_1 : decode cX8_hasRoom 1 = .ok (.getfield 15, 3) := by decide +kernel
theorem dX8_hasRoom_4 : decode cX8_hasRoom 4 = .ok (.bipush 20, 2) := by decide +kernel
theorem dX8_hasRoom_6 : decode cX8_hasRoom 6 = .ok (.iadd, 1) := by decide +kernel
theorem dX8_hasRoom_7 : decode cX8_hasRoom 7 = .ok (.sipush 2000, 3) := by decide +kernel
theorem dX8_hasRoom_10 : decode cX8_hasRoom 10 = .ok (.if_icmp .gt 7, 3) := by decide +kernel
theorem dX8_hasRoom_13 : decode cX8_hasRoom 13 = .ok (.iconst 1, 1) := by decide +kernel
theorem dX8_hasRoom_14 : decode cX8_hasRoom 14 = .ok (.goto 4, 3) := by decide +kernel
theorem dX8_hasRoom_17 : decode cX8_hasRoom 17 = .ok (.iconst 0, 1) := by decide +kernel
theorem dX8_hasRoom_18 : decode cX8_hasRoom 18 = .ok (.ireturn, 1) := by decide +kernel
def fX8_hasRoom  (h : Hp) : Option (Int32 × Hp) := (if 2000 < ((h.1 101 1) + 20) then ck (zb 0) (some (0, h)) else ck (zb 1) (some (1, h)))
set_option maxRecDepth 20000 in
theorem tX8_hasRoom (Z : ZT)  (hz : HZ Z) (h : Hp) (r : Int32) (hr : Hp) (hF : fX8_hasRoom  h = some (r, hr)) : MC Z yX8_hasRoom cX8_hasRoom 1 (some .boolean) 0 [.ref (Z.2.1 101)] h (some (.int r)) hr := by
  unfold fX8_hasRoom at hF
  refine mc_start (by decide) (Nat.le_of_ble_eq_true rfl) (fun G X E => ?_)
  refine j_aload_n (pc := 0) 0 X dX8_hasRoom_0 rfl ?_
  refine j_geti (pc := 1) X dX8_hasRoom_1 (hz _ sh_101) fl_X8_15 rfl ?_
  refine j_bipush (pc := 4) 20 X dX8_hasRoom_4 rfl ?_
  refine j_iadd (pc := 6) X dX8_hasRoom_6 ?_
  refine j_sipush (pc := 7) 2000 X dX8_hasRoom_7 rfl ?_
  refine j_icmp_gt (pc := 10) 17 X dX8_hasRoom_10 rfl hF (fun hF => ?_) (fun hF => ?_)
  · refine j_iconst (pc := 17) 0 X dX8_hasRoom_17 rfl ?_
    exact j_zret (pc := 18) X E dX8_hasRoom_18 hF
  · refine j_iconst (pc := 13) 1 X dX8_hasRoom_13 rfl ?_
    refine j_goto (pc := 14) 18 X dX8_hasRoom_14 rfl ?_
    exact j_zret (pc := 18) X E dX8_hasRoom_18 hF
theorem dX8_add_0 : decode cX8_add 0 = .ok (.bipush 24, 2) := by decide +kernel
theorem dX8_add_2 : decode cX8_add 2 = .ok (.istore_n 2, 1) := by decide +kernel
theorem dX8_add_3 : decode cX8_add 3 = .ok (.iload_n 2, 1) := by decide +kernel
theorem dX8_add_4 : decode cX8_add 4 = .ok (.ifCond .lt 42, 3) := by decide +kernel
theorem dX8_add_7 : decode cX8_add 7 = .ok (.aload_n 0, 1) := by decide +kernel
theorem dX8_add_8 : decode cX8_add 8 = .ok (.getfield 15, 3) := by decide +kernel
theorem dX8_add_11 : decode cX8_add 11 = .ok (.sipush 2000, 3) := by decide +kernel
theorem dX8_add_14 : decode cX8_add 14 = .ok (.if_icmp .ge 32, 3) := by decide +kernel
theorem dX8_add_17 : decode cX8_add 17 = .ok (.aload_n 0, 1) := by decide +kernel
theorem dX8_add_18 : decode cX8_add 18 = .ok (.getfield 9, 3) := by decide +kernel
theorem dX8_add_21 : decode cX8_add 21 = .ok (.aload_n 0, 1) := by decide +kernel
theorem dX8_add_22 : decode cX8_add 22 = .ok (.getfield 15, 3) := by decide +kernel
theorem dX8_add_25 : decode cX8_add 25 = .ok (.iload_n 1, 1) := by decide +kernel
theorem dX8_add_26 : decode cX8_add 26 = .ok (.iload_n 2, 1) := by decide +kernel
theorem dX8_add_27 : decode cX8_add 27 = .ok (.iushr, 1) := by decide +kernel
theorem dX8_add_28 : decode cX8_add 28 = .ok (.i2b, 1) := by decide +kernel
theorem dX8_add_29 : decode cX8_add 29 = .ok (.bastore, 1) := by decide +kernel
theorem dX8_add_30 : decode cX8_add 30 = .ok (.aload_n 0, 1) := by decide +kernel
theorem dX8_add_31 : decode cX8_add 31 = .ok (.dup, 1) := by decide +kernel
theorem dX8_add_32 : decode cX8_add 32 = .ok (.getfield 15, 3) := by decide +kernel
theorem dX8_add_35 : decode cX8_add 35 = .ok (.iconst 1, 1) := by decide +kernel
theorem dX8_add_36 : decode cX8_add 36 = .ok (.iadd, 1) := by decide +kernel
theorem dX8_add_37 : decode cX8_add 37 = .ok (.putfield 15, 3) := by decide +kernel
theorem dX8_add_40 : decode cX8_add 40 = .ok (.iinc 2 (-8), 3) := by decide +kernel
theorem dX8_add_43 : decode cX8_add 43 = .ok (.goto (-40), 3) := by decide +kernel
theorem dX8_add_46 : decode cX8_add 46 = .ok (.return_, 1) := by decide +kernel
def bX8_add_3   (r3 : Int32 → Int32 → Hp → Option (Hp)) (x1 : Int32) (x2 : Int32) (h : Hp) : Option (Hp) := (if x2 < 0 then some h else (if 2000 ≤ (h.1 101 1) then some h else ck (inb (h.1 101 1) 2000) (lt (wI h 102 (ix (h.1 101 1)) (vp_nar .byte ((ushr x1 x2).toInt8.toInt32))) (fun h1 => lt (wI h1 101 1 ((h1.1 101 1) + 1)) (fun h2 => lt (x2 + (-8)) (fun v3 => r3 x1 v3 h2))))))
def lX8_add_3   : Nat → Int32 → Int32 → Hp → Option (Hp)
  | 0 => fun _ _ _ => none
  | n + 1 => bX8_add_3   (lX8_add_3   n)
set_option maxRecDepth 20000 in
theorem BX8_add_3 {Z : ZT} {G : GT} {hr : Hp} (X : CX Z G cX8_add RX8 3 0) (E : RX Z G none (none) hr) (hz : HZ Z)  (r3 : Int32 → Int32 → Hp → Option (Hp)) (hr3 : ∀ (x1 : Int32) (x2 : Int32) (h : Hp), r3 x1 x2 h = some hr → J Z G 3 h 3 [(0, .ref (Z.2.1 101)), (1, .int x1), (2, .int x2)] []) (x1 : Int32) (x2 : Int32) (h : Hp) (hF : bX8_add_3   r3 x1 x2 h = some hr) : J Z G 3 h 3 [(0, .ref (Z.2.1 101)), (1, .int x1), (2, .int x2)] [] := by
  unfold bX8_add_3 at hF
  refine j_iload_n (pc := 3) 2 X dX8_add_3 rfl ?_
  refine j_if_lt (pc := 4) 46 X dX8_add_4 rfl hF (fun hF => ?_) (fun hF => ?_)
  · exact j_vret (pc := 46) X E dX8_add_46 hF
  · refine j_aload_n (pc := 7) 0 X dX8_add_7 rfl ?_
    refine j_geti (pc := 8) X dX8_add_8 (hz _ sh_101) fl_X8_15 rfl ?_
    refine j_sipush (pc := 11) 2000 X dX8_add_11 rfl ?_
    refine j_icmp_ge (pc := 14) 46 X dX8_add_14 rfl hF (fun hF => ?_) (fun hF => ?_)
    · exact j_vret (pc := 46) X E dX8_add_46 hF
    · refine j_aload_n (pc := 17) 0 X dX8_add_17 rfl ?_
      refine j_getr (pc := 18) X dX8_add_18 (hz _ sh_101) fl_X8_9 rfl ?_
      refine j_aload_n (pc := 21) 0 X dX8_add_21 rfl ?_
      refine j_geti (pc := 22) X dX8_add_22 (hz _ sh_101) fl_X8_15 rfl ?_
      refine j_iload_n (pc := 25) 1 X dX8_add_25 rfl ?_
      refine j_iload_n (pc := 26) 2 X dX8_add_26 rfl ?_
      refine j_iushr (pc := 27) X dX8_add_27 ?_
      refine j_i2b (pc := 28) X dX8_add_28 ?_
      refine j_bast (pc := 29) X dX8_add_29 (hz _ sh_102) hF (fun h1 hF => ?_)
      refine j_aload_n (pc := 30) 0 X dX8_add_30 rfl ?_
      refine j_dup (pc := 31) X dX8_add_31 rfl ?_
      refine j_geti (pc := 32) X dX8_add_32 (hz _ sh_101) fl_X8_15 rfl ?_
      refine j_iconst (pc := 35) 1 X dX8_add_35 rfl ?_
      refine j_iadd (pc := 36) X dX8_add_36 ?_
      refine j_puti (pc := 37) X dX8_add_37 (hz _ sh_101) fp_X8_15 rfl hF (fun h2 hF => ?_)
      refine j_iinc (pc := 40) 2 (x2 + (-8)) (fun y => [(2, .int y), (0, .ref (Z.2.1 101)), (1, .int x1)]) X dX8_add_40 rfl rfl (by decide) (fun _ => rfl) hF (fun v3 hF => ?_)
      refine j_goto (pc := 43) 3 X dX8_add_43 rfl ?_
      refine j_lv [(0, .ref (Z.2.1 101)), (1, .int x1), (2, .int v3)] [1, 2, 0] rfl ?_
      exact hr3 x1 v3 h2 hF
theorem LX8_add_3 {Z : ZT} {G : GT} {hr : Hp} (X : CX Z G cX8_add RX8 3 0) (E : RX Z G none (none) hr) (hz : HZ Z)  : ∀ (n : Nat) (x1 : Int32) (x2 : Int32) (h : Hp), lX8_add_3   n x1 x2 h = some hr → J Z G 3 h 3 [(0, .ref (Z.2.1 101)), (1, .int x1), (2, .int x2)] [] := by
  intro n
  induction n with
  | zero => intro x1 x2 h hF; cases hF
  | succ n ih => intro x1 x2 h hF; exact BX8_add_3 X E hz  (lX8_add_3   n) ih x1 x2 h hF
def fX8_add (a1 : Int32) (h : Hp) : Option (Hp) := lt 24 (fun v1 => lX8_add_3 FU a1 v1 h)
set_option maxRecDepth 20000 in
theorem tX8_add (Z : ZT) (a1 : Int32) (hz : HZ Z) (h : Hp) (hr : Hp) (hF : fX8_add a1 h = some hr) : MC Z yX8_add cX8_add 3 none 0 [.ref (Z.2.1 101), .int a1] h (none) hr := by
  unfold fX8_add at hF
  refine mc_start (by decide) (Nat.le_of_ble_eq_true rfl) (fun G X E => ?_)
  refine j_bipush (pc := 0) 24 X dX8_add_0 rfl ?_
  refine j_istore_n (pc := 2) (fun y => [(2, .int y), (0, .ref (Z.2.1 101)), (1, .int a1)]) X dX8_add_2 (by decide) (fun _ => rfl) hF (fun v1 hF => ?_)
  refine j_lv [(0, .ref (Z.2.1 101)), (1, .int a1), (2, .int v1)] [1, 2, 0] rfl ?_
  exact LX8_add_3 X E hz FU a1 v1 h hF
theorem dX8_byteAt_0 : decode cX8_byteAt 0 = .ok (.iload_n 1, 1) := by decide +kernel
theorem dX8_byteAt_1 : decode cX8_byteAt 1 = .ok (.iconst 0, 1) := by decide +kernel
theorem dX8_byteAt_2 : decode cX8_byteAt 2 = .ok (.aload_n 0, 1) := by decide +kernel
theorem dX8_byteAt_3 : decode cX8_byteAt 3 = .ok (.getfield 15, 3) := by decide +kernel
theorem dX8_byteAt_6 : decode cX8_byteAt 6 = .ok (.iconst 1, 1) := by decide +kernel
theorem dX8_byteAt_7 : decode cX8_byteAt 7 = .ok (.isub, 1) := by decide +kernel
theorem dX8_byteAt_8 : decode cX8_byteAt 8 = .ok (.invokestatic 19, 3) := by decide +kernel
theorem dX8_byteAt_11 : decode cX8_byteAt 11 = .ok (.ifCond .eq 16, 3) := by decide +kernel
theorem dX8_byteAt_14 : decode cX8_byteAt 14 = .ok (.aload_n 0, 1) := by decide +kernel
theorem dX8_byteAt_15 : decode cX8_byteAt 15 = .ok (.getfield 9, 3) := by decide +kernel
theorem dX8_byteAt_18 : decode cX8_byteAt 18 = .ok (.iload_n 1, 1) := by decide +kernel
theorem dX8_byteAt_19 : decode cX8_byteAt 19 = .ok (.baload, 1) := by decide +kernel
theorem dX8_byteAt_20 : decode cX8_byteAt 20 = .ok (.sipush 255, 3) := by decide +kernel
theorem dX8_byteAt_23 : decode cX8_byteAt 23 = .ok (.iand, 1) := by decide +kernel
theorem dX8_byteAt_24 : decode cX8_byteAt 24 = .ok (.goto 4, 3) := by decide +kernel
theorem dX8_byteAt_27 : decode cX8_byteAt 27 = .ok (.iconst (-1), 1) := by decide +kernel
theorem dX8_byteAt_28 : decode cX8_byteAt 28 = .ok (.ireturn, 1) := by decide +kernel
def fX8_byteAt (a1 : Int32) (h : Hp) : Option (Int32 × Hp) := bi (fX11_within a1 0 ((h.1 101 1) - 1) h) (fun w2 h1 => (if w2 = 0 then some ((-1), h1) else ck (inb a1 2000) (some (((h1.1 102 (ix a1)) &&& 255), h1))))
set_option maxRecDepth 20000 in
theorem tX8_byteAt (Z : ZT) (a1 : Int32) (hz : HZ Z) (h : Hp) (r : Int32) (hr : Hp) (hF : fX8_byteAt a1 h = some (r, hr)) : MC Z yX8_byteAt cX8_byteAt 2 (some .int) 1 [.ref (Z.2.1 101), .int a1] h (some (.int r)) hr := by
  unfold fX8_byteAt at hF
  refine mc_start (by decide) (Nat.le_of_ble_eq_true rfl) (fun G X E => ?_)
  refine j_iload_n (pc := 0) 1 X dX8_byteAt_0 rfl ?_
  refine j_iconst (pc := 1) 0 X dX8_byteAt_1 rfl ?_
  refine j_aload_n (pc := 2) 0 X dX8_byteAt_2 rfl ?_
  refine j_geti (pc := 3) X dX8_byteAt_3 (hz _ sh_101) fl_X8_15 rfl ?_
  refine j_iconst (pc := 6) 1 X dX8_byteAt_6 rfl ?_
  refine j_isub (pc := 7) X dX8_byteAt_7 ?_
  refine j_cSNi (pc := 8) (As := [.int a1, .int 0, .int ((h.1 101 1) - 1)]) (rest := []) X dX8_byteAt_8 ml_X8_19 ck_X11_within sk_X11_within (Nat.le_of_ble_eq_true rfl) rfl (Nat.le_of_ble_eq_true rfl) rfl hF (tX11_within Z a1 0 ((h.1 101 1) - 1) trivial h) (fun w2 h1 hF => ?_)
  refine j_if_eq (pc := 11) 27 X dX8_byteAt_11 rfl hF (fun hF => ?_) (fun hF => ?_)
  · refine j_iconst (pc := 27) (-1) X dX8_byteAt_27 rfl ?_
    exact j_iret (pc := 28) X E dX8_byteAt_28 hF
  · refine j_aload_n (pc := 14) 0 X dX8_byteAt_14 rfl ?_
    refine j_getr (pc := 15) X dX8_byteAt_15 (hz _ sh_101) fl_X8_9 rfl ?_
    refine j_iload_n (pc := 18) 1 X dX8_byteAt_18 rfl ?_
    refine j_bald (pc := 19) X dX8_byteAt_19 (hz _ sh_102) hF (fun hF => ?_)
    refine j_sipush (pc := 20) 255 X dX8_byteAt_20 rfl ?_
    refine j_iand (pc := 23) X dX8_byteAt_23 ?_
    refine j_goto (pc := 24) 28 X dX8_byteAt_24 rfl ?_
    exact j_iret (pc := 28) X E dX8_byteAt_28 hF
theorem dX9_isBlank_0 : decode cX9_isBlank 0 = .ok (.iload_n 0, 1) := by decide +kernel
theorem dX9_isBlank_1 : decode cX9_isBlank 1 = .ok (.bipush 9, 2) := by decide +kernel
theorem dX9_isBlank_3 : decode cX9_isBlank 3 = .ok (.if_icmp .eq 21, 3) := by decide +kernel
theorem dX9_isBlank_6 : decode cX9_isBlank 6 = .ok (.iload_n 0, 1) := by decide +kernel
theorem dX9_isBlank_7 : decode cX9_isBlank 7 = .ok (.bipush 10, 2) := by decide +kernel
theorem dX9_isBlank_9 : decode cX9_isBlank 9 = .ok (.if_icmp .eq 15, 3) := by decide +kernel
theorem dX9_isBlank_12 : decode cX9_isBlank 12 = .ok (.iload_n 0, 1) := by decide +kernel
theorem dX9_isBlank_13 : decode cX9_isBlank 13 = .ok (.bipush 13, 2) := by decide +kernel
theorem dX9_isBlank_15 : decode cX9_isBlank 15 = .ok (.if_icmp .eq 9, 3) := by decide +kernel
theorem dX9_isBlank_18 : decode cX9_isBlank 18 = .ok (.iload_n 0, 1) := by decide +kernel
theorem dX9_isBlank_19 : decode cX9_isBlank 19 = .ok (.bipush 32, 2) := by decide +kernel
theorem dX9_isBlank_21 : decode cX9_isBlank 21 = .ok (.if_icmp .ne 7, 3) := by decide +kernel
theorem dX9_isBlank_24 : decode cX9_isBlank 24 = .ok (.iconst 1, 1) := by decide +kernel
theorem dX9_isBlank_25 : decode cX9_isBlank 25 = .ok (.goto 4, 3) := by decide +kernel
theorem dX9_isBlank_28 : decode cX9_isBlank 28 = .ok (.iconst 0, 1) := by decide +kernel
theorem dX9_isBlank_29 : decode cX9_isBlank 29 = .ok (.ireturn, 1) := by decide +kernel
def fX9_isBlank (a1 : Int32) (h : Hp) : Option (Int32 × Hp) := (if a1 = 9 then ck (zb 1) (some (1, h)) else (if a1 = 10 then ck (zb 1) (some (1, h)) else (if a1 = 13 then ck (zb 1) (some (1, h)) else (if a1 = 32 then ck (zb 1) (some (1, h)) else ck (zb 0) (some (0, h))))))
set_option maxRecDepth 20000 in
theorem tX9_isBlank (Z : ZT) (a1 : Int32) (hz : True) (h : Hp) (r : Int32) (hr : Hp) (hF : fX9_isBlank a1 h = some (r, hr)) : MC Z yX9_isBlank cX9_isBlank 1 (some .boolean) 0 [.int a1] h (some (.int r)) hr := by
  unfold fX9_isBlank at hF
  refine mc_start (by decide) (Nat.le_of_ble_eq_true rfl) (fun G X E => ?_)
  refine j_iload_n (pc := 0) 0 X dX9_isBlank_0 rfl ?_
  refine j_bipush (pc := 1) 9 X dX9_isBlank_1 rfl ?_
  refine j_icmp_eq (pc := 3) 24 X dX9_isBlank_3 rfl hF (fun hF => ?_) (fun hF => ?_)
  · refine j_iconst (pc := 24) 1 X dX9_isBlank_24 rfl ?_
    refine j_goto (pc := 25) 29 X dX9_isBlank_25 rfl ?_
    exact j_zret (pc := 29) X E dX9_isBlank_29 hF
  · refine j_iload_n (pc := 6) 0 X dX9_isBlank_6 rfl ?_
    refine j_bipush (pc := 7) 10 X dX9_isBlank_7 rfl ?_
    refine j_icmp_eq (pc := 9) 24 X dX9_isBlank_9 rfl hF (fun hF => ?_) (fun hF => ?_)
    · refine j_iconst (pc := 24) 1 X dX9_isBlank_24 rfl ?_
      refine j_goto (pc := 25) 29 X dX9_isBlank_25 rfl ?_
      exact j_zret (pc := 29) X E dX9_isBlank_29 hF
    · refine j_iload_n (pc := 12) 0 X dX9_isBlank_12 rfl ?_
      refine j_bipush (pc := 13) 13 X dX9_isBlank_13 rfl ?_
      refine j_icmp_eq (pc := 15) 24 X dX9_isBlank_15 rfl hF (fun hF => ?_) (fun hF => ?_)
      · refine j_iconst (pc := 24) 1 X dX9_isBlank_24 rfl ?_
        refine j_goto (pc := 25) 29 X dX9_isBlank_25 rfl ?_
        exact j_zret (pc := 29) X E dX9_isBlank_29 hF
      · refine j_iload_n (pc := 18) 0 X dX9_isBlank_18 rfl ?_
        refine j_bipush (pc := 19) 32 X dX9_isBlank_19 rfl ?_
        refine j_icmp_ne (pc := 21) 28 X dX9_isBlank_21 rfl hF (fun hF => ?_) (fun hF => ?_)
        · refine j_iconst (pc := 28) 0 X dX9_isBlank_28 rfl ?_
          exact j_zret (pc := 29) X E dX9_isBlank_29 hF
        · refine j_iconst (pc := 24) 1 X dX9_isBlank_24 rfl ?_
          refine j_goto (pc := 25) 29 X dX9_isBlank_25 rfl ?_
          exact j_zret (pc := 29) X E dX9_isBlank_29 hF
theorem dX9_wordKind_0 : decode cX9_wordKind 0 = .ok (.iconst 0, 1) := by decide +kernel
theorem dX9_wordKind_1 : decode cX9_wordKind 1 = .ok (.istore_n 3, 1) := by decide +kernel
theorem dX9_wordKind_2 : decode cX9_wordKind 2 = .ok (.iload_n 3, 1) := by decide +kernel
theorem dX9_wordKind_3 : decode cX9_wordKind 3 = .ok (.bipush 18, 2) := by decide +kernel
theorem dX9_wordKind_5 : decode cX9_wordKind 5 = .ok (.if_icmp .ge 25, 3) := by decide +kernel
theorem dX9_wordKind_8 : decode cX9_wordKind 8 = .ok (.aload_n 0, 1) := by decide +kernel
theorem dX9_wordKind_9 : decode cX9_wordKind 9 = .ok (.getfield 22, 3) := by decide +kernel
theorem dX9_wordKind_12 : decode cX9_wordKind 12 = .ok (.iload_n 3, 1) := by decide +kernel
theorem dX9_wordKind_13 : decode cX9_wordKind 13 = .ok (.laload, 1) := by decide +kernel
theorem dX9_wordKind_14 : decode cX9_wordKind 14 = .ok (.lload_n 1, 1) := by decide +kernel
theorem dX9_wordKind_15 : decode cX9_wordKind 15 = .ok (.lcmp, 1) := by decide +kernel
theorem dX9_wordKind_16 : decode cX9_wordKind 16 = .ok (.ifCond .ne 8, 3) := by decide +kernel
theorem dX9_wordKind_19 : decode cX9_wordKind 19 = .ok (.bipush 16, 2) := by decide +kernel
theorem dX9_wordKind_21 : decode cX9_wordKind 21 = .ok (.iload_n 3, 1) := by decide +kernel
theorem dX9_wordKind_22 : decode cX9_wordKind 22 = .ok (.iadd, 1) := by decide +kernel
theorem dX9_wordKind_23 : decode cX9_wordKind 23 = .ok (.ireturn, 1) := by decide +kernel
theorem dX9_wordKind_24 : decode cX9_wordKind 24 = .ok (.iinc 3 1, 3) := by decide +kernel
theorem dX9_wordKind_27 : decode cX9_wordKind 27 = .ok (.goto (-25), 3) := by decide +kernel
theorem dX9_wordKind_30 : decode cX9_wordKind 30 = .ok (.iconst 2, 1) := by decide +kernel
theorem dX9_wordKind_31 : decode cX9_wordKind 31 = .ok (.ireturn, 1) := by decide +kernel
def bX9_wordKind_2   (r2 : Int64 → Int32 → Hp → Option (Int32 × Hp)) (x1 : Int64) (x3 : Int32) (h : Hp) : Option (Int32 × Hp) := (if 18 ≤ x3 then some (2, h) else ck (inb x3 18) ((if (lg_cmp (h.2 107 (ix x3)) x1) = 0 then some (((16 : Int32) + x3), h) else lt (x3 + 1) (fun v1 => r2 x1 v1 h))))
def lX9_wordKind_2   : Nat → Int64 → Int32 → Hp → Option (Int32 × Hp)
  | 0 => fun _ _ _ => none
  | n + 1 => bX9_wordKind_2   (lX9_wordKind_2   n)
set_option maxRecDepth 20000 in
theorem BX9_wordKind_2 {Z : ZT} {G : GT} {r : Int32} {hr : Hp} (X : CX Z G cX9_wordKind RX9 4 0) (E : RX Z G (some .int) (some (.int r)) hr) (hz : HZ Z)  (r2 : Int64 → Int32 → Hp → Option (Int32 × Hp)) (hr2 : ∀ (x1 : Int64) (x3 : Int32) (h : Hp), r2 x1 x3 h = some (r, hr) → J Z G 4 h 2 [(0, .ref (Z.2.1 103)), (1, .long x1), (3, .int x3)] []) (x1 : Int64) (x3 : Int32) (h : Hp) (hF : bX9_wordKind_2   r2 x1 x3 h = some (r, hr)) : J Z G 4 h 2 [(0, .ref (Z.2.1 103)), (1, .long x1), (3, .int x3)] [] := by
  unfold bX9_wordKind_2 at hF
  refine j_iload_n (pc := 2) 2 X dX9_wordKind_2 rfl ?_
  refine j_bipush (pc := 3) 18 X dX9_wordKind_3 rfl ?_
  refine j_icmp_ge (pc := 5) 30 X dX9_wordKind_5 rfl hF (fun hF => ?_) (fun hF => ?_)
  · refine j_iconst (pc := 30) 2 X dX9_wordKind_30 rfl ?_
    exact j_iret (pc := 31) X E dX9_wordKind_31 hF
  · refine j_aload_n (pc := 8) 0 X dX9_wordKind_8 rfl ?_
    refine j_getr (pc := 9) X dX9_wordKind_9 (hz _ sh_103) fl_X9_22 rfl ?_
    refine j_iload_n (pc := 12) 2 X dX9_wordKind_12 rfl ?_
    refine j_lald (pc := 13) X dX9_wordKind_13 (hz _ sh_107) hF (fun hF => ?_)
    refine j_lload_n (pc := 14) 1 X dX9_wordKind_14 rfl ?_
    refine j_lcmp (pc := 15) X dX9_wordKind_15 ?_
    refine j_if_ne (pc := 16) 24 X dX9_wordKind_16 rfl hF (fun hF => ?_) (fun hF => ?_)
    · refine j_iinc (pc := 24) 2 (x3 + 1) (fun y => [(3, .int y), (0, .ref (Z.2.1 103)), (1, .long x1)]) X dX9_wordKind_24 rfl rfl (by decide) (fun _ => rfl) hF (fun v1 hF => ?_)
      refine j_goto (pc := 27) 2 X dX9_wordKind_27 rfl ?_
      refine j_lv [(0, .ref (Z.2.1 103)), (1, .long x1), (3, .int v1)] [1, 2, 0] rfl ?_
      exact hr2 x1 v1 h hF
    · refine j_bipush (pc := 19) 16 X dX9_wordKind_19 rfl ?_
      refine j_iload_n (pc := 21) 2 X dX9_wordKind_21 rfl ?_
      refine j_iadd (pc := 22) X dX9_wordKind_22 ?_
      exact j_iret (pc := 23) X E dX9_wordKind_23 hF
theorem LX9_wordKind_2 {Z : ZT} {G : GT} {r : Int32} {hr : Hp} (X : CX Z G cX9_wordKind RX9 4 0) (E : RX Z G (some .int) (some (.int r)) hr) (hz : HZ Z)  : ∀ (n : Nat) (x1 : Int64) (x3 : Int32) (h : Hp), lX9_wordKind_2   n x1 x3 h = some (r, hr) → J Z G 4 h 2 [(0, .ref (Z.2.1 103)), (1, .long x1), (3, .int x3)] [] := by
  intro n
  induction n with
  | zero => intro x1 x3 h hF; cases hF
  | succ n ih => intro x1 x3 h hF; exact BX9_wordKind_2 X E hz  (lX9_wordKind_2   n) ih x1 x3 h hF
def fX9_wordKind (a1 : Int64) (h : Hp) : Option (Int32 × Hp) := lt 0 (fun v1 => lX9_wordKind_2 FU a1 v1 h)
set_option maxRecDepth 20000 in
theorem tX9_wordKind (Z : ZT) (a1 : Int64) (hz : HZ Z) (h : Hp) (r : Int32) (hr : Hp) (hF : fX9_wordKind a1 h = some (r, hr)) : MC Z yX9_wordKind cX9_wordKind 4 (some .int) 0 [.ref (Z.2.1 103), .long a1] h (some (.int r)) hr := by
  unfold fX9_wordKind at hF
  refine mc_start (by decide) (Nat.le_of_ble_eq_true rfl) (fun G X E => ?_)
  refine j_iconst (pc := 0) 0 X dX9_wordKind_0 rfl ?_
  refine j_istore_n (pc := 1) (fun y => [(3, .int y), (0, .ref (Z.2.1 103)), (1, .long a1)]) X dX9_wordKind_1 (by decide) (fun _ => rfl) hF (fun v1 hF => ?_)
  refine j_lv [(0, .ref (Z.2.1 103)), (1, .long a1), (3, .int v1)] [1, 2, 0] rfl ?_
  exact LX9_wordKind_2 X E hz FU a1 v1 h hF
theorem dX9_scanWord_0 : decode cX9_scanWord 0 = .ok (.iload_n 2, 1) := by decide +kernel
theorem dX9_scanWord_1 : decode cX9_scanWord 1 = .ok (.istore_n 3, 1) := by decide +kernel
theorem dX9_scanWord_2 : decode cX9_scanWord 2 = .ok (.lconst 0, 1) := by decide +kernel
theorem dX9_scanWord_3 : decode cX9_scanWord 3 = .ok (.lstore 4, 2) := by decide +kernel
theorem dX9_scanWord_5 : decode cX9_scanWord 5 = .ok (.iload_n 3, 1) := by decide +kernel
theorem dX9_scanWord_6 : decode cX9_scanWord 6 = .ok (.aload_n 1, 1) := by decide +kernel
theorem dX9_scanWord_7 : decode cX9_scanWord 7 = .ok (.getfield 41, 3) := by decide +kernel
theorem dX9_scanWord_10 : decode cX9_scanWord 10 = .ok (.if_icmp .ge 42, 3) := by decide +kernel
theorem dX9_scanWord_13 : decode cX9_scanWord 13 = .ok (.aload_n 1, 1) := by decide +kernel
theorem dX9_scanWord_14 : decode cX9_scanWord 14 = .ok (.iload_n 3, 1) := by decide +kernel
theorem dX9_scanWord_15 : decode cX9_scanWord 15 = .ok (.invokevirtual 44, 3) := by decide +kernel
theorem dX9_scanWord_18 : decode cX9_scanWord 18 = .ok (.bipush 97, 2) := by decide +kernel
theorem dX9_scanWord_20 : decode cX9_scanWord 20 = .ok (.bipush 122, 2) := by decide +kernel
theorem dX9_scanWord_22 : decode cX9_scanWord 22 = .ok (.invokestatic 56, 3) := by decide +kernel
theorem dX9_scanWord_25 : decode cX9_scanWord 25 = .ok (.ifCond .eq 27, 3) := by decide +kernel
theorem dX9_scanWord_28 : decode cX9_scanWord 28 = .ok (.lload 4, 2) := by decide +kernel
theorem dX9_scanWord_30 : decode cX9_scanWord 30 = .ok (.iconst 5, 1) := by decide +kernel
theorem dX9_scanWord_31 : decode cX9_scanWord 31 = .ok (.lshl, 1) := by decide +kernel
theorem dX9_scanWord_32 : decode cX9_scanWord 32 = .ok (.aload_n 1, 1) := by decide +kernel
theorem dX9_scanWord_33 : decode cX9_scanWord 33 = .ok (.iload_n 3, 1) := by decide +kernel
theorem dX9_scanWord_34 : decode cX9_scanWord 34 = .ok (.invokevirtual 44, 3) := by decide +kernel
theorem dX9_scanWord_37 : decode cX9_scanWord 37 = .ok (.bipush 97, 2) := by decide +kernel
theorem dX9_scanWord_39 : decode cX9_scanWord 39 = .ok (.isub, 1) := by decide +kernel
theorem dX9_scanWord_40 : decode cX9_scanWord 40 = .ok (.iconst 1, 1) := by decide +kernel
theorem dX9_scanWord_41 : decode cX9_scanWord 41 = .ok (.iadd, 1) := by decide +kernel
theorem dX9_scanWord_42 : decode cX9_scanWord 42 = .ok (.i2l, 1) := by decide +kernel
theorem dX9_scanWord_43 : decode cX9_scanWord 43 = .ok (.lor, 1) := by decide +kernel
theorem dX9_scanWord_44 : decode cX9_scanWord 44 = .ok (.lstore 4, 2) := by decide +kernel
theorem dX9_scanWord_46 : decode cX9_scanWord 46 = .ok (.iinc 3 1, 3) := by decide +kernel
theorem dX9_scanWord_49 : decode cX9_scanWord 49 = .ok (.goto (-44), 3) := by decide +kernel
theorem dX9_scanWord_52 : decode cX9_scanWord 52 = .ok (.aload_n 0, 1) := by decide +kernel
theorem dX9_scanWord_53 : decode cX9_scanWord 53 = .ok (.getfield 9, 3) := by decide +kernel
theorem dX9_scanWord_56 : decode cX9_scanWord 56 = .ok (.aload_n 0, 1) := by decide +kernel
theorem dX9_scanWord_57 : decode cX9_scanWord 57 = .ok (.getfield 37, 3) := by decide +kernel
theorem dX9_scanWord_60 : decode cX9_scanWord 60 = .ok (.iload_n 3, 1) := by decide +kernel
theorem dX9_scanWord_61 : decode cX9_scanWord 61 = .ok (.iload_n 2, 1) := by decide +kernel
theorem dX9_scanWord_62 : decode cX9_scanWord 62 = .ok (.isub, 1) := by decide +kernel
theorem dX9_scanWord_63 : decode cX9_scanWord 63 = .ok (.bipush 8, 2) := by decide +kernel
theorem dX9_scanWord_65 : decode cX9_scanWord 65 = .ok (.if_icmp .le 7, 3) := by decide +kernel
theorem dX9_scanWord_68 : decode cX9_scanWord 68 = .ok (.iconst 1, 1) := by decide +kernel
theorem dX9_scanWord_69 : decode cX9_scanWord 69 = .ok (.goto 9, 3) := by decide +kernel
theorem dX9_scanWord_72 : decode cX9_scanWord 72 = .ok (.aload_n 0, 1) := by decide +kernel
theorem dX9_scanWord_73 : decode cX9_scanWord 73 = .ok (.lload 4, 2) := by decide +kernel
theorem dX9_scanWord_75 : decode cX9_scanWord 75 = .ok (.invokevirtual 70, 3) := by decide +kernel
theorem dX9_scanWord_78 : decode cX9_scanWord 78 = .ok (.iastore, 1) := by decide +kernel
theorem dX9_scanWord_79 : decode cX9_scanWord 79 = .ok (.aload_n 0, 1) := by decide +kernel
theorem dX9_scanWord_80 : decode cX9_scanWord 80 = .ok (.getfield 18, 3) := by decide +kernel
theorem dX9_scanWord_83 : decode cX9_scanWord 83 = .ok (.aload_n 0, 1) := by decide +kernel
theorem dX9_scanWord_84 : decode cX9_scanWord 84 = .ok (.getfield 37, 3) := by decide +kernel
theorem dX9_scanWord_87 : decode cX9_scanWord 87 = .ok (.lload 4, 2) := by decide +kernel
theorem dX9_scanWord_89 : decode cX9_scanWord 89 = .ok (.lastore, 1) := by decide +kernel
theorem dX9_scanWord_90 : decode cX9_scanWord 90 = .ok (.iload_n 3, 1) := by decide +kernel
theorem dX9_scanWord_91 : decode cX9_scanWord 91 = .ok (.ireturn, 1) := by decide +kernel
def bX9_scanWord_78   (x3 : Int32) (x4 : Int64) (s0 : Int32) (s1 : Int32) (h : Hp) : Option (Int32 × Hp) := ck (inb s1 401) (lt (wI h 104 (ix s1) s0) (fun h1 => ck (inb (h1.1 103 4) 401) (lt (wL h1 106 (ix (h1.1 103 4)) x4) (fun h2 => some (x3, h2)))))
set_option maxRecDepth 20000 in
theorem BX9_scanWord_78 {Z : ZT} {G : GT} {r : Int32} {hr : Hp} (X : CX Z G cX9_scanWord RX9 6 2) (E : RX Z G (some .int) (some (.int r)) hr) (hz : HZ Z)  (x3 : Int32) (x4 : Int64) (s0 : Int32) (s1 : Int32) (h : Hp) (hF : bX9_scanWord_78   x3 x4 s0 s1 h = some (r, hr)) : J Z G 6 h 78 [(0, .ref (Z.2.1 103)), (3, .int x3), (4, .long x4)] [.int s0, .int s1, .ref (Z.2.1 104)] := by
  unfold bX9_scanWord_78 at hF
  refine j_iast (pc := 78) X dX9_scanWord_78 (hz _ sh_104) hF (fun h1 hF => ?_)
  refine j_aload_n (pc := 79) 0 X dX9_scanWord_79 rfl ?_
  refine j_getr (pc := 80) X dX9_scanWord_80 (hz _ sh_103) fl_X9_18 rfl ?_
  refine j_aload_n (pc := 83) 0 X dX9_scanWord_83 rfl ?_
  refine j_geti (pc := 84) X dX9_scanWord_84 (hz _ sh_103) fl_X9_37 rfl ?_
  refine j_lload (pc := 87) 2 X dX9_scanWord_87 rfl ?_
  refine j_last (pc := 89) X dX9_scanWord_89 (hz _ sh_106) hF (fun h2 hF => ?_)
  refine j_iload_n (pc := 90) 1 X dX9_scanWord_90 rfl ?_
  exact j_iret (pc := 91) X E dX9_scanWord_91 hF
def bX9_scanWord_52   (x2 : Int32) (x3 : Int32) (x4 : Int64) (h : Hp) : Option (Int32 × Hp) := (if (x3 - x2) ≤ 8 then bi (fX9_wordKind x4 h) (fun w2 h1 => bX9_scanWord_78 x3 x4 w2 (h.1 103 4) h1) else bX9_scanWord_78 x3 x4 1 (h.1 103 4) h)
set_option maxRecDepth 20000 in
theorem BX9_scanWord_52 {Z : ZT} {G : GT} {r : Int32} {hr : Hp} (X : CX Z G cX9_scanWord RX9 6 2) (E : RX Z G (some .int) (some (.int r)) hr) (hz : HZ Z)  (x2 : Int32) (x3 : Int32) (x4 : Int64) (h : Hp) (hF : bX9_scanWord_52   x2 x3 x4 h = some (r, hr)) : J Z G 6 h 52 [(0, .ref (Z.2.1 103)), (2, .int x2), (3, .int x3), (4, .long x4)] [] := by
  unfold bX9_scanWord_52 at hF
  refine j_aload_n (pc := 52) 0 X dX9_scanWord_52 rfl ?_
  refine j_getr (pc := 53) X dX9_scanWord_53 (hz _ sh_103) fl_X9_9 rfl ?_
  refine j_aload_n (pc := 56) 0 X dX9_scanWord_56 rfl ?_
  refine j_geti (pc := 57) X dX9_scanWord_57 (hz _ sh_103) fl_X9_37 rfl ?_
  refine j_iload_n (pc := 60) 2 X dX9_scanWord_60 rfl ?_
  refine j_iload_n (pc := 61) 1 X dX9_scanWord_61 rfl ?_
  refine j_isub (pc := 62) X dX9_scanWord_62 ?_
  refine j_bipush (pc := 63) 8 X dX9_scanWord_63 rfl ?_
  refine j_icmp_le (pc := 65) 72 X dX9_scanWord_65 rfl hF (fun hF => ?_) (fun hF => ?_)
  · refine j_aload_n (pc := 72) 0 X dX9_scanWord_72 rfl ?_
    refine j_lload (pc := 73) 3 X dX9_scanWord_73 rfl ?_
    refine j_cVi (pc := 75) (As := [.long x4]) (rest := [.int (h.1 103 4), .ref (Z.2.1 104)]) X dX9_scanWord_75 ml_X9_70 ck_X9_wordKind cv_X9_wordKind (hz _ sh_103) rfl (Nat.le_of_ble_eq_true rfl) rfl (Nat.le_of_ble_eq_true rfl) rfl hF (tX9_wordKind Z x4 hz h) (fun w2 h1 hF => ?_)
    refine j_lv [(0, .ref (Z.2.1 103)), (3, .int x3), (4, .long x4)] [0, 2, 3] rfl ?_
    exact BX9_scanWord_78 X E hz x3 x4 w2 (h.1 103 4) h1 hF
  · refine j_iconst (pc := 68) 1 X dX9_scanWord_68 rfl ?_
    refine j_goto (pc := 69) 78 X dX9_scanWord_69 rfl ?_
    refine j_lv [(0, .ref (Z.2.1 103)), (3, .int x3), (4, .long x4)] [0, 2, 3] rfl ?_
    exact BX9_scanWord_78 X E hz x3 x4 1 (h.1 103 4) h hF
def bX9_scanWord_5   (r5 : Int32 → Int32 → Int64 → Hp → Option (Int32 × Hp)) (x2 : Int32) (x3 : Int32) (x4 : Int64) (h : Hp) : Option (Int32 × Hp) := (if (h.1 101 1) ≤ x3 then bX9_scanWord_52 x2 x3 x4 h else bi (fX8_byteAt x3 h) (fun w2 h1 => bi (fX11_within w2 97 122 h1) (fun w4 h3 => (if w4 = 0 then bX9_scanWord_52 x2 x3 x4 h3 else bi (fX8_byteAt x3 h3) (fun w6 h5 => lt ((shlL x4 5) ||| (((w6 - 97) + 1).toInt64)) (fun v7 => lt (x3 + 1) (fun v8 => r5 x2 v8 v7 h5)))))))
def lX9_scanWord_5   : Nat → Int32 → Int32 → Int64 → Hp → Option (Int32 × Hp)
  | 0 => fun _ _ _ _ => none
  | n + 1 => bX9_scanWord_5   (lX9_scanWord_5   n)
set_option maxRecDepth 20000 in
theorem BX9_scanWord_5 {Z : ZT} {G : GT} {r : Int32} {hr : Hp} (X : CX Z G cX9_scanWord RX9 6 2) (E : RX Z G (some .int) (some (.int r)) hr) (hz : HZ Z)  (r5 : Int32 → Int32 → Int64 → Hp → Option (Int32 × Hp)) (hr5 : ∀ (x2 : Int32) (x3 : Int32) (x4 : Int64) (h : Hp), r5 x2 x3 x4 h = some (r, hr) → J Z G 6 h 5 [(0, .ref (Z.2.1 103)), (1, .ref (Z.2.1 101)), (2, .int x2), (3, .int x3), (4, .long x4)] []) (x2 : Int32) (x3 : Int32) (x4 : Int64) (h : Hp) (hF : bX9_scanWord_5   r5 x2 x3 x4 h = some (r, hr)) : J Z G 6 h 5 [(0, .ref (Z.2.1 103)), (1, .ref (Z.2.1 101)), (2, .int x2), (3, .int x3), (4, .long x4)] [] := by
  unfold bX9_scanWord_5 at hF
  refine j_iload_n (pc := 5) 3 X dX9_scanWord_5 rfl ?_
  refine j_aload_n (pc := 6) 1 X dX9_scanWord_6 rfl ?_
  refine j_geti (pc := 7) X dX9_scanWord_7 (hz _ sh_101) fl_X9_41 rfl ?_
  refine j_icmp_ge (pc := 10) 52 X dX9_scanWord_10 rfl hF (fun hF => ?_) (fun hF => ?_)
  · refine j_lv [(0, .ref (Z.2.1 103)), (2, .int x2), (3, .int x3), (4, .long x4)] [0, 2, 3, 4] rfl ?_
    exact BX9_scanWord_52 X E hz x2 x3 x4 h hF
  · refine j_aload_n (pc := 13) 1 X dX9_scanWord_13 rfl ?_
    refine j_iload_n (pc := 14) 3 X dX9_scanWord_14 rfl ?_
    refine j_cVi (pc := 15) (As := [.int x3]) (rest := []) X dX9_scanWord_15 ml_X9_44 ck_X8_byteAt cv_X8_byteAt (hz _ sh_101) rfl (Nat.le_of_ble_eq_true rfl) rfl (Nat.le_of_ble_eq_true rfl) rfl hF (tX8_byteAt Z x3 hz h) (fun w2 h1 hF => ?_)
    refine j_bipush (pc := 18) 97 X dX9_scanWord_18 rfl ?_
    refine j_bipush (pc := 20) 122 X dX9_scanWord_20 rfl ?_
    refine j_cSNi (pc := 22) (As := [.int w2, .int 97, .int 122]) (rest := []) X dX9_scanWord_22 ml_X9_56 ck_X11_within sk_X11_within (Nat.le_of_ble_eq_true rfl) rfl (Nat.le_of_ble_eq_true rfl) rfl hF (tX11_within Z w2 97 122 trivial h1) (fun w4 h3 hF => ?_)
    refine j_if_eq (pc := 25) 52 X dX9_scanWord_25 rfl hF (fun hF => ?_) (fun hF => ?_)
    · refine j_lv [(0, .ref (Z.2.1 103)), (2, .int x2), (3, .int x3), (4, .long x4)] [0, 2, 3, 4] rfl ?_
      exact BX9_scanWord_52 X E hz x2 x3 x4 h3 hF
    · refine j_lload (pc := 28) 4 X dX9_scanWord_28 rfl ?_
      refine j_iconst (pc := 30) 5 X dX9_scanWord_30 rfl ?_
      refine j_lshl (pc := 31) X dX9_scanWord_31 ?_
      refine j_aload_n (pc := 32) 1 X dX9_scanWord_32 rfl ?_
      refine j_iload_n (pc := 33) 3 X dX9_scanWord_33 rfl ?_
      refine j_cVi (pc := 34) (As := [.int x3]) (rest := [.long (shlL x4 5)]) X dX9_scanWord_34 ml_X9_44 ck_X8_byteAt cv_X8_byteAt (hz _ sh_101) rfl (Nat.le_of_ble_eq_true rfl) rfl (Nat.le_of_ble_eq_true rfl) rfl hF (tX8_byteAt Z x3 hz h3) (fun w6 h5 hF => ?_)
      refine j_bipush (pc := 37) 97 X dX9_scanWord_37 rfl ?_
      refine j_isub (pc := 39) X dX9_scanWord_39 ?_
      refine j_iconst (pc := 40) 1 X dX9_scanWord_40 rfl ?_
      refine j_iadd (pc := 41) X dX9_scanWord_41 ?_
      refine j_i2l (pc := 42) X dX9_scanWord_42 ?_
      refine j_lor (pc := 43) X dX9_scanWord_43 ?_
      refine j_lstore (pc := 44) (fun y => [(4, .long y), (0, .ref (Z.2.1 103)), (1, .ref (Z.2.1 101)), (2, .int x2), (3, .int x3)]) X dX9_scanWord_44 (by decide) (fun _ => rfl) hF (fun v7 hF => ?_)
      refine j_iinc (pc := 46) 4 (x3 + 1) (fun y => [(3, .int y), (4, .long v7), (0, .ref (Z.2.1 103)), (1, .ref (Z.2.1 101)), (2, .int x2)]) X dX9_scanWord_46 rfl rfl (by decide) (fun _ => rfl) hF (fun v8 hF => ?_)
      refine j_goto (pc := 49) 5 X dX9_scanWord_49 rfl ?_
      refine j_lv [(0, .ref (Z.2.1 103)), (1, .ref (Z.2.1 101)), (2, .int x2), (3, .int v8), (4, .long v7)] [2, 3, 4, 0, 1] rfl ?_
      exact hr5 x2 v8 v7 h5 hF
theorem LX9_scanWord_5 {Z : ZT} {G : GT} {r : Int32} {hr : Hp} (X : CX Z G cX9_scanWord RX9 6 2) (E : RX Z G (some .int) (some (.int r)) hr) (hz : HZ Z)  : ∀ (n : Nat) (x2 : Int32) (x3 : Int32) (x4 : Int64) (h : Hp), lX9_scanWord_5   n x2 x3 x4 h = some (r, hr) → J Z G 6 h 5 [(0, .ref (Z.2.1 103)), (1, .ref (Z.2.1 101)), (2, .int x2), (3, .int x3), (4, .long x4)] [] := by
  intro n
  induction n with
  | zero => intro x2 x3 x4 h hF; cases hF
  | succ n ih => intro x2 x3 x4 h hF; exact BX9_scanWord_5 X E hz  (lX9_scanWord_5   n) ih x2 x3 x4 h hF
def fX9_scanWord (a2 : Int32) (h : Hp) : Option (Int32 × Hp) := lt a2 (fun v1 => lt 0 (fun v2 => lX9_scanWord_5 FU a2 v1 v2 h))
set_option maxRecDepth 20000 in
theorem tX9_scanWord (Z : ZT) (a2 : Int32) (hz : HZ Z) (h : Hp) (r : Int32) (hr : Hp) (hF : fX9_scanWord a2 h = some (r, hr)) : MC Z yX9_scanWord cX9_scanWord 6 (some .int) 2 [.ref (Z.2.1 103), .ref (Z.2.1 101), .int a2] h (some (.int r)) hr := by
  unfold fX9_scanWord at hF
  refine mc_start (by decide) (Nat.le_of_ble_eq_true rfl) (fun G X E => ?_)
  refine j_iload_n (pc := 0) 2 X dX9_scanWord_0 rfl ?_
  refine j_istore_n (pc := 1) (fun y => [(3, .int y), (0, .ref (Z.2.1 103)), (1, .ref (Z.2.1 101)), (2, .int a2)]) X dX9_scanWord_1 (by decide) (fun _ => rfl) hF (fun v1 hF => ?_)
  refine j_lconst (pc := 2) 0 X dX9_scanWord_2 rfl ?_
  refine j_lstore (pc := 3) (fun y => [(4, .long y), (3, .int v1), (0, .ref (Z.2.1 103)), (1, .ref (Z.2.1 101)), (2, .int a2)]) X dX9_scanWord_3 (by decide) (fun _ => rfl) hF (fun v2 hF => ?_)
  refine j_lv [(0, .ref (Z.2.1 103)), (1, .ref (Z.2.1 101)), (2, .int a2), (3, .int v1), (4, .long v2)] [2, 3, 4, 1, 0] rfl ?_
  exact LX9_scanWord_5 X E hz FU a2 v1 v2 h hF
theorem dX9_scanInt_0 : decode cX9_scanInt 0 = .ok (.iload_n 2, 1) := by decide +kernel
theorem dX9_scanInt_1 : decode cX9_scanInt 1 = .ok (.istore_n 3, 1) := by decide +kernel
theorem dX9_scanInt_2 : decode cX9_scanInt 2 = .ok (.iconst 0, 1) := by decide +kernel
theorem dX9_scanInt_3 : decode cX9_scanInt 3 = .ok (.istore 4, 2) := by decide +kernel
theorem dX9_scanInt_5 : decode cX9_scanInt 5 = .ok (.iload_n 3, 1) := by decide +kernel
theorem dX9_scanInt_6 : decode cX9_scanInt 6 = .ok (.aload_n 1, 1) := by decide +kernel
theorem dX9_scanInt_7 : decode cX9_scanInt 7 = .ok (.getfield 41, 3) := by decide +kernel
theorem dX9_scanInt_10 : decode cX9_scanInt 10 = .ok (.if_icmp .ge 40, 3) := by decide +kernel
theorem dX9_scanInt_13 : decode cX9_scanInt 13 = .ok (.aload_n 1, 1) := by decide +kernel
theorem dX9_scanInt_14 : decode cX9_scanInt 14 = .ok (.iload_n 3, 1) := by decide +kernel
theorem dX9_scanInt_15 : decode cX9_scanInt 15 = .ok (.invokevirtual 44, 3) := by decide +kernel
theorem dX9_scanInt_18 : decode cX9_scanInt 18 = .ok (.bipush 48, 2) := by decide +kernel
theorem dX9_scanInt_20 : decode cX9_scanInt 20 = .ok (.bipush 57, 2) := by decide +kernel
theorem dX9_scanInt_22 : decode cX9_scanInt 22 = .ok (.invokestatic 56, 3) := by decide +kernel
theorem dX9_scanInt_25 : decode cX9_scanInt 25 = .ok (.ifCond .eq 25, 3) := by decide +kernel
theorem dX9_scanInt_28 : decode cX9_scanInt 28 = .ok (.iload 4, 2) := by decide +kernel
theorem dX9_scanInt_30 : decode cX9_scanInt 30 = .ok (.bipush 10, 2) := by decide +kernel
theorem dX9_scanInt_32 : decode cX9_scanInt 32 = .ok (.imul, 1) := by decide +kernel
theorem dX9_scanInt_33 : decode cX9_scanInt 33 = .ok (.aload_n 1, 1) := by decide +kernel
theorem dX9_scanInt_34 : decode cX9_scanInt 34 = .ok (.iload_n 3, 1) := by decide +kernel
theorem dX9_scanInt_35 : decode cX9_scanInt 35 = .ok (.invokevirtual 44, 3) := by decide +kernel
theorem dX9_scanInt_38 : decode cX9_scanInt 38 = .ok (.iadd, 1) := by decide +kernel
theorem dX9_scanInt_39 : decode cX9_scanInt 39 = .ok (.bipush 48, 2) := by decide +kernel
theorem dX9_scanInt_41 : decode cX9_scanInt 41 = .ok (.isub, 1) := by decide +kernel
theorem dX9_scanInt_42 : decode cX9_scanInt 42 = .ok (.istore 4, 2) := by decide +kernel
theorem dX9_scanInt_44 : decode cX9_scanInt 44 = .ok (.iinc 3 1, 3) := by decide +kernel
theorem dX9_scanInt_47 : decode cX9_scanInt 47 = .ok (.goto (-42), 3) := by decide +kernel
theorem dX9_scanInt_50 : decode cX9_scanInt 50 = .ok (.aload_n 0, 1) := by decide +kernel
theorem dX9_scanInt_51 : decode cX9_scanInt 51 = .ok (.getfield 9, 3) := by decide +kernel
theorem dX9_scanInt_54 : decode cX9_scanInt 54 = .ok (.aload_n 0, 1) := by decide +kernel
theorem dX9_scanInt_55 : decode cX9_scanInt 55 = .ok (.getfield 37, 3) := by decide +kernel
theorem dX9_scanInt_58 : decode cX9_scanInt 58 = .ok (.iload_n 3, 1) := by decide +kernel
theorem dX9_scanInt_59 : decode cX9_scanInt 59 = .ok (.iload_n 2, 1) := by decide +kernel
theorem dX9_scanInt_60 : decode cX9_scanInt 60 = .ok (.isub, 1) := by decide +kernel
theorem dX9_scanInt_61 : decode cX9_scanInt 61 = .ok (.iconst 4, 1) := by decide +kernel
theorem dX9_scanInt_62 : decode cX9_scanInt 62 = .ok (.if_icmp .le 7, 3) := by decide +kernel
theorem dX9_scanInt_65 : decode cX9_scanInt 65 = .ok (.iconst 1, 1) := by decide +kernel
theorem dX9_scanInt_66 : decode cX9_scanInt 66 = .ok (.goto 4, 3) := by decide +kernel
theorem dX9_scanInt_69 : decode cX9_scanInt 69 = .ok (.iconst 3, 1) := by decide +kernel
theorem dX9_scanInt_70 : decode cX9_scanInt 70 = .ok (.iastore, 1) := by decide +kernel
theorem dX9_scanInt_71 : decode cX9_scanInt 71 = .ok (.aload_n 0, 1) := by decide +kernel
theorem dX9_scanInt_72 : decode cX9_scanInt 72 = .ok (.getfield 18, 3) := by decide +kernel
theorem dX9_scanInt_75 : decode cX9_scanInt 75 = .ok (.aload_n 0, 1) := by decide +kernel
theorem dX9_scanInt_76 : decode cX9_scanInt 76 = .ok (.getfield 37, 3) := by decide +kernel
theorem dX9_scanInt_79 : decode cX9_scanInt 79 = .ok (.iload 4, 2) := by decide +kernel
theorem dX9_scanInt_81 : decode cX9_scanInt 81 = .ok (.i2l, 1) := by decide +kernel
theorem dX9_scanInt_82 : decode cX9_scanInt 82 = .ok (.lastore, 1) := by decide +kernel
theorem dX9_scanInt_83 : decode cX9_scanInt 83 = .ok (.iload_n 3, 1) := by decide +kernel
theorem dX9_scanInt_84 : decode cX9_scanInt 84 = .ok (.ireturn, 1) := by decide +kernel
def bX9_scanInt_70   (x3 : Int32) (x4 : Int32) (s0 : Int32) (s1 : Int32) (h : Hp) : Option (Int32 × Hp) := ck (inb s1 401) (lt (wI h 104 (ix s1) s0) (fun h1 => ck (inb (h1.1 103 4) 401) (lt (wL h1 106 (ix (h1.1 103 4)) x4.toInt64) (fun h2 => some (x3, h2)))))
set_option maxRecDepth 20000 in
theorem BX9_scanInt_70 {Z : ZT} {G : GT} {r : Int32} {hr : Hp} (X : CX Z G cX9_scanInt RX9 5 2) (E : RX Z G (some .int) (some (.int r)) hr) (hz : HZ Z)  (x3 : Int32) (x4 : Int32) (s0 : Int32) (s1 : Int32) (h : Hp) (hF : bX9_scanInt_70   x3 x4 s0 s1 h = some (r, hr)) : J Z G 5 h 70 [(0, .ref (Z.2.1 103)), (3, .int x3), (4, .int x4)] [.int s0, .int s1, .ref (Z.2.1 104)] := by
  unfold bX9_scanInt_70 at hF
  refine j_iast (pc := 70) X dX9_scanInt_70 (hz _ sh_104) hF (fun h1 hF => ?_)
  refine j_aload_n (pc := 71) 0 X dX9_scanInt_71 rfl ?_
  refine j_getr (pc := 72) X dX9_scanInt_72 (hz _ sh_103) fl_X9_18 rfl ?_
  refine j_aload_n (pc := 75) 0 X dX9_scanInt_75 rfl ?_
  refine j_geti (pc := 76) X dX9_scanInt_76 (hz _ sh_103) fl_X9_37 rfl ?_
  refine j_iload (pc := 79) 2 X dX9_scanInt_79 rfl ?_
  refine j_i2l (pc := 81) X dX9_scanInt_81 ?_
  refine j_last (pc := 82) X dX9_scanInt_82 (hz _ sh_106) hF (fun h2 hF => ?_)
  refine j_iload_n (pc := 83) 1 X dX9_scanInt_83 rfl ?_
  exact j_iret (pc := 84) X E dX9_scanInt_84 hF
def bX9_scanInt_50   (x2 : Int32) (x3 : Int32) (x4 : Int32) (h : Hp) : Option (Int32 × Hp) := (if (x3 - x2) ≤ 4 then bX9_scanInt_70 x3 x4 3 (h.1 103 4) h else bX9_scanInt_70 x3 x4 1 (h.1 103 4) h)
set_option maxRecDepth 20000 in
theorem BX9_scanInt_50 {Z : ZT} {G : GT} {r : Int32} {hr : Hp} (X : CX Z G cX9_scanInt RX9 5 2) (E : RX Z G (some .int) (some (.int r)) hr) (hz : HZ Z)  (x2 : Int32) (x3 : Int32) (x4 : Int32) (h : Hp) (hF : bX9_scanInt_50   x2 x3 x4 h = some (r, hr)) : J Z G 5 h 50 [(0, .ref (Z.2.1 103)), (2, .int x2), (3, .int x3), (4, .int x4)] [] := by
  unfold bX9_scanInt_50 at hF
  refine j_aload_n (pc := 50) 0 X dX9_scanInt_50 rfl ?_
  refine j_getr (pc := 51) X dX9_scanInt_51 (hz _ sh_103) fl_X9_9 rfl ?_
  refine j_aload_n (pc := 54) 0 X dX9_scanInt_54 rfl ?_
  refine j_geti (pc := 55) X dX9_scanInt_55 (hz _ sh_103) fl_X9_37 rfl ?_
  refine j_iload_n (pc := 58) 2 X dX9_scanInt_58 rfl ?_
  refine j_iload_n (pc := 59) 1 X dX9_scanInt_59 rfl ?_
  refine j_isub (pc := 60) X dX9_scanInt_60 ?_
  refine j_iconst (pc := 61) 4 X dX9_scanInt_61 rfl ?_
  refine j_icmp_le (pc := 62) 69 X dX9_scanInt_62 rfl hF (fun hF => ?_) (fun hF => ?_)
  · refine j_iconst (pc := 69) 3 X dX9_scanInt_69 rfl ?_
    refine j_lv [(0, .ref (Z.2.1 103)), (3, .int x3), (4, .int x4)] [0, 2, 3] rfl ?_
    exact BX9_scanInt_70 X E hz x3 x4 3 (h.1 103 4) h hF
  · refine j_iconst (pc := 65) 1 X dX9_scanInt_65 rfl ?_
    refine j_goto (pc := 66) 70 X dX9_scanInt_66 rfl ?_
    refine j_lv [(0, .ref (Z.2.1 103)), (3, .int x3), (4, .int x4)] [0, 2, 3] rfl ?_
    exact BX9_scanInt_70 X E hz x3 x4 1 (h.1 103 4) h hF
def bX9_scanInt_5   (r5 : Int32 → Int32 → Int32 → Hp → Option (Int32 × Hp)) (x2 : Int32) (x3 : Int32) (x4 : Int32) (h : Hp) : Option (Int32 × Hp) := (if (h.1 101 1) ≤ x3 then bX9_scanInt_50 x2 x3 x4 h else bi (fX8_byteAt x3 h) (fun w2 h1 => bi (fX11_within w2 48 57 h1) (fun w4 h3 => (if w4 = 0 then bX9_scanInt_50 x2 x3 x4 h3 else bi (fX8_byteAt x3 h3) (fun w6 h5 => lt (((x4 * 10) + w6) - 48) (fun v7 => lt (x3 + 1) (fun v8 => r5 x2 v8 v7 h5)))))))
def lX9_scanInt_5   : Nat → Int32 → Int32 → Int32 → Hp → Option (Int32 × Hp)
  | 0 => fun _ _ _ _ => none
  | n + 1 => bX9_scanInt_5   (lX9_scanInt_5   n)
set_option maxRecDepth 20000 in
theorem BX9_scanInt_5 {Z : ZT} {G : GT} {r : Int32} {hr : Hp} (X : CX Z G cX9_scanInt RX9 5 2) (E : RX Z G (some .int) (some (.int r)) hr) (hz : HZ Z)  (r5 : Int32 → Int32 → Int32 → Hp → Option (Int32 × Hp)) (hr5 : ∀ (x2 : Int32) (x3 : Int32) (x4 : Int32) (h : Hp), r5 x2 x3 x4 h = some (r, hr) → J Z G 5 h 5 [(0, .ref (Z.2.1 103)), (1, .ref (Z.2.1 101)), (2, .int x2), (3, .int x3), (4, .int x4)] []) (x2 : Int32) (x3 : Int32) (x4 : Int32) (h : Hp) (hF : bX9_scanInt_5   r5 x2 x3 x4 h = some (r, hr)) : J Z G 5 h 5 [(0, .ref (Z.2.1 103)), (1, .ref (Z.2.1 101)), (2, .int x2), (3, .int x3), (4, .int x4)] [] := by
  unfold bX9_scanInt_5 at hF
  refine j_iload_n (pc := 5) 3 X dX9_scanInt_5 rfl ?_
  refine j_aload_n (pc := 6) 1 X dX9_scanInt_6 rfl ?_
  refine j_geti (pc := 7) X dX9_scanInt_7 (hz _ sh_101) fl_X9_41 rfl ?_
  refine j_icmp_ge (pc := 10) 50 X dX9_scanInt_10 rfl hF (fun hF => ?_) (fun hF => ?_)
  · refine j_lv [(0, .ref (Z.2.1 103)), (2, .int x2), (3, .int x3), (4, .int x4)] [0, 2, 3, 4] rfl ?_
    exact BX9_scanInt_50 X E hz x2 x3 x4 h hF
  · refine j_aload_n (pc := 13) 1 X dX9_scanInt_13 rfl ?_
    refine j_iload_n (pc := 14) 3 X dX9_scanInt_14 rfl ?_
    refine j_cVi (pc := 15) (As := [.int x3]) (rest := []) X dX9_scanInt_15 ml_X9_44 ck_X8_byteAt cv_X8_byteAt (hz _ sh_101) rfl (Nat.le_of_ble_eq_true rfl) rfl (Nat.le_of_ble_eq_true rfl) rfl hF (tX8_byteAt Z x3 hz h) (fun w2 h1 hF => ?_)
    refine j_bipush (pc := 18) 48 X dX9_scanInt_18 rfl ?_
    refine j_bipush (pc := 20) 57 X dX9_scanInt_20 rfl ?_
    refine j_cSNi (pc := 22) (As := [.int w2, .int 48, .int 57]) (rest := []) X dX9_scanInt_22 ml_X9_56 ck_X11_within sk_X11_within (Nat.le_of_ble_eq_true rfl) rfl (Nat.le_of_ble_eq_true rfl) rfl hF (tX11_within Z w2 48 57 trivial h1) (fun w4 h3 hF => ?_)
    refine j_if_eq (pc := 25) 50 X dX9_scanInt_25 rfl hF (fun hF => ?_) (fun hF => ?_)
    · refine j_lv [(0, .ref (Z.2.1 103)), (2, .int x2), (3, .int x3), (4, .int x4)] [0, 2, 3, 4] rfl ?_
      exact BX9_scanInt_50 X E hz x2 x3 x4 h3 hF
    · refine j_iload (pc := 28) 4 X dX9_scanInt_28 rfl ?_
      refine j_bipush (pc := 30) 10 X dX9_scanInt_30 rfl ?_
      refine j_imul (pc := 32) X dX9_scanInt_32 ?_
      refine j_aload_n (pc := 33) 1 X dX9_scanInt_33 rfl ?_
      refine j_iload_n (pc := 34) 3 X dX9_scanInt_34 rfl ?_
      refine j_cVi (pc := 35) (As := [.int x3]) (rest := [.int (x4 * 10)]) X dX9_scanInt_35 ml_X9_44 ck_X8_byteAt cv_X8_byteAt (hz _ sh_101) rfl (Nat.le_of_ble_eq_true rfl) rfl (Nat.le_of_ble_eq_true rfl) rfl hF (tX8_byteAt Z x3 hz h3) (fun w6 h5 hF => ?_)
      refine j_iadd (pc := 38) X dX9_scanInt_38 ?_
      refine j_bipush (pc := 39) 48 X dX9_scanInt_39 rfl ?_
      refine j_isub (pc := 41) X dX9_scanInt_41 ?_
      refine j_istore (pc := 42) (fun y => [(4, .int y), (0, .ref (Z.2.1 103)), (1, .ref (Z.2.1 101)), (2, .int x2), (3, .int x3)]) X dX9_scanInt_42 (by decide) (fun _ => rfl) hF (fun v7 hF => ?_)
      refine j_iinc (pc := 44) 4 (x3 + 1) (fun y => [(3, .int y), (4, .int v7), (0, .ref (Z.2.1 103)), (1, .ref (Z.2.1 101)), (2, .int x2)]) X dX9_scanInt_44 rfl rfl (by decide) (fun _ => rfl) hF (fun v8 hF => ?_)
      refine j_goto (pc := 47) 5 X dX9_scanInt_47 rfl ?_
      refine j_lv [(0, .ref (Z.2.1 103)), (1, .ref (Z.2.1 101)), (2, .int x2), (3, .int v8), (4, .int v7)] [2, 3, 4, 0, 1] rfl ?_
      exact hr5 x2 v8 v7 h5 hF
theorem LX9_scanInt_5 {Z : ZT} {G : GT} {r : Int32} {hr : Hp} (X : CX Z G cX9_scanInt RX9 5 2) (E : RX Z G (some .int) (some (.int r)) hr) (hz : HZ Z)  : ∀ (n : Nat) (x2 : Int32) (x3 : Int32) (x4 : Int32) (h : Hp), lX9_scanInt_5   n x2 x3 x4 h = some (r, hr) → J Z G 5 h 5 [(0, .ref (Z.2.1 103)), (1, .ref (Z.2.1 101)), (2, .int x2), (3, .int x3), (4, .int x4)] [] := by
  intro n
  induction n with
  | zero => intro x2 x3 x4 h hF; cases hF
  | succ n ih => intro x2 x3 x4 h hF; exact BX9_scanInt_5 X E hz  (lX9_scanInt_5   n) ih x2 x3 x4 h hF
def fX9_scanInt (a2 : Int32) (h : Hp) : Option (Int32 × Hp) := lt a2 (fun v1 => lt 0 (fun v2 => lX9_scanInt_5 FU a2 v1 v2 h))
set_option maxRecDepth 20000 in
theorem tX9_scanInt (Z : ZT) (a2 : Int32) (hz : HZ Z) (h : Hp) (r : Int32) (hr : Hp) (hF : fX9_scanInt a2 h = some (r, hr)) : MC Z yX9_scanInt cX9_scanInt 5 (some .int) 2 [.ref (Z.2.1 103), .ref (Z.2.1 101), .int a2] h (some (.int r)) hr := by
  unfold fX9_scanInt at hF
  refine mc_start (by decide) (Nat.le_of_ble_eq_true rfl) (fun G X E => ?_)
  refine j_iload_n (pc := 0) 2 X dX9_scanInt_0 rfl ?_
  refine j_istore_n (pc := 1) (fun y => [(3, .int y), (0, .ref (Z.2.1 103)), (1, .ref (Z.2.1 101)), (2, .int a2)]) X dX9_scanInt_1 (by decide) (fun _ => rfl) hF (fun v1 hF => ?_)
  refine j_iconst (pc := 2) 0 X dX9_scanInt_2 rfl ?_
  refine j_istore (pc := 3) (fun y => [(4, .int y), (3, .int v1), (0, .ref (Z.2.1 103)), (1, .ref (Z.2.1 101)), (2, .int a2)]) X dX9_scanInt_3 (by decide) (fun _ => rfl) hF (fun v2 hF => ?_)
  refine j_lv [(0, .ref (Z.2.1 103)), (1, .ref (Z.2.1 101)), (2, .int a2), (3, .int v1), (4, .int v2)] [2, 3, 4, 1, 0] rfl ?_
  exact LX9_scanInt_5 X E hz FU a2 v1 v2 h hF
theorem dX9_signKind_0 : decode cX9_signKind 0 = .ok (.iload_n 0, 1) := by decide +kernel
theorem dX9_signKind_1 : decode cX9_signKind 1 = .ok (.lookupswitch 155 #[(-1, 99), (33, 126), (40, 149), (41, 152), (42, 108), (43, 103), (45, 105), (47, 111), (59, 101), (60, 137), (61, 114)], 99) := by decide +kernel
theorem dX9_signKind_100 : decode cX9_signKind 100 = .ok (.iconst 0, 1) := by decide +kernel
theorem dX9_signKind_101 : decode cX9_signKind 101 = .ok (.ireturn, 1) := by decide +kernel
theorem dX9_signKind_102 : decode cX9_signKind 102 = .ok (.iconst 4, 1) := by decide +kernel
theorem dX9_signKind_103 : decode cX9_signKind 103 = .ok (.ireturn, 1) := by decide +kernel
theorem dX9_signKind_104 : decode cX9_signKind 104 = .ok (.iconst 5, 1) := by decide +kernel
theorem dX9_signKind_105 : decode cX9_signKind 105 = .ok (.ireturn, 1) := by decide +kernel
theorem dX9_signKind_106 : decode cX9_signKind 106 = .ok (.bipush 6, 2) := by decide +kernel
theorem dX9_signKind_108 : decode cX9_signKind 108 = .ok (.ireturn, 1) := by decide +kernel
theorem dX9_signKind_109 : decode cX9_signKind 109 = .ok (.bipush 7, 2) := by decide +kernel
theorem dX9_signKind_111 : decode cX9_signKind 111 = .ok (.ireturn, 1) := by decide +kernel
theorem dX9_signKind_112 : decode cX9_signKind 112 = .ok (.bipush 8, 2) := by decide +kernel
theorem dX9_signKind_114 : decode cX9_signKind 114 = .ok (.ireturn, 1) := by decide +kernel
theorem dX9_signKind_115 : decode cX9_signKind 115 = .ok (.iload_n 1, 1) := by decide +kernel
theorem dX9_signKind_116 : decode cX9_signKind 116 = .ok (.ifCond .eq 8, 3) := by decide +kernel
theorem dX9_signKind_119 : decode cX9_signKind 119 = .ok (.bipush 9, 2) := by decide +kernel
theorem dX9_signKind_121 : decode cX9_signKind 121 = .ok (.goto 5, 3) := by decide +kernel
theorem dX9_signKind_124 : decode cX9_signKind 124 = .ok (.bipush 13, 2) := by decide +kernel
theorem dX9_signKind_126 : decode cX9_signKind 126 = .ok (.ireturn, 1) := by decide +kernel
theorem dX9_signKind_127 : decode cX9_signKind 127 = .ok (.iload_n 1, 1) := by decide +kernel
theorem dX9_signKind_128 : decode cX9_signKind 128 = .ok (.ifCond .eq 8, 3) := by decide +kernel
theorem dX9_signKind_131 : decode cX9_signKind 131 = .ok (.bipush 10, 2) := by decide +kernel
theorem dX9_signKind_133 : decode cX9_signKind 133 = .ok (.goto 4, 3) := by decide +kernel
theorem dX9_signKind_136 : decode cX9_signKind 136 = .ok (.iconst 1, 1) := by decide +kernel
theorem dX9_signKind_137 : decode cX9_signKind 137 = .ok (.ireturn, 1) := by decide +kernel
theorem dX9_signKind_138 : decode cX9_signKind 138 = .ok (.iload_n 1, 1) := by decide +kernel
theorem dX9_signKind_139 : decode cX9_signKind 139 = .ok (.ifCond .eq 8, 3) := by decide +kernel
theorem dX9_signKind_142 : decode cX9_signKind 142 = .ok (.bipush 12, 2) := by decide +kernel
theorem dX9_signKind_144 : decode cX9_signKind 144 = .ok (.goto 5, 3) := by decide +kernel
theorem dX9_signKind_147 : decode cX9_signKind 147 = .ok (.bipush 11, 2) := by decide +kernel
theorem dX9_signKind_149 : decode cX9_signKind 149 = .ok (.ireturn, 1) := by decide +kernel
theorem dX9_signKind_150 : decode cX9_signKind 150 = .ok (.bipush 14, 2) := by decide +kernel
theorem dX9_signKind_152 : decode cX9_signKind 152 = .ok (.ireturn, 1) := by decide +kernel
theorem dX9_signKind_153 : decode cX9_signKind 153 = .ok (.bipush 15, 2) := by decide +kernel
theorem dX9_signKind_155 : decode cX9_signKind 155 = .ok (.ireturn, 1) := by decide +kernel
theorem dX9_signKind_156 : decode cX9_signKind 156 = .ok (.iconst 1, 1) := by decide +kernel
theorem dX9_signKind_157 : decode cX9_signKind 157 = .ok (.ireturn, 1) := by decide +kernel
def fX9_signKind (a1 : Int32) (a2 : Int32) (h : Hp) : Option (Int32 × Hp) := (if a1 = (-1) then some (0, h) else if a1 = 33 then (if a2 = 0 then some (1, h) else some (10, h)) else if a1 = 40 then some (14, h) else if a1 = 41 then some (15, h) else if a1 = 42 then some (7, h) else if a1 = 43 then some (5, h) else if a1 = 45 then some (6, h) else if a1 = 47 then some (8, h) else if a1 = 59 then some (4, h) else if a1 = 60 then (if a2 = 0 then some (11, h) else some (12, h)) else if a1 = 61 then (if a2 = 0 then some (13, h) else some (9, h)) else some (1, h))
set_option maxRecDepth 20000 in
theorem tX9_signKind (Z : ZT) (a1 : Int32) (a2 : Int32) (hz : True) (h : Hp) (r : Int32) (hr : Hp) (hF : fX9_signKind a1 a2 h = some (r, hr)) : MC Z yX9_signKind cX9_signKind 2 (some .int) 0 [.int a1, .int a2] h (some (.int r)) hr := by
  unfold fX9_signKind at hF
  refine mc_start (by decide) (Nat.le_of_ble_eq_true rfl) (fun G X E => ?_)
  refine j_iload_n (pc := 0) 0 X dX9_signKind_0 rfl ?_
  refine j_lki (pc := 1) (off := 99) (v := (-1)) (tgt := 100) X dX9_signKind_1 rfl (by decide) rfl hF (fun hF => ?_) (fun c1 hF => ?_)
  · refine j_iconst (pc := 100) 0 X dX9_signKind_100 rfl ?_
    exact j_iret (pc := 101) X E dX9_signKind_101 hF
  refine j_lki (pc := 1) (off := 126) (v := 33) (tgt := 127) X dX9_signKind_1 rfl (by decide) rfl hF (fun hF => ?_) (fun c2 hF => ?_)
  · refine j_iload_n (pc := 127) 1 X dX9_signKind_127 rfl ?_
    refine j_if_eq (pc := 128) 136 X dX9_signKind_128 rfl hF (fun hF => ?_) (fun hF => ?_)
    · refine j_iconst (pc := 136) 1 X dX9_signKind_136 rfl ?_
      exact j_iret (pc := 137) X E dX9_signKind_137 hF
    · refine j_bipush (pc := 131) 10 X dX9_signKind_131 rfl ?_
      refine j_goto (pc := 133) 137 X dX9_signKind_133 rfl ?_
      exact j_iret (pc := 137) X E dX9_signKind_137 hF
  refine j_lki (pc := 1) (off := 149) (v := 40) (tgt := 150) X dX9_signKind_1 rfl (by decide) rfl hF (fun hF => ?_) (fun c3 hF => ?_)
  · refine j_bipush (pc := 150) 14 X dX9_signKind_150 rfl ?_
    exact j_iret (pc := 152) X E dX9_signKind_152 hF
  refine j_lki (pc := 1) (off := 152) (v := 41) (tgt := 153) X dX9_signKind_1 rfl (by decide) rfl hF (fun hF => ?_) (fun c4 hF => ?_)
  · refine j_bipush (pc := 153) 15 X dX9_signKind_153 rfl ?_
    exact j_iret (pc := 155) X E dX9_signKind_155 hF
  refine j_lki (pc := 1) (off := 108) (v := 42) (tgt := 109) X dX9_signKind_1 rfl (by decide) rfl hF (fun hF => ?_) (fun c5 hF => ?_)
  · refine j_bipush (pc := 109) 7 X dX9_signKind_109 rfl ?_
    exact j_iret (pc := 111) X E dX9_signKind_111 hF
  refine j_lki (pc := 1) (off := 103) (v := 43) (tgt := 104) X dX9_signKind_1 rfl (by decide) rfl hF (fun hF => ?_) (fun c6 hF => ?_)
  · refine j_iconst (pc := 104) 5 X dX9_signKind_104 rfl ?_
    exact j_iret (pc := 105) X E dX9_signKind_105 hF
  refine j_lki (pc := 1) (off := 105) (v := 45) (tgt := 106) X dX9_signKind_1 rfl (by decide) rfl hF (fun hF => ?_) (fun c7 hF => ?_)
  · refine j_bipush (pc := 106) 6 X dX9_signKind_106 rfl ?_
    exact j_iret (pc := 108) X E dX9_signKind_108 hF
  refine j_lki (pc := 1) (off := 111) (v := 47) (tgt := 112) X dX9_signKind_1 rfl (by decide) rfl hF (fun hF => ?_) (fun c8 hF => ?_)
  · refine j_bipush (pc := 112) 8 X dX9_signKind_112 rfl ?_
    exact j_iret (pc := 114) X E dX9_signKind_114 hF
  refine j_lki (pc := 1) (off := 101) (v := 59) (tgt := 102) X dX9_signKind_1 rfl (by decide) rfl hF (fun hF => ?_) (fun c9 hF => ?_)
  · refine j_iconst (pc := 102) 4 X dX9_signKind_102 rfl ?_
    exact j_iret (pc := 103) X E dX9_signKind_103 hF
  refine j_lki (pc := 1) (off := 137) (v := 60) (tgt := 138) X dX9_signKind_1 rfl (by decide) rfl hF (fun hF => ?_) (fun c10 hF => ?_)
  · refine j_iload_n (pc := 138) 1 X dX9_signKind_138 rfl ?_
    refine j_if_eq (pc := 139) 147 X dX9_signKind_139 rfl hF (fun hF => ?_) (fun hF => ?_)
    · refine j_bipush (pc := 147) 11 X dX9_signKind_147 rfl ?_
      exact j_iret (pc := 149) X E dX9_signKind_149 hF
    · refine j_bipush (pc := 142) 12 X dX9_signKind_142 rfl ?_
      refine j_goto (pc := 144) 149 X dX9_signKind_144 rfl ?_
      exact j_iret (pc := 149) X E dX9_signKind_149 hF
  refine j_lki (pc := 1) (off := 114) (v := 61) (tgt := 115) X dX9_signKind_1 rfl (by decide) rfl hF (fun hF => ?_) (fun c11 hF => ?_)
  · refine j_iload_n (pc := 115) 1 X dX9_signKind_115 rfl ?_
    refine j_if_eq (pc := 116) 124 X dX9_signKind_116 rfl hF (fun hF => ?_) (fun hF => ?_)
    · refine j_bipush (pc := 124) 13 X dX9_signKind_124 rfl ?_
      exact j_iret (pc := 126) X E dX9_signKind_126 hF
    · refine j_bipush (pc := 119) 9 X dX9_signKind_119 rfl ?_
      refine j_goto (pc := 121) 126 X dX9_signKind_121 rfl ?_
      exact j_iret (pc := 126) X E dX9_signKind_126 hF
  refine j_lkd (pc := 1) (tgt := 156) X dX9_signKind_1 rfl ((lv_osw (a := (-1)) (o := 99) c1 rfl).trans ((lv_osw (a := 33) (o := 126) c2 rfl).trans ((lv_osw (a := 40) (o := 149) c3 rfl).trans ((lv_osw (a := 41) (o := 152) c4 rfl).trans ((lv_osw (a := 42) (o := 108) c5 rfl).trans ((lv_osw (a := 43) (o := 103) c6 rfl).trans ((lv_osw (a := 45) (o := 105) c7 rfl).trans ((lv_osw (a := 47) (o := 111) c8 rfl).trans ((lv_osw (a := 59) (o := 101) c9 rfl).trans ((lv_osw (a := 60) (o := 137) c10 rfl).trans ((lv_osw (a := 61) (o := 114) c11 rfl).trans rfl))))))))))) rfl ?_
  refine j_iconst (pc := 156) 1 X dX9_signKind_156 rfl ?_
  exact j_iret (pc := 157) X E dX9_signKind_157 hF
theorem dX9_scanOne_0 : decode cX9_scanOne 0 = .ok (.aload_n 0, 1) := by decide +kernel
theorem dX9_scanOne_1 : decode cX9_scanOne 1 = .ok (.getfield 15, 3) := by decide +kernel
theorem dX9_scanOne_4 : decode cX9_scanOne 4 = .ok (.aload_n 0, 1) := by decide +kernel
theorem dX9_scanOne_5 : decode cX9_scanOne 5 = .ok (.getfield 37, 3) := by decide +kernel
theorem dX9_scanOne_8 : decode cX9_scanOne 8 = .ok (.iload_n 2, 1) := by decide +kernel
theorem dX9_scanOne_9 : decode cX9_scanOne 9 = .ok (.iastore, 1) := by decide +kernel
theorem dX9_scanOne_10 : decode cX9_scanOne 10 = .ok (.aload_n 0, 1) := by decide +kernel
theorem dX9_scanOne_11 : decode cX9_scanOne 11 = .ok (.getfield 18, 3) := by decide +kernel
theorem dX9_scanOne_14 : decode cX9_scanOne 14 = .ok (.aload_n 0, 1) := by decide +kernel
theorem dX9_scanOne_15 : decode cX9_scanOne 15 = .ok (.getfield 37, 3) := by decide +kernel
theorem dX9_scanOne_18 : decode cX9_scanOne 18 = .ok (.lconst 0, 1) := by decide +kernel
theorem dX9_scanOne_19 : decode cX9_scanOne 19 = .ok (.lastore, 1) := by decide +kernel
theorem dX9_scanOne_20 : decode cX9_scanOne 20 = .ok (.aload_n 1, 1) := by decide +kernel
theorem dX9_scanOne_21 : decode cX9_scanOne 21 = .ok (.iload_n 2, 1) := by decide +kernel
theorem dX9_scanOne_22 : decode cX9_scanOne 22 = .ok (.invokevirtual 44, 3) := by decide +kernel
theorem dX9_scanOne_25 : decode cX9_scanOne 25 = .ok (.istore_n 3, 1) := by decide +kernel
theorem dX9_scanOne_26 : decode cX9_scanOne 26 = .ok (.iload_n 3, 1) := by decide +kernel
theorem dX9_scanOne_27 : decode cX9_scanOne 27 = .ok (.bipush 97, 2) := by decide +kernel
theorem dX9_scanOne_29 : decode cX9_scanOne 29 = .ok (.bipush 122, 2) := by decide +kernel
theorem dX9_scanOne_31 : decode cX9_scanOne 31 = .ok (.invokestatic 56, 3) := by decide +kernel
theorem dX9_scanOne_34 : decode cX9_scanOne 34 = .ok (.ifCond .eq 10, 3) := by decide +kernel
theorem dX9_scanOne_37 : decode cX9_scanOne 37 = .ok (.aload_n 0, 1) := by decide +kernel
theorem dX9_scanOne_38 : decode cX9_scanOne 38 = .ok (.aload_n 1, 1) := by decide +kernel
theorem dX9_scanOne_39 : decode cX9_scanOne 39 = .ok (.iload_n 2, 1) := by decide +kernel
theorem dX9_scanOne_40 : decode cX9_scanOne 40 = .ok (.invokevirtual 60, 3) := by decide +kernel
theorem dX9_scanOne_43 : decode cX9_scanOne 43 = .ok (.ireturn, 1) := by decide +kernel
theorem dX9_scanOne_44 : decode cX9_scanOne 44 = .ok (.iload_n 3, 1) := by decide +kernel
theorem dX9_scanOne_45 : decode cX9_scanOne 45 = .ok (.bipush 48, 2) := by decide +kernel
theorem dX9_scanOne_47 : decode cX9_scanOne 47 = .ok (.bipush 57, 2) := by decide +kernel
theorem dX9_scanOne_49 : decode cX9_scanOne 49 = .ok (.invokestatic 56, 3) := by decide +kernel
theorem dX9_scanOne_52 : decode cX9_scanOne 52 = .ok (.ifCond .eq 10, 3) := by decide +kernel
theorem dX9_scanOne_55 : decode cX9_scanOne 55 = .ok (.aload_n 0, 1) := by decide +kernel
theorem dX9_scanOne_56 : decode cX9_scanOne 56 = .ok (.aload_n 1, 1) := by decide +kernel
theorem dX9_scanOne_57 : decode cX9_scanOne 57 = .ok (.iload_n 2, 1) := by decide +kernel
theorem dX9_scanOne_58 : decode cX9_scanOne 58 = .ok (.invokevirtual 63, 3) := by decide +kernel
theorem dX9_scanOne_61 : decode cX9_scanOne 61 = .ok (.ireturn, 1) := by decide +kernel
theorem dX9_scanOne_62 : decode cX9_scanOne 62 = .ok (.aload_n 1, 1) := by decide +kernel
theorem dX9_scanOne_63 : decode cX9_scanOne 63 = .ok (.iload_n 2, 1) := by decide +kernel
theorem dX9_scanOne_64 : decode cX9_scanOne 64 = .ok (.iconst 1, 1) := by decide +kernel
theorem dX9_scanOne_65 : decode cX9_scanOne 65 = .ok (.iadd, 1) := by decide +kernel
theorem dX9_scanOne_66 : decode cX9_scanOne 66 = .ok (.invokevirtual 44, 3) := by decide +kernel
theorem dX9_scanOne_69 : decode cX9_scanOne 69 = .ok (.bipush 61, 2) := by decide +kernel
theorem dX9_scanOne_71 : decode cX9_scanOne 71 = .ok (.if_icmp .ne 7, 3) := by decide +kernel
theorem dX9_scanOne_74 : decode cX9_scanOne 74 = .ok (.iconst 1, 1) := by decide +kernel
theorem dX9_scanOne_75 : decode cX9_scanOne 75 = .ok (.goto 4, 3) := by decide +kernel
theorem dX9_scanOne_78 : decode cX9_scanOne 78 = .ok (.iconst 0, 1) := by decide +kernel
theorem dX9_scanOne_79 : decode cX9_scanOne 79 = .ok (.istore 4, 2) := by decide +kernel
theorem dX9_scanOne_81 : decode cX9_scanOne 81 = .ok (.aload_n 0, 1) := by decide +kernel
theorem dX9_scanOne_82 : decode cX9_scanOne 82 = .ok (.getfield 9, 3) := by decide +kernel
theorem dX9_scanOne_85 : decode cX9_scanOne 85 = .ok (.aload_n 0, 1) := by decide +kernel
theorem dX9_scanOne_86 : decode cX9_scanOne 86 = .ok (.getfield 37, 3) := by decide +kernel
theorem dX9_scanOne_89 : decode cX9_scanOne 89 = .ok (.iload_n 3, 1) := by decide +kernel
theorem dX9_scanOne_90 : decode cX9_scanOne 90 = .ok (.iload 4, 2) := by decide +kernel
theorem dX9_scanOne_92 : decode cX9_scanOne 92 = .ok (.invokestatic 66, 3) := by decide +kernel
theorem dX9_scanOne_95 : decode cX9_scanOne 95 = .ok (.iastore, 1) := by decide +kernel
theorem dX9_scanOne_96 : decode cX9_scanOne 96 = .ok (.aload_n 0, 1) := by decide +kernel
theorem dX9_scanOne_97 : decode cX9_scanOne 97 = .ok (.getfield 9, 3) := by decide +kernel
theorem dX9_scanOne_100 : decode cX9_scanOne 100 = .ok (.aload_n 0, 1) := by decide +kernel
theorem dX9_scanOne_101 : decode cX9_scanOne 101 = .ok (.getfield 37, 3) := by decide +kernel
theorem dX9_scanOne_104 : decode cX9_scanOne 104 = .ok (.iaload, 1) := by decide +kernel
theorem dX9_scanOne_105 : decode cX9_scanOne 105 = .ok (.bipush 9, 2) := by decide +kernel
theorem dX9_scanOne_107 : decode cX9_scanOne 107 = .ok (.if_icmp .eq 31, 3) := by decide +kernel
theorem dX9_scanOne_110 : decode cX9_scanOne 110 = .ok (.aload_n 0, 1) := by decide +kernel
theorem dX9_scanOne_111 : decode cX9_scanOne 111 = .ok (.getfield 9, 3) := by decide +kernel
theorem dX9_scanOne_114 : decode cX9_scanOne 114 = .ok (.aload_n 0, 1) := by decide +kernel
theorem dX9_scanOne_115 : decode cX9_scanOne 115 = .ok (.getfield 37, 3) := by decide +kernel
theorem dX9_scanOne_118 : decode cX9_scanOne 118 = .ok (.iaload, 1) := by decide +kernel
theorem dX9_scanOne_119 : decode cX9_scanOne 119 = .ok (.bipush 10, 2) := by decide +kernel
theorem dX9_scanOne_121 : decode cX9_scanOne 121 = .ok (.if_icmp .eq 17, 3) := by decide +kernel
theorem dX9_scanOne_124 : decode cX9_scanOne 124 = .ok (.aload_n 0, 1) := by decide +kernel
theorem dX9_scanOne_125 : decode cX9_scanOne 125 = .ok (.getfield 9, 3) := by decide +kernel
theorem dX9_scanOne_128 : decode cX9_scanOne 128 = .ok (.aload_n 0, 1) := by decide +kernel
theorem dX9_scanOne_129 : decode cX9_scanOne 129 = .ok (.getfield 37, 3) := by decide +kernel
theorem dX9_scanOne_132 : decode cX9_scanOne 132 = .ok (.iaload, 1) := by decide +kernel
theorem dX9_scanOne_133 : decode cX9_scanOne 133 = .ok (.bipush 12, 2) := by decide +kernel
theorem dX9_scanOne_135 : decode cX9_scanOne 135 = .ok (.if_icmp .ne 9, 3) := by decide +kernel
theorem dX9_scanOne_138 : decode cX9_scanOne 138 = .ok (.iload_n 2, 1) := by decide +kernel
theorem dX9_scanOne_139 : decode cX9_scanOne 139 = .ok (.iconst 2, 1) := by decide +kernel
theorem dX9_scanOne_140 : decode cX9_scanOne 140 = .ok (.iadd, 1) := by decide +kernel
theorem dX9_scanOne_141 : decode cX9_scanOne 141 = .ok (.goto 6, 3) := by decide +kernel
theorem dX9_scanOne_144 : decode cX9_scanOne 144 = .ok (.iload_n 2, 1) := by decide +kernel
theorem dX9_scanOne_145 : decode cX9_scanOne 145 = .ok (.iconst 1, 1) := by decide +kernel
theorem dX9_scanOne_146 : decode cX9_scanOne 146 = .ok (.iadd, 1) := by decide +kernel
theorem dX9_scanOne_147 : decode cX9_scanOne 147 = .ok (.ireturn, 1) := by decide +kernel
def bX9_scanOne_138   (x2 : Int32) (h : Hp) : Option (Int32 × Hp) := some ((x2 + 2), h)
set_option maxRecDepth 20000 in
theorem BX9_scanOne_138 {Z : ZT} {G : GT} {r : Int32} {hr : Hp} (X : CX Z G cX9_scanOne RX9 5 3) (E : RX Z G (some .int) (some (.int r)) hr) (hz : HZ Z)  (x2 : Int32) (h : Hp) (hF : bX9_scanOne_138   x2 h = some (r, hr)) : J Z G 5 h 138 [(2, .int x2)] [] := by
  unfold bX9_scanOne_138 at hF
  refine j_iload_n (pc := 138) 0 X dX9_scanOne_138 rfl ?_
  refine j_iconst (pc := 139) 2 X dX9_scanOne_139 rfl ?_
  refine j_iadd (pc := 140) X dX9_scanOne_140 ?_
  refine j_goto (pc := 141) 147 X dX9_scanOne_141 rfl ?_
  exact j_iret (pc := 147) X E dX9_scanOne_147 hF
def bX9_scanOne_79   (x2 : Int32) (x3 : Int32) (s0 : Int32) (h : Hp) : Option (Int32 × Hp) := lt s0 (fun v1 => bi (fX9_signKind x3 v1 h) (fun w3 h2 => ck (inb (h.1 103 4) 401) (lt (wI h2 104 (ix (h.1 103 4)) w3) (fun h4 => ck (inb (h4.1 103 4) 401) ((if (h4.1 104 (ix (h4.1 103 4))) = 9 then bX9_scanOne_138 x2 h4 else ck (inb (h4.1 103 4) 401) ((if (h4.1 104 (ix (h4.1 103 4))) = 10 then bX9_scanOne_138 x2 h4 else ck (inb (h4.1 103 4) 401) ((if (h4.1 104 (ix (h4.1 103 4))) = 12 then bX9_scanOne_138 x2 h4 else some ((x2 + 1), h4)))))))))))
set_option maxRecDepth 20000 in
theorem BX9_scanOne_79 {Z : ZT} {G : GT} {r : Int32} {hr : Hp} (X : CX Z G cX9_scanOne RX9 5 3) (E : RX Z G (some .int) (some (.int r)) hr) (hz : HZ Z)  (x2 : Int32) (x3 : Int32) (s0 : Int32) (h : Hp) (hF : bX9_scanOne_79   x2 x3 s0 h = some (r, hr)) : J Z G 5 h 79 [(0, .ref (Z.2.1 103)), (2, .int x2), (3, .int x3)] [.int s0] := by
  unfold bX9_scanOne_79 at hF
  refine j_istore (pc := 79) (fun y => [(4, .int y), (0, .ref (Z.2.1 103)), (2, .int x2), (3, .int x3)]) X dX9_scanOne_79 (by decide) (fun _ => rfl) hF (fun v1 hF => ?_)
  refine j_aload_n (pc := 81) 1 X dX9_scanOne_81 rfl ?_
  refine j_getr (pc := 82) X dX9_scanOne_82 (hz _ sh_103) fl_X9_9 rfl ?_
  refine j_aload_n (pc := 85) 1 X dX9_scanOne_85 rfl ?_
  refine j_geti (pc := 86) X dX9_scanOne_86 (hz _ sh_103) fl_X9_37 rfl ?_
  refine j_iload_n (pc := 89) 3 X dX9_scanOne_89 rfl ?_
  refine j_iload (pc := 90) 0 X dX9_scanOne_90 rfl ?_
  refine j_cSi (pc := 92) (As := [.int x3, .int v1]) (rest := [.int (h.1 103 4), .ref (Z.2.1 104)]) X dX9_scanOne_92 ml_X9_66 ck_X9_signKind sk_X9_signKind (Nat.le_of_ble_eq_true rfl) rfl (Nat.le_of_ble_eq_true rfl) rfl hF (tX9_signKind Z x3 v1 trivial h) (fun w3 h2 hF => ?_)
  refine j_iast (pc := 95) X dX9_scanOne_95 (hz _ sh_104) hF (fun h4 hF => ?_)
  refine j_aload_n (pc := 96) 1 X dX9_scanOne_96 rfl ?_
  refine j_getr (pc := 97) X dX9_scanOne_97 (hz _ sh_103) fl_X9_9 rfl ?_
  refine j_aload_n (pc := 100) 1 X dX9_scanOne_100 rfl ?_
  refine j_geti (pc := 101) X dX9_scanOne_101 (hz _ sh_103) fl_X9_37 rfl ?_
  refine j_iald (pc := 104) X dX9_scanOne_104 (hz _ sh_104) hF (fun hF => ?_)
  refine j_bipush (pc := 105) 9 X dX9_scanOne_105 rfl ?_
  refine j_icmp_eq (pc := 107) 138 X dX9_scanOne_107 rfl hF (fun hF => ?_) (fun hF => ?_)
  · refine j_lv [(2, .int x2)] [2] rfl ?_
    exact BX9_scanOne_138 X E hz x2 h4 hF
  · refine j_aload_n (pc := 110) 1 X dX9_scanOne_110 rfl ?_
    refine j_getr (pc := 111) X dX9_scanOne_111 (hz _ sh_103) fl_X9_9 rfl ?_
    refine j_aload_n (pc := 114) 1 X dX9_scanOne_114 rfl ?_
    refine j_geti (pc := 115) X dX9_scanOne_115 (hz _ sh_103) fl_X9_37 rfl ?_
    refine j_iald (pc := 118) X dX9_scanOne_118 (hz _ sh_104) hF (fun hF => ?_)
    refine j_bipush (pc := 119) 10 X dX9_scanOne_119 rfl ?_
    refine j_icmp_eq (pc := 121) 138 X dX9_scanOne_121 rfl hF (fun hF => ?_) (fun hF => ?_)
    · refine j_lv [(2, .int x2)] [2] rfl ?_
      exact BX9_scanOne_138 X E hz x2 h4 hF
    · refine j_aload_n (pc := 124) 1 X dX9_scanOne_124 rfl ?_
      refine j_getr (pc := 125) X dX9_scanOne_125 (hz _ sh_103) fl_X9_9 rfl ?_
      refine j_aload_n (pc := 128) 1 X dX9_scanOne_128 rfl ?_
      refine j_geti (pc := 129) X dX9_scanOne_129 (hz _ sh_103) fl_X9_37 rfl ?_
      refine j_iald (pc := 132) X dX9_scanOne_132 (hz _ sh_104) hF (fun hF => ?_)
      refine j_bipush (pc := 133) 12 X dX9_scanOne_133 rfl ?_
      refine j_icmp_ne (pc := 135) 144 X dX9_scanOne_135 rfl hF (fun hF => ?_) (fun hF => ?_)
      · refine j_iload_n (pc := 144) 2 X dX9_scanOne_144 rfl ?_
        refine j_iconst (pc := 145) 1 X dX9_scanOne_145 rfl ?_
        refine j_iadd (pc := 146) X dX9_scanOne_146 ?_
        exact j_iret (pc := 147) X E dX9_scanOne_147 hF
      · refine j_lv [(2, .int x2)] [2] rfl ?_
        exact BX9_scanOne_138 X E hz x2 h4 hF
def fX9_scanOne (a2 : Int32) (h : Hp) : Option (Int32 × Hp) := ck (inb (h.1 103 4) 401) (lt (wI h 105 (ix (h.1 103 4)) a2) (fun h1 => ck (inb (h1.1 103 4) 401) (lt (wL h1 106 (ix (h1.1 103 4)) 0) (fun h2 => bi (fX8_byteAt a2 h2) (fun w4 h3 => lt w4 (fun v5 => bi (fX11_within v5 97 122 h3) (fun w7 h6 => (if w7 = 0 then bi (fX11_within v5 48 57 h6) (fun w9 h8 => (if w9 = 0 then bi (fX8_byteAt (a2 + 1) h8) (fun w11 h10 => (if w11 = 61 then bX9_scanOne_79 a2 v5 1 h10 else bX9_scanOne_79 a2 v5 0 h10)) else bi (fX9_scanInt a2 h8) (fun w13 h12 => some (w13, h12)))) else bi (fX9_scanWord a2 h6) (fun w15 h14 => some (w15, h14))))))))))
set_option maxRecDepth 20000 in
theorem tX9_scanOne (Z : ZT) (a2 : Int32) (hz : HZ Z) (h : Hp) (r : Int32) (hr : Hp) (hF : fX9_scanOne a2 h = some (r, hr)) : MC Z yX9_scanOne cX9_scanOne 5 (some .int) 3 [.ref (Z.2.1 103), .ref (Z.2.1 101), .int a2] h (some (.int r)) hr := by
  unfold fX9_scanOne at hF
  refine mc_start (by decide) (Nat.le_of_ble_eq_true rfl) (fun G X E => ?_)
  refine j_aload_n (pc := 0) 0 X dX9_scanOne_0 rfl ?_
  refine j_getr (pc := 1) X dX9_scanOne_1 (hz _ sh_103) fl_X9_15 rfl ?_
  refine j_aload_n (pc := 4) 0 X dX9_scanOne_4 rfl ?_
  refine j_geti (pc := 5) X dX9_scanOne_5 (hz _ sh_103) fl_X9_37 rfl ?_
  refine j_iload_n (pc := 8) 2 X dX9_scanOne_8 rfl ?_
  refine j_iast (pc := 9) X dX9_scanOne_9 (hz _ sh_105) hF (fun h1 hF => ?_)
  refine j_aload_n (pc := 10) 0 X dX9_scanOne_10 rfl ?_
  refine j_getr (pc := 11) X dX9_scanOne_11 (hz _ sh_103) fl_X9_18 rfl ?_
  refine j_aload_n (pc := 14) 0 X dX9_scanOne_14 rfl ?_
  refine j_geti (pc := 15) X dX9_scanOne_15 (hz _ sh_103) fl_X9_37 rfl ?_
  refine j_lconst (pc := 18) 0 X dX9_scanOne_18 rfl ?_
  refine j_last (pc := 19) X dX9_scanOne_19 (hz _ sh_106) hF (fun h2 hF => ?_)
  refine j_aload_n (pc := 20) 1 X dX9_scanOne_20 rfl ?_
  refine j_iload_n (pc := 21) 2 X dX9_scanOne_21 rfl ?_
  refine j_cVi (pc := 22) (As := [.int a2]) (rest := []) X dX9_scanOne_22 ml_X9_44 ck_X8_byteAt cv_X8_byteAt (hz _ sh_101) rfl (Nat.le_of_ble_eq_true rfl) rfl (Nat.le_of_ble_eq_true rfl) rfl hF (tX8_byteAt Z a2 hz h2) (fun w4 h3 hF => ?_)
  refine j_istore_n (pc := 25) (fun y => [(3, .int y), (0, .ref (Z.2.1 103)), (1, .ref (Z.2.1 101)), (2, .int a2)]) X dX9_scanOne_25 (by decide) (fun _ => rfl) hF (fun v5 hF => ?_)
  refine j_iload_n (pc := 26) 0 X dX9_scanOne_26 rfl ?_
  refine j_bipush (pc := 27) 97 X dX9_scanOne_27 rfl ?_
  refine j_bipush (pc := 29) 122 X dX9_scanOne_29 rfl ?_
  refine j_cSNi (pc := 31) (As := [.int v5, .int 97, .int 122]) (rest := []) X dX9_scanOne_31 ml_X9_56 ck_X11_within sk_X11_within (Nat.le_of_ble_eq_true rfl) rfl (Nat.le_of_ble_eq_true rfl) rfl hF (tX11_within Z v5 97 122 trivial h3) (fun w7 h6 hF => ?_)
  refine j_if_eq (pc := 34) 44 X dX9_scanOne_34 rfl hF (fun hF => ?_) (fun hF => ?_)
  · refine j_iload_n (pc := 44) 0 X dX9_scanOne_44 rfl ?_
    refine j_bipush (pc := 45) 48 X dX9_scanOne_45 rfl ?_
    refine j_bipush (pc := 47) 57 X dX9_scanOne_47 rfl ?_
    refine j_cSNi (pc := 49) (As := [.int v5, .int 48, .int 57]) (rest := []) X dX9_scanOne_49 ml_X9_56 ck_X11_within sk_X11_within (Nat.le_of_ble_eq_true rfl) rfl (Nat.le_of_ble_eq_true rfl) rfl hF (tX11_within Z v5 48 57 trivial h6) (fun w9 h8 hF => ?_)
    refine j_if_eq (pc := 52) 62 X dX9_scanOne_52 rfl hF (fun hF => ?_) (fun hF => ?_)
    · refine j_aload_n (pc := 62) 2 X dX9_scanOne_62 rfl ?_
      refine j_iload_n (pc := 63) 3 X dX9_scanOne_63 rfl ?_
      refine j_iconst (pc := 64) 1 X dX9_scanOne_64 rfl ?_
      refine j_iadd (pc := 65) X dX9_scanOne_65 ?_
      refine j_cVi (pc := 66) (As := [.int (a2 + 1)]) (rest := []) X dX9_scanOne_66 ml_X9_44 ck_X8_byteAt cv_X8_byteAt (hz _ sh_101) rfl (Nat.le_of_ble_eq_true rfl) rfl (Nat.le_of_ble_eq_true rfl) rfl hF (tX8_byteAt Z (a2 + 1) hz h8) (fun w11 h10 hF => ?_)
      refine j_bipush (pc := 69) 61 X dX9_scanOne_69 rfl ?_
      refine j_icmp_ne (pc := 71) 78 X dX9_scanOne_71 rfl hF (fun hF => ?_) (fun hF => ?_)
      · refine j_iconst (pc := 78) 0 X dX9_scanOne_78 rfl ?_
        refine j_lv [(0, .ref (Z.2.1 103)), (2, .int a2), (3, .int v5)] [1, 3, 0] rfl ?_
        exact BX9_scanOne_79 X E hz a2 v5 0 h10 hF
      · refine j_iconst (pc := 74) 1 X dX9_scanOne_74 rfl ?_
        refine j_goto (pc := 75) 79 X dX9_scanOne_75 rfl ?_
        refine j_lv [(0, .ref (Z.2.1 103)), (2, .int a2), (3, .int v5)] [1, 3, 0] rfl ?_
        exact BX9_scanOne_79 X E hz a2 v5 1 h10 hF
    · refine j_aload_n (pc := 55) 1 X dX9_scanOne_55 rfl ?_
      refine j_aload_n (pc := 56) 2 X dX9_scanOne_56 rfl ?_
      refine j_iload_n (pc := 57) 3 X dX9_scanOne_57 rfl ?_
      refine j_cVi (pc := 58) (As := [.ref (Z.2.1 101), .int a2]) (rest := []) X dX9_scanOne_58 ml_X9_63 ck_X9_scanInt cv_X9_scanInt (hz _ sh_103) rfl (Nat.le_of_ble_eq_true rfl) rfl (Nat.le_of_ble_eq_true rfl) rfl hF (tX9_scanInt Z a2 hz h8) (fun w13 h12 hF => ?_)
      exact j_iret (pc := 61) X E dX9_scanOne_61 hF
  · refine j_aload_n (pc := 37) 1 X dX9_scanOne_37 rfl ?_
    refine j_aload_n (pc := 38) 2 X dX9_scanOne_38 rfl ?_
    refine j_iload_n (pc := 39) 3 X dX9_scanOne_39 rfl ?_
    refine j_cVi (pc := 40) (As := [.ref (Z.2.1 101), .int a2]) (rest := []) X dX9_scanOne_40 ml_X9_60 ck_X9_scanWord cv_X9_scanWord (hz _ sh_103) rfl (Nat.le_of_ble_eq_true rfl) rfl (Nat.le_of_ble_eq_true rfl) rfl hF (tX9_scanWord Z a2 hz h6) (fun w15 h14 hF => ?_)
    exact j_iret (pc := 43) X E dX9_scanOne_43 hF
