theorem dJ6_numberOfTrailingZeros_0f7a4_0 : decode cJ6_numberOfTrailingZeros_0f7a4 0 = .ok (.iload_n 0, 1) := by decide +kernel
theorem dJ6_numberOfTrailingZeros_0f7a4_1 : decode cJ6_numberOfTrailingZeros_0f7a4 1 = .ok (.iconst (-1), 1) := by decide +kernel
theorem dJ6_numberOfTrailingZeros_0f7a4_2 : decode cJ6_numberOfTrailingZeros_0f7a4 2 = .ok (.ixor, 1) := by decide +kernel
theorem dJ6_numberOfTrailingZeros_0f7a4_3 : decode cJ6_numberOfTrailingZeros_0f7a4 3 = .ok (.iload_n 0, 1) := by decide +kernel
theorem dJ6_numberOfTrailingZeros_0f7a4_4 : decode cJ6_numberOfTrailingZeros_0f7a4 4 = .ok (.iconst 1, 1) := by decide +kernel
theorem dJ6_numberOfTrailingZeros_0f7a4_5 : decode cJ6_numberOfTrailingZeros_0f7a4 5 = .ok (.isub, 1) := by decide +kernel
theorem dJ6_numberOfTrailingZeros_0f7a4_6 : decode cJ6_numberOfTrailingZeros_0f7a4 6 = .ok (.iand, 1) := by decide +kernel
theorem dJ6_numberOfTrailingZeros_0f7a4_7 : decode cJ6_numberOfTrailingZeros_0f7a4 7 = .ok (.istore_n 0, 1) := by decide +kernel
theorem dJ6_numberOfTrailingZeros_0f7a4_8 : decode cJ6_numberOfTrailingZeros_0f7a4 8 = .ok (.iload_n 0, 1) := by decide +kernel
theorem dJ6_numberOfTrailingZeros_0f7a4_9 : decode cJ6_numberOfTrailingZeros_0f7a4 9 = .ok (.ifCond .gt 8, 3) := by decide +kernel
theorem dJ6_numberOfTrailingZeros_0f7a4_12 : decode cJ6_numberOfTrailingZeros_0f7a4 12 = .ok (.iload_n 0, 1) := by decide +kernel
theorem dJ6_numberOfTrailingZeros_0f7a4_13 : decode cJ6_numberOfTrailingZeros_0f7a4 13 = .ok (.bipush 32, 2) := by decide +kernel
theorem dJ6_numberOfTrailingZeros_0f7a4_15 : decode cJ6_numberOfTrailingZeros_0f7a4 15 = .ok (.iand, 1) := by decide +kernel
theorem dJ6_numberOfTrailingZeros_0f7a4_16 : decode cJ6_numberOfTrailingZeros_0f7a4 16 = .ok (.ireturn, 1) := by decide +kernel
theorem dJ6_numberOfTrailingZeros_0f7a4_17 : decode cJ6_numberOfTrailingZeros_0f7a4 17 = .ok (.iconst 1, 1) := by decide +kernel
theorem dJ6_numberOfTrailingZeros_0f7a4_18 : decode cJ6_numberOfTrailingZeros_0f7a4 18 = .ok (.istore_n 1, 1) := by decide +kernel
theorem dJ6_numberOfTrailingZeros_0f7a4_19 : decode cJ6_numberOfTrailingZeros_0f7a4 19 = .ok (.iload_n 0, 1) := by decide +kernel
theorem dJ6_numberOfTrailingZeros_0f7a4_20 : decode cJ6_numberOfTrailingZeros_0f7a4 20 = .ok (.ldc_w 264, 3) := by decide +kernel
theorem dJ6_numberOfTrailingZeros_0f7a4_23 : decode cJ6_numberOfTrailingZeros_0f7a4 23 = .ok (.if_icmp .le 11, 3) := by decide +kernel
theorem dJ6_numberOfTrailingZeros_0f7a4_26 : decode cJ6_numberOfTrailingZeros_0f7a4 26 = .ok (.iinc 1 16, 3) := by decide +kernel
theorem dJ6_numberOfTrailingZeros_0f7a4_29 : decode cJ6_numberOfTrailingZeros_0f7a4 29 = .ok (.iload_n 0, 1) := by decide +kernel
theorem dJ6_numberOfTrailingZeros_0f7a4_30 : decode cJ6_numberOfTrailingZeros_0f7a4 30 = .ok (.bipush 16, 2) := by decide +kernel
theorem dJ6_numberOfTrailingZeros_0f7a4_32 : decode cJ6_numberOfTrailingZeros_0f7a4 32 = .ok (.iushr, 1) := by decide +kernel
theorem dJ6_numberOfTrailingZeros_0f7a4_33 : decode cJ6_numberOfTrailingZeros_0f7a4 33 = .ok (.istore_n 0, 1) := by decide +kernel
theorem dJ6_numberOfTrailingZeros_0f7a4_34 : decode cJ6_numberOfTrailingZeros_0f7a4 34 = .ok (.iload_n 0, 1) := by decide +kernel
theorem dJ6_numberOfTrailingZeros_0f7a4_35 : decode cJ6_numberOfTrailingZeros_0f7a4 35 = .ok (.sipush 256, 3) := by decide +kernel
theorem dJ6_numberOfTrailingZeros_0f7a4_38 : decode cJ6_numberOfTrailingZeros_0f7a4 38 = .ok (.if_icmp .le 11, 3) := by decide +kernel
theorem dJ6_numberOfTrailingZeros_0f7a4_41 : decode cJ6_numberOfTrailingZeros_0f7a4 41 = .ok (.iinc 1 8, 3) := by decide +kernel
theorem dJ6_numberOfTrailingZeros_0f7a4_44 : decode cJ6_numberOfTrailingZeros_0f7a4 44 = .ok (.iload_n 0, 1) := by decide +kernel
theorem dJ6_numberOfTrailingZeros_0f7a4_45 : decode cJ6_numberOfTrailingZeros_0f7a4 45 = .ok (.bipush 8, 2) := by decide +kernel
theorem dJ6_numberOfTrailingZeros_0f7a4_47 : decode cJ6_numberOfTrailingZeros_0f7a4 47 = .ok (.iushr, 1) := by decide +kernel
theorem dJ6_numberOfTrailingZeros_0f7a4_48 : decode cJ6_numberOfTrailingZeros_0f7a4 48 = .ok (.istore_n 0, 1) := by decide +kernel
theorem dJ6_numberOfTrailingZeros_0f7a4_49 : decode cJ6_numberOfTrailingZeros_0f7a4 49 = .ok (.iload_n 0, 1) := by decide +kernel
theorem dJ6_numberOfTrailingZeros_0f7a4_50 : decode cJ6_numberOfTrailingZeros_0f7a4 50 = .ok (.bipush 16, 2) := by decide +kernel
theorem dJ6_numberOfTrailingZeros_0f7a4_52 : decode cJ6_numberOfTrailingZeros_0f7a4 52 = .ok (.if_icmp .le 10, 3) := by decide +kernel
theorem dJ6_numberOfTrailingZeros_0f7a4_55 : decode cJ6_numberOfTrailingZeros_0f7a4 55 = .ok (.iinc 1 4, 3) := by decide +kernel
theorem dJ6_numberOfTrailingZeros_0f7a4_58 : decode cJ6_numberOfTrailingZeros_0f7a4 58 = .ok (.iload_n 0, 1) := by decide +kernel
theorem dJ6_numberOfTrailingZeros_0f7a4_59 : decode cJ6_numberOfTrailingZeros_0f7a4 59 = .ok (.iconst 4, 1) := by decide +kernel
theorem dJ6_numberOfTrailingZeros_0f7a4_60 : decode cJ6_numberOfTrailingZeros_0f7a4 60 = .ok (.iushr, 1) := by decide +kernel
theorem dJ6_numberOfTrailingZeros_0f7a4_61 : decode cJ6_numberOfTrailingZeros_0f7a4 61 = .ok (.istore_n 0, 1) := by decide +kernel
theorem dJ6_numberOfTrailingZeros_0f7a4_62 : decode cJ6_numberOfTrailingZeros_0f7a4 62 = .ok (.iload_n 0, 1) := by decide +kernel
theorem dJ6_numberOfTrailingZeros_0f7a4_63 : decode cJ6_numberOfTrailingZeros_0f7a4 63 = .ok (.iconst 4, 1) := by decide +kernel
theorem dJ6_numberOfTrailingZeros_0f7a4_64 : decode cJ6_numberOfTrailingZeros_0f7a4 64 = .ok (.if_icmp .le 10, 3) := by decide +kernel
theorem dJ6_numberOfTrailingZeros_0f7a4_67 : decode cJ6_numberOfTrailingZeros_0f7a4 67 = .ok (.iinc 1 2, 3) := by decide +kernel
theorem dJ6_numberOfTrailingZeros_0f7a4_70 : decode cJ6_numberOfTrailingZeros_0f7a4 70 = .ok (.iload_n 0, 1) := by decide +kernel
theorem dJ6_numberOfTrailingZeros_0f7a4_71 : decode cJ6_numberOfTrailingZeros_0f7a4 71 = .ok (.iconst 2, 1) := by decide +kernel
theorem dJ6_numberOfTrailingZeros_0f7a4_72 : decode cJ6_numberOfTrailingZeros_0f7a4 72 = .ok (.iushr, 1) := by decide +kernel
theorem dJ6_numberOfTrailingZeros_0f7a4_73 : decode cJ6_numberOfTrailingZeros_0f7a4 73 = .ok (.istore_n 0, 1) := by decide +kernel
theorem dJ6_numberOfTrailingZeros_0f7a4_74 : decode cJ6_numberOfTrailingZeros_0f7a4 74 = .ok (.iload_n 1, 1) := by decide +kernel
theorem dJ6_numberOfTrailingZeros_0f7a4_75 : decode cJ6_numberOfTrailingZeros_0f7a4 75 = .ok (.iload_n 0, 1) := by decide +kernel
theorem dJ6_numberOfTrailingZeros_0f7a4_76 : decode cJ6_numberOfTrailingZeros_0f7a4 76 = .ok (.iconst 1, 1) := by decide +kernel
theorem dJ6_numberOfTrailingZeros_0f7a4_77 : decode cJ6_numberOfTrailingZeros_0f7a4 77 = .ok (.iushr, 1) := by decide +kernel
theorem dJ6_numberOfTrailingZeros_0f7a4_78 : decode cJ6_numberOfTrailingZeros_0f7a4 78 = .ok (.iadd, 1) := by decide +kernel
theorem dJ6_numberOfTrailingZeros_0f7a4_79 : decode cJ6_numberOfTrailingZeros_0f7a4 79 = .ok (.ireturn, 1) := by decide +kernel
def bJ6_numberOfTrailingZeros_0f7a4_74   (x0 : Int32) (x1 : Int32) (h : Hp) : Option (Int32 × Hp) := some ((x1 + (ushr x0 1)), h)
set_option maxRecDepth 20000 in
theorem BJ6_numberOfTrailingZeros_0f7a4_74 {Z : ZT} {G : GT} {r : Int32} {hr : Hp} (X : CX Z G cJ6_numberOfTrailingZeros_0f7a4 RJ6 2 0) (E : RX Z G (some .int) (some (.int r)) hr) (hz : True)  (x0 : Int32) (x1 : Int32) (h : Hp) (hF : bJ6_numberOfTrailingZeros_0f7a4_74   x0 x1 h = some (r, hr)) : J Z G 2 h 74 [(0, .int x0), (1, .int x1)] [] := by
  unfold bJ6_numberOfTrailingZeros_0f7a4_74 at hF
  refine j_iload_n (pc := 74) 1 X dJ6_numberOfTrailingZeros_0f7a4_74 rfl ?_
  refine j_iload_n (pc := 75) 0 X dJ6_numberOfTrailingZeros_0f7a4_75 rfl ?_
  refine j_iconst (pc := 76) 1 X dJ6_numberOfTrailingZeros_0f7a4_76 rfl ?_
  refine j_iushr (pc := 77) X dJ6_numberOfTrailingZeros_0f7a4_77 ?_
  refine j_iadd (pc := 78) X dJ6_numberOfTrailingZeros_0f7a4_78 ?_
  exact j_iret (pc := 79) X E dJ6_numberOfTrailingZeros_0f7a4_79 hF
def bJ6_numberOfTrailingZeros_0f7a4_62   (x0 : Int32) (x1 : Int32) (h : Hp) : Option (Int32 × Hp) := (if x0 ≤ 4 then bJ6_numberOfTrailingZeros_0f7a4_74 x0 x1 h else lt (x1 + 2) (fun v1 => lt (ushr x0 2) (fun v2 => bJ6_numberOfTrailingZeros_0f7a4_74 v2 v1 h)))
set_option maxRecDepth 20000 in
theorem BJ6_numberOfTrailingZeros_0f7a4_62 {Z : ZT} {G : GT} {r : Int32} {hr : Hp} (X : CX Z G cJ6_numberOfTrailingZeros_0f7a4 RJ6 2 0) (E : RX Z G (some .int) (some (.int r)) hr) (hz : True)  (x0 : Int32) (x1 : Int32) (h : Hp) (hF : bJ6_numberOfTrailingZeros_0f7a4_62   x0 x1 h = some (r, hr)) : J Z G 2 h 62 [(0, .int x0), (1, .int x1)] [] := by
  unfold bJ6_numberOfTrailingZeros_0f7a4_62 at hF
  refine j_iload_n (pc := 62) 0 X dJ6_numberOfTrailingZeros_0f7a4_62 rfl ?_
  refine j_iconst (pc := 63) 4 X dJ6_numberOfTrailingZeros_0f7a4_63 rfl ?_
  refine j_icmp_le (pc := 64) 74 X dJ6_numberOfTrailingZeros_0f7a4_64 rfl hF (fun hF => ?_) (fun hF => ?_)
  · exact BJ6_numberOfTrailingZeros_0f7a4_74 X E hz x0 x1 h hF
  · refine j_iinc (pc := 67) 1 (x1 + 2) (fun y => [(1, .int y), (0, .int x0)]) X dJ6_numberOfTrailingZeros_0f7a4_67 rfl rfl (by decide) (fun _ => rfl) hF (fun v1 hF => ?_)
    refine j_iload_n (pc := 70) 1 X dJ6_numberOfTrailingZeros_0f7a4_70 rfl ?_
    refine j_iconst (pc := 71) 2 X dJ6_numberOfTrailingZeros_0f7a4_71 rfl ?_
    refine j_iushr (pc := 72) X dJ6_numberOfTrailingZeros_0f7a4_72 ?_
    refine j_istore_n (pc := 73) (fun y => [(0, .int y), (1, .int v1)]) X dJ6_numberOfTrailingZeros_0f7a4_73 (by decide) (fun _ => rfl) hF (fun v2 hF => ?_)
    exact BJ6_numberOfTrailingZeros_0f7a4_74 X E hz v2 v1 h hF
def bJ6_numberOfTrailingZeros_0f7a4_49   (x0 : Int32) (x1 : Int32) (h : Hp) : Option (Int32 × Hp) := (if x0 ≤ 16 then bJ6_numberOfTrailingZeros_0f7a4_62 x0 x1 h else lt (x1 + 4) (fun v1 => lt (ushr x0 4) (fun v2 => bJ6_numberOfTrailingZeros_0f7a4_62 v2 v1 h)))
set_option maxRecDepth 20000 in
theorem BJ6_numberOfTrailingZeros_0f7a4_49 {Z : ZT} {G : GT} {r : Int32} {hr : Hp} (X : CX Z G cJ6_numberOfTrailingZeros_0f7a4 RJ6 2 0) (E : RX Z G (some .int) (some (.int r)) hr) (hz : True)  (x0 : Int32) (x1 : Int32) (h : Hp) (hF : bJ6_numberOfTrailingZeros_0f7a4_49   x0 x1 h = some (r, hr)) : J Z G 2 h 49 [(0, .int x0), (1, .int x1)] [] := by
  unfold bJ6_numberOfTrailingZeros_0f7a4_49 at hF
  refine j_iload_n (pc := 49) 0 X dJ6_numberOfTrailingZeros_0f7a4_49 rfl ?_
  refine j_bipush (pc := 50) 16 X dJ6_numberOfTrailingZeros_0f7a4_50 rfl ?_
  refine j_icmp_le (pc := 52) 62 X dJ6_numberOfTrailingZeros_0f7a4_52 rfl hF (fun hF => ?_) (fun hF => ?_)
  · exact BJ6_numberOfTrailingZeros_0f7a4_62 X E hz x0 x1 h hF
  · refine j_iinc (pc := 55) 1 (x1 + 4) (fun y => [(1, .int y), (0, .int x0)]) X dJ6_numberOfTrailingZeros_0f7a4_55 rfl rfl (by decide) (fun _ => rfl) hF (fun v1 hF => ?_)
    refine j_iload_n (pc := 58) 1 X dJ6_numberOfTrailingZeros_0f7a4_58 rfl ?_
    refine j_iconst (pc := 59) 4 X dJ6_numberOfTrailingZeros_0f7a4_59 rfl ?_
    refine j_iushr (pc := 60) X dJ6_numberOfTrailingZeros_0f7a4_60 ?_
    refine j_istore_n (pc := 61) (fun y => [(0, .int y), (1, .int v1)]) X dJ6_numberOfTrailingZeros_0f7a4_61 (by decide) (fun _ => rfl) hF (fun v2 hF => ?_)
    exact BJ6_numberOfTrailingZeros_0f7a4_62 X E hz v2 v1 h hF
def bJ6_numberOfTrailingZeros_0f7a4_34   (x0 : Int32) (x1 : Int32) (h : Hp) : Option (Int32 × Hp) := (if x0 ≤ 256 then bJ6_numberOfTrailingZeros_0f7a4_49 x0 x1 h else lt (x1 + 8) (fun v1 => lt (ushr x0 8) (fun v2 => bJ6_numberOfTrailingZeros_0f7a4_49 v2 v1 h)))
set_option maxRecDepth 20000 in
theorem BJ6_numberOfTrailingZeros_0f7a4_34 {Z : ZT} {G : GT} {r : Int32} {hr : Hp} (X : CX Z G cJ6_numberOfTrailingZeros_0f7a4 RJ6 2 0) (E : RX Z G (some .int) (some (.int r)) hr) (hz : True)  (x0 : Int32) (x1 : Int32) (h : Hp) (hF : bJ6_numberOfTrailingZeros_0f7a4_34   x0 x1 h = some (r, hr)) : J Z G 2 h 34 [(0, .int x0), (1, .int x1)] [] := by
  unfold bJ6_numberOfTrailingZeros_0f7a4_34 at hF
  refine j_iload_n (pc := 34) 0 X dJ6_numberOfTrailingZeros_0f7a4_34 rfl ?_
  refine j_sipush (pc := 35) 256 X dJ6_numberOfTrailingZeros_0f7a4_35 rfl ?_
  refine j_icmp_le (pc := 38) 49 X dJ6_numberOfTrailingZeros_0f7a4_38 rfl hF (fun hF => ?_) (fun hF => ?_)
  · exact BJ6_numberOfTrailingZeros_0f7a4_49 X E hz x0 x1 h hF
  · refine j_iinc (pc := 41) 1 (x1 + 8) (fun y => [(1, .int y), (0, .int x0)]) X dJ6_numberOfTrailingZeros_0f7a4_41 rfl rfl (by decide) (fun _ => rfl) hF (fun v1 hF => ?_)
    refine j_iload_n (pc := 44) 1 X dJ6_numberOfTrailingZeros_0f7a4_44 rfl ?_
    refine j_bipush (pc := 45) 8 X dJ6_numberOfTrailingZeros_0f7a4_45 rfl ?_
    refine j_iushr (pc := 47) X dJ6_numberOfTrailingZeros_0f7a4_47 ?_
    refine j_istore_n (pc := 48) (fun y => [(0, .int y), (1, .int v1)]) X dJ6_numberOfTrailingZeros_0f7a4_48 (by decide) (fun _ => rfl) hF (fun v2 hF => ?_)
    exact BJ6_numberOfTrailingZeros_0f7a4_49 X E hz v2 v1 h hF
def fJ6_numberOfTrailingZeros_0f7a4 (a1 : Int32) (h : Hp) : Option (Int32 × Hp) := lt ((a1 ^^^ (-1)) &&& (a1 - 1)) (fun v1 => (if 0 < v1 then lt 1 (fun v2 => (if v1 ≤ 65536 then bJ6_numberOfTrailingZeros_0f7a4_34 v1 v2 h else lt (v2 + 16) (fun v3 => lt (ushr v1 16) (fun v4 => bJ6_numberOfTrailingZeros_0f7a4_34 v4 v3 h)))) else some ((v1 &&& 32), h)))
set_option maxRecDepth 20000 in
theorem tJ6_numberOfTrailingZeros_0f7a4 (Z : ZT) (a1 : Int32) (hz : True) (h : Hp) (r : Int32) (hr : Hp) (hF : fJ6_numberOfTrailingZeros_0f7a4 a1 h = some (r, hr)) : MC Z yJ6_numberOfTrailingZeros_0f7a4 cJ6_numberOfTrailingZeros_0f7a4 2 (some .int) 0 [.int a1] h (some (.int r)) hr := by
  unfold fJ6_numberOfTrailingZeros_0f7a4 at hF
  refine mc_start (by decide) (Nat.le_of_ble_eq_true rfl) (fun G X E => ?_)
  refine j_iload_n (pc := 0) 0 X dJ6_numberOfTrailingZeros_0f7a4_0 rfl ?_
  refine j_iconst (pc := 1) (-1) X dJ6_numberOfTrailingZeros_0f7a4_1 rfl ?_
  refine j_ixor (pc := 2) X dJ6_numberOfTrailingZeros_0f7a4_2 ?_
  refine j_iload_n (pc := 3) 0 X dJ6_numberOfTrailingZeros_0f7a4_3 rfl ?_
  refine j_iconst (pc := 4) 1 X dJ6_numberOfTrailingZeros_0f7a4_4 rfl ?_
  refine j_isub (pc := 5) X dJ6_numberOfTrailingZeros_0f7a4_5 ?_
  refine j_iand (pc := 6) X dJ6_numberOfTrailingZeros_0f7a4_6 ?_
  refine j_istore_n (pc := 7) (fun y => [(0, .int y)]) X dJ6_numberOfTrailingZeros_0f7a4_7 (by decide) (fun _ => rfl) hF (fun v1 hF => ?_)
  refine j_iload_n (pc := 8) 0 X dJ6_numberOfTrailingZeros_0f7a4_8 rfl ?_
  refine j_if_gt (pc := 9) 17 X dJ6_numberOfTrailingZeros_0f7a4_9 rfl hF (fun hF => ?_) (fun hF => ?_)
  · refine j_iconst (pc := 17) 1 X dJ6_numberOfTrailingZeros_0f7a4_17 rfl ?_
    refine j_istore_n (pc := 18) (fun y => [(1, .int y), (0, .int v1)]) X dJ6_numberOfTrailingZeros_0f7a4_18 (by decide) (fun _ => rfl) hF (fun v2 hF => ?_)
    refine j_iload_n (pc := 19) 1 X dJ6_numberOfTrailingZeros_0f7a4_19 rfl ?_
    refine j_ldc_w (pc := 20) X dJ6_numberOfTrailingZeros_0f7a4_20 k_J6_264 ?_
    refine j_icmp_le (pc := 23) 34 X dJ6_numberOfTrailingZeros_0f7a4_23 rfl hF (fun hF => ?_) (fun hF => ?_)
    · refine j_lv [(0, .int v1), (1, .int v2)] [1, 0] rfl ?_
      exact BJ6_numberOfTrailingZeros_0f7a4_34 X E hz v1 v2 h hF
    · refine j_iinc (pc := 26) 0 (v2 + 16) (fun y => [(1, .int y), (0, .int v1)]) X dJ6_numberOfTrailingZeros_0f7a4_26 rfl rfl (by decide) (fun _ => rfl) hF (fun v3 hF => ?_)
      refine j_iload_n (pc := 29) 1 X dJ6_numberOfTrailingZeros_0f7a4_29 rfl ?_
      refine j_bipush (pc := 30) 16 X dJ6_numberOfTrailingZeros_0f7a4_30 rfl ?_
      refine j_iushr (pc := 32) X dJ6_numberOfTrailingZeros_0f7a4_32 ?_
      refine j_istore_n (pc := 33) (fun y => [(0, .int y), (1, .int v3)]) X dJ6_numberOfTrailingZeros_0f7a4_33 (by decide) (fun _ => rfl) hF (fun v4 hF => ?_)
      exact BJ6_numberOfTrailingZeros_0f7a4_34 X E hz v4 v3 h hF
  · refine j_iload_n (pc := 12) 0 X dJ6_numberOfTrailingZeros_0f7a4_12 rfl ?_
    refine j_bipush (pc := 13) 32 X dJ6_numberOfTrailingZeros_0f7a4_13 rfl ?_
    refine j_iand (pc := 15) X dJ6_numberOfTrailingZeros_0f7a4_15 ?_
    exact j_iret (pc := 16) X E dJ6_numberOfTrailingZeros_0f7a4_16 hF
theorem dJ6_bitCount_0f7a4_0 : decode cJ6_bitCount_0f7a4 0 = .ok (.iload_n 0, 1) := by decide +kernel
theorem dJ6_bitCount_0f7a4_1 : decode cJ6_bitCount_0f7a4 1 = .ok (.iload_n 0, 1) := by decide +kernel
theorem dJ6_bitCount_0f7a4_2 : decode cJ6_bitCount_0f7a4 2 = .ok (.iconst 1, 1) := by decide +kernel
theorem dJ6_bitCount_0f7a4_3 : decode cJ6_bitCount_0f7a4 3 = .ok (.iushr, 1) := by decide +kernel
theorem dJ6_bitCount_0f7a4_4 : decode cJ6_bitCount_0f7a4 4 = .ok (.ldc_w 265, 3) := by decide +kernel
theorem dJ6_bitCount_0f7a4_7 : decode cJ6_bitCount_0f7a4 7 = .ok (.iand, 1) := by decide +kernel
theorem dJ6_bitCount_0f7a4_8 : decode cJ6_bitCount_0f7a4 8 = .ok (.isub, 1) := by decide +kernel
theorem dJ6_bitCount_0f7a4_9 : decode cJ6_bitCount_0f7a4 9 = .ok (.istore_n 0, 1) := by decide +kernel
theorem dJ6_bitCount_0f7a4_10 : decode cJ6_bitCount_0f7a4 10 = .ok (.iload_n 0, 1) := by decide +kernel
theorem dJ6_bitCount_0f7a4_11 : decode cJ6_bitCount_0f7a4 11 = .ok (.ldc_w 266, 3) := by decide +kernel
theorem dJ6_bitCount_0f7a4_14 : decode cJ6_bitCount_0f7a4 14 = .ok (.iand, 1) := by decide +kernel
theorem dJ6_bitCount_0f7a4_15 : decode cJ6_bitCount_0f7a4 15 = .ok (.iload_n 0, 1) := by decide +kernel
theorem dJ6_bitCount_0f7a4_16 : decode cJ6_bitCount_0f7a4 16 = .ok (.iconst 2, 1) := by decide +kernel
theorem dJ6_bitCount_0f7a4_17 : decode cJ6_bitCount_0f7a4 17 = .ok (.iushr, 1) := by decide +kernel
theorem dJ6_bitCount_0f7a4_18 : decode cJ6_bitCount_0f7a4 18 = .ok (.ldc_w 266, 3) := by decide +kernel
theorem dJ6_bitCount_0f7a4_21 : decode cJ6_bitCount_0f7a4 21 = .ok (.iand, 1) := by decide +kernel
theorem dJ6_bitCount_0f7a4_22 : decode cJ6_bitCount_0f7a4 22 = .ok (.iadd, 1) := by decide +kernel
theorem dJ6_bitCount_0f7a4_23 : decode cJ6_bitCount_0f7a4 23 = .ok (.istore_n 0, 1) := by decide +kernel
theorem dJ6_bitCount_0f7a4_24 : decode cJ6_bitCount_0f7a4 24 = .ok (.iload_n 0, 1) := by decide +kernel
theorem dJ6_bitCount_0f7a4_25 : decode cJ6_bitCount_0f7a4 25 = .ok (.iload_n 0, 1) := by decide +kernel
theorem dJ6_bitCount_0f7a4_26 : decode cJ6_bitCount_0f7a4 26 = .ok (.iconst 4, 1) := by decide +kernel
theorem dJ6_bitCount_0f7a4_27 : decode cJ6_bitCount_0f7a4 27 = .ok (.iushr, 1) := by decide +kernel
theorem dJ6_bitCount_0f7a4_28 : decode cJ6_bitCount_0f7a4 28 = .ok (.iadd, 1) := by decide +kernel
theorem dJ6_bitCount_0f7a4_29 : decode cJ6_bitCount_0f7a4 29 = .ok (.ldc_w 267, 3) := by decide +kernel
theorem dJ6_bitCount_0f7a4_32 : decode cJ6_bitCount_0f7a4 32 = .ok (.iand, 1) := by decide +kernel
theorem dJ6_bitCount_0f7a4_33 : decode cJ6_bitCount_0f7a4 33 = .ok (.istore_n 0, 1) := by decide +kernel
theorem dJ6_bitCount_0f7a4_34 : decode cJ6_bitCount_0f7a4 34 = .ok (.iload_n 0, 1) := by decide +kernel
theorem dJ6_bitCount_0f7a4_35 : decode cJ6_bitCount_0f7a4 35 = .ok (.iload_n 0, 1) := by decide +kernel
theorem dJ6_bitCount_0f7a4_36 : decode cJ6_bitCount_0f7a4 36 = .ok (.bipush 8, 2) := by decide +kernel
theorem dJ6_bitCount_0f7a4_38 : decode cJ6_bitCount_0f7a4 38 = .ok (.iushr, 1) := by decide +kernel
theorem dJ6_bitCount_0f7a4_39 : decode cJ6_bitCount_0f7a4 39 = .ok (.iadd, 1) := by decide +kernel
theorem dJ6_bitCount_0f7a4_40 : decode cJ6_bitCount_0f7a4 40 = .ok (.istore_n 0, 1) := by decide +kernel
theorem dJ6_bitCount_0f7a4_41 : decode cJ6_bitCount_0f7a4 41 = .ok (.iload_n 0, 1) := by decide +kernel
theorem dJ6_bitCount_0f7a4_42 : decode cJ6_bitCount_0f7a4 42 = .ok (.iload_n 0, 1) := by decide +kernel
theorem dJ6_bitCount_0f7a4_43 : decode cJ6_bitCount_0f7a4 43 = .ok (.bipush 16, 2) := by decide +kernel
theorem dJ6_bitCount_0f7a4_45 : decode cJ6_bitCount_0f7a4 45 = .ok (.iushr, 1) := by decide +kernel
theorem dJ6_bitCount_0f7a4_46 : decode cJ6_bitCount_0f7a4 46 = .ok (.iadd, 1) := by decide +kernel
theorem dJ6_bitCount_0f7a4_47 : decode cJ6_bitCount_0f7a4 47 = .ok (.istore_n 0, 1) := by decide +kernel
theorem dJ6_bitCount_0f7a4_48 : decode cJ6_bitCount_0f7a4 48 = .ok (.iload_n 0, 1) := by decide +kernel
theorem dJ6_bitCount_0f7a4_49 : decode cJ6_bitCount_0f7a4 49 = .ok (.bipush 63, 2) := by decide +kernel
theorem dJ6_bitCount_0f7a4_51 : decode cJ6_bitCount_0f7a4 51 = .ok (.iand, 1) := by decide +kernel
theorem dJ6_bitCount_0f7a4_52 : decode cJ6_bitCount_0f7a4 52 = .ok (.ireturn, 1) := by decide +kernel
def fJ6_bitCount_0f7a4 (a1 : Int32) (h : Hp) : Option (Int32 × Hp) := lt (a1 - ((ushr a1 1) &&& 1431655765)) (fun v1 => lt ((v1 &&& 858993459) + ((ushr v1 2) &&& 858993459)) (fun v2 => lt ((v2 + (ushr v2 4)) &&& 252645135) (fun v3 => lt (v3 + (ushr v3 8)) (fun v4 => lt (v4 + (ushr v4 16)) (fun v5 => some ((v5 &&& 63), h))))))
set_option maxRecDepth 20000 in
theorem tJ6_bitCount_0f7a4 (Z : ZT) (a1 : Int32) (hz : True) (h : Hp) (r : Int32) (hr : Hp) (hF : fJ6_bitCount_0f7a4 a1 h = some (r, hr)) : MC Z yJ6_bitCount_0f7a4 cJ6_bitCount_0f7a4 1 (some .int) 0 [.int a1] h (some (.int r)) hr := by
  unfold fJ6_bitCount_0f7a4 at hF
  refine mc_start (by decide) (Nat.le_of_ble_eq_true rfl) (fun G X E => ?_)
  refine j_iload_n (pc := 0) 0 X dJ6_bitCount_0f7a4_0 rfl ?_
  refine j_iload_n (pc := 1) 0 X dJ6_bitCount_0f7a4_1 rfl ?_
  refine j_iconst (pc := 2) 1 X dJ6_bitCount_0f7a4_2 rfl ?_
  refine j_iushr (pc := 3) X dJ6_bitCount_0f7a4_3 ?_
  refine j_ldc_w (pc := 4) X dJ6_bitCount_0f7a4_4 k_J6_265 ?_
  refine j_iand (pc := 7) X dJ6_bitCount_0f7a4_7 ?_
  refine j_isub (pc := 8) X dJ6_bitCount_0f7a4_8 ?_
  refine j_istore_n (pc := 9) (fun y => [(0, .int y)]) X dJ6_bitCount_0f7a4_9 (by decide) (fun _ => rfl) hF (fun v1 hF => ?_)
  refine j_iload_n (pc := 10) 0 X dJ6_bitCount_0f7a4_10 rfl ?_
  refine j_ldc_w (pc := 11) X dJ6_bitCount_0f7a4_11 k_J6_266 ?_
  refine j_iand (pc := 14) X dJ6_bitCount_0f7a4_14 ?_
  refine j_iload_n (pc := 15) 0 X dJ6_bitCount_0f7a4_15 rfl ?_
  refine j_iconst (pc := 16) 2 X dJ6_bitCount_0f7a4_16 rfl ?_
  refine j_iushr (pc := 17) X dJ6_bitCount_0f7a4_17 ?_
  refine j_ldc_w (pc := 18) X dJ6_bitCount_0f7a4_18 k_J6_266 ?_
  refine j_iand (pc := 21) X dJ6_bitCount_0f7a4_21 ?_
  refine j_iadd (pc := 22) X dJ6_bitCount_0f7a4_22 ?_
  refine j_istore_n (pc := 23) (fun y => [(0, .int y)]) X dJ6_bitCount_0f7a4_23 (by decide) (fun _ => rfl) hF (fun v2 hF => ?_)
  refine j_iload_n (pc := 24) 0 X dJ6_bitCount_0f7a4_24 rfl ?_
  refine j_iload_n (pc := 25) 0 X dJ6_bitCount_0f7a4_25 rfl ?_
  refine j_iconst (pc := 26) 4 X dJ6_bitCount_0f7a4_26 rfl ?_
  refine j_iushr (pc := 27) X dJ6_bitCount_0f7a4_27 ?_
  refine j_iadd (pc := 28) X dJ6_bitCount_0f7a4_28 ?_
  refine j_ldc_w (pc := 29) X dJ6_bitCount_0f7a4_29 k_J6_267 ?_
  refine j_iand (pc := 32) X dJ6_bitCount_0f7a4_32 ?_
  refine j_istore_n (pc := 33) (fun y => [(0, .int y)]) X dJ6_bitCount_0f7a4_33 (by decide) (fun _ => rfl) hF (fun v3 hF => ?_)
  refine j_iload_n (pc := 34) 0 X dJ6_bitCount_0f7a4_34 rfl ?_
  refine j_iload_n (pc := 35) 0 X dJ6_bitCount_0f7a4_35 rfl ?_
  refine j_bipush (pc := 36) 8 X dJ6_bitCount_0f7a4_36 rfl ?_
  refine j_iushr (pc := 38) X dJ6_bitCount_0f7a4_38 ?_
  refine j_iadd (pc := 39) X dJ6_bitCount_0f7a4_39 ?_
  refine j_istore_n (pc := 40) (fun y => [(0, .int y)]) X dJ6_bitCount_0f7a4_40 (by decide) (fun _ => rfl) hF (fun v4 hF => ?_)
  refine j_iload_n (pc := 41) 0 X dJ6_bitCount_0f7a4_41 rfl ?_
  refine j_iload_n (pc := 42) 0 X dJ6_bitCount_0f7a4_42 rfl ?_
  refine j_bipush (pc := 43) 16 X dJ6_bitCount_0f7a4_43 rfl ?_
  refine j_iushr (pc := 45) X dJ6_bitCount_0f7a4_45 ?_
  refine j_iadd (pc := 46) X dJ6_bitCount_0f7a4_46 ?_
  refine j_istore_n (pc := 47) (fun y => [(0, .int y)]) X dJ6_bitCount_0f7a4_47 (by decide) (fun _ => rfl) hF (fun v5 hF => ?_)
  refine j_iload_n (pc := 48) 0 X dJ6_bitCount_0f7a4_48 rfl ?_
  refine j_bipush (pc := 49) 63 X dJ6_bitCount_0f7a4_49 rfl ?_
  refine j_iand (pc := 51) X dJ6_bitCount_0f7a4_51 ?_
  exact j_iret (pc := 52) X E dJ6_bitCount_0f7a4_52 hF
theorem dJ13_numberOfTrailingZeros_95d88_0 : decode cJ13_numberOfTrailingZeros_95d88 0 = .ok (.lload_n 0, 1) := by decide +kernel
theorem dJ13_numberOfTrailingZeros_95d88_1 : decode cJ13_numberOfTrailingZeros_95d88 1 = .ok (.l2i, 1) := by decide +kernel
theorem dJ13_numberOfTrailingZeros_95d88_2 : decode cJ13_numberOfTrailingZeros_95d88 2 = .ok (.istore_n 2, 1) := by decide +kernel
theorem dJ13_numberOfTrailingZeros_95d88_3 : decode cJ13_numberOfTrailingZeros_95d88 3 = .ok (.iload_n 2, 1) := by decide +kernel
theorem dJ13_numberOfTrailingZeros_95d88_4 : decode cJ13_numberOfTrailingZeros_95d88 4 = .ok (.ifCond .ne 17, 3) := by decide +kernel
theorem dJ13_numberOfTrailingZeros_95d88_7 : decode cJ13_numberOfTrailingZeros_95d88 7 = .ok (.bipush 32, 2) := by decide +kernel
theorem dJ13_numberOfTrailingZeros_95d88_9 : decode cJ13_numberOfTrailingZeros_95d88 9 = .ok (.lload_n 0, 1) := by decide +kernel
theorem dJ13_numberOfTrailingZeros_95d88_10 : decode cJ13_numberOfTrailingZeros_95d88 10 = .ok (.bipush 32, 2) := by decide +kernel
theorem dJ13_numberOfTrailingZeros_95d88_12 : decode cJ13_numberOfTrailingZeros_95d88 12 = .ok (.lushr, 1) := by decide +kernel
theorem dJ13_numberOfTrailingZeros_95d88_13 : decode cJ13_numberOfTrailingZeros_95d88 13 = .ok (.l2i, 1) := by decide +kernel
theorem dJ13_numberOfTrailingZeros_95d88_14 : decode cJ13_numberOfTrailingZeros_95d88 14 = .ok (.invokestatic 311, 3) := by decide +kernel
theorem dJ13_numberOfTrailingZeros_95d88_17 : decode cJ13_numberOfTrailingZeros_95d88 17 = .ok (.iadd, 1) := by decide +kernel
theorem dJ13_numberOfTrailingZeros_95d88_18 : decode cJ13_numberOfTrailingZeros_95d88 18 = .ok (.goto 7, 3) := by decide +kernel
theorem dJ13_numberOfTrailingZeros_95d88_21 : decode cJ13_numberOfTrailingZeros_95d88 21 = .ok (.iload_n 2, 1) := by decide +kernel
theorem dJ13_numberOfTrailingZeros_95d88_22 : decode cJ13_numberOfTrailingZeros_95d88 22 = .ok (.invokestatic 311, 3) := by decide +kernel
theorem dJ13_numberOfTrailingZeros_95d88_25 : decode cJ13_numberOfTrailingZeros_95d88 25 = .ok (.ireturn, 1) := by decide +kernel
def fJ13_numberOfTrailingZeros_95d88 (a1 : Int64) (h : Hp) : Option (Int32 × Hp) := lt a1.toInt32 (fun v1 => (if v1 = 0 then bi (fJ6_numberOfTrailingZeros_0f7a4 ((ushrL a1 32).toInt32) h) (fun w5 h4 => some (((32 : Int32) + w5), h4)) else bi (fJ6_numberOfTrailingZeros_0f7a4 v1 h) (fun w3 h2 => some (w3, h2))))
set_option maxRecDepth 20000 in
theorem tJ13_numberOfTrailingZeros_95d88 (Z : ZT) (a1 : Int64) (hz : True) (h : Hp) (r : Int32) (hr : Hp) (hF : fJ13_numberOfTrailingZeros_95d88 a1 h = some (r, hr)) : MC Z yJ13_numberOfTrailingZeros_95d88 cJ13_numberOfTrailingZeros_95d88 3 (some .int) 1 [.long a1] h (some (.int r)) hr := by
  unfold fJ13_numberOfTrailingZeros_95d88 at hF
  refine mc_start (by decide) (Nat.le_of_ble_eq_true rfl) (fun G X E => ?_)
  refine j_lload_n (pc := 0) 0 X dJ13_numberOfTrailingZeros_95d88_0 rfl ?_
  refine j_l2i (pc := 1) X dJ13_numberOfTrailingZeros_95d88_1 ?_
  refine j_istore_n (pc := 2) (fun y => [(2, .int y), (0, .long a1)]) X dJ13_numberOfTrailingZeros_95d88_2 (by decide) (fun _ => rfl) hF (fun v1 hF => ?_)
  refine j_iload_n (pc := 3) 0 X dJ13_numberOfTrailingZeros_95d88_3 rfl ?_
  refine j_if_ne (pc := 4) 21 X dJ13_numberOfTrailingZeros_95d88_4 rfl hF (fun hF => ?_) (fun hF => ?_)
  · refine j_iload_n (pc := 21) 0 X dJ13_numberOfTrailingZeros_95d88_21 rfl ?_
    refine j_cSi (pc := 22) (As := [.int v1]) (rest := []) X dJ13_numberOfTrailingZeros_95d88_22 ml_J13_311 ck_J6_numberOfTrailingZeros_0f7a4 sk_J6_numberOfTrailingZeros_0f7a4 (Nat.le_of_ble_eq_true rfl) rfl (Nat.le_of_ble_eq_true rfl) rfl hF (tJ6_numberOfTrailingZeros_0f7a4 Z v1 trivial h) (fun w3 h2 hF => ?_)
    exact j_iret (pc := 25) X E dJ13_numberOfTrailingZeros_95d88_25 hF
  · refine j_bipush (pc := 7) 32 X dJ13_numberOfTrailingZeros_95d88_7 rfl ?_
    refine j_lload_n (pc := 9) 1 X dJ13_numberOfTrailingZeros_95d88_9 rfl ?_
    refine j_bipush (pc := 10) 32 X dJ13_numberOfTrailingZeros_95d88_10 rfl ?_
    refine j_lushr (pc := 12) X dJ13_numberOfTrailingZeros_95d88_12 ?_
    refine j_l2i (pc := 13) X dJ13_numberOfTrailingZeros_95d88_13 ?_
    refine j_cSi (pc := 14) (As := [.int ((ushrL a1 32).toInt32)]) (rest := [.int 32]) X dJ13_numberOfTrailingZeros_95d88_14 ml_J13_311 ck_J6_numberOfTrailingZeros_0f7a4 sk_J6_numberOfTrailingZeros_0f7a4 (Nat.le_of_ble_eq_true rfl) rfl (Nat.le_of_ble_eq_true rfl) rfl hF (tJ6_numberOfTrailingZeros_0f7a4 Z ((ushrL a1 32).toInt32) trivial h) (fun w5 h4 hF => ?_)
    refine j_iadd (pc := 17) X dJ13_numberOfTrailingZeros_95d88_17 ?_
    refine j_goto (pc := 18) 25 X dJ13_numberOfTrailingZeros_95d88_18 rfl ?_
    exact j_iret (pc := 25) X E dJ13_numberOfTrailingZeros_95d88_25 hF
theorem dJ7_fill_d0a16_0 : decode cJ7_fill_d0a16 0 = .ok (.iconst 0, 1) := by decide +kernel
theorem dJ7_fill_d0a16_1 : decode cJ7_fill_d0a16 1 = .ok (.istore_n 3, 1) := by decide +kernel
theorem dJ7_fill_d0a16_2 : decode cJ7_fill_d0a16 2 = .ok (.aload_n 0, 1) := by decide +kernel
theorem dJ7_fill_d0a16_3 : decode cJ7_fill_d0a16 3 = .ok (.arraylength, 1) := by decide +kernel
theorem dJ7_fill_d0a16_4 : decode cJ7_fill_d0a16 4 = .ok (.istore 4, 2) := by decide +kernel
theorem dJ7_fill_d0a16_6 : decode cJ7_fill_d0a16 6 = .ok (.iload_n 3, 1) := by decide +kernel
theorem dJ7_fill_d0a16_7 : decode cJ7_fill_d0a16 7 = .ok (.iload 4, 2) := by decide +kernel
theorem dJ7_fill_d0a16_9 : decode cJ7_fill_d0a16 9 = .ok (.if_icmp .ge 13, 3) := by decide +kernel
theorem dJ7_fill_d0a16_12 : decode cJ7_fill_d0a16 12 = .ok (.aload_n 0, 1) := by decide +kernel
theorem dJ7_fill_d0a16_13 : decode cJ7_fill_d0a16 13 = .ok (.iload_n 3, 1) := by decide +kernel
theorem dJ7_fill_d0a16_14 : decode cJ7_fill_d0a16 14 = .ok (.lload_n 1, 1) := by decide +kernel
theorem dJ7_fill_d0a16_15 : decode cJ7_fill_d0a16 15 = .ok (.lastore, 1) := by decide +kernel
theorem dJ7_fill_d0a16_16 : decode cJ7_fill_d0a16 16 = .ok (.iinc 3 1, 3) := by decide +kernel
theorem dJ7_fill_d0a16_19 : decode cJ7_fill_d0a16 19 = .ok (.goto (-13), 3) := by decide +kernel
theorem dJ7_fill_d0a16_22 : decode cJ7_fill_d0a16 22 = .ok (.return_, 1) := by decide +kernel
def bJ7_fill_d0a16_6 (u1 : Nat) (n1 : Nat)  (r6 : Int64 → Int32 → Int32 → Hp → Option (Hp)) (x1 : Int64) (x3 : Int32) (x4 : Int32) (h : Hp) : Option (Hp) := (if x4 ≤ x3 then some h else ck (inb x3 n1) (lt (wL h u1 (ix x3) x1) (fun h1 => lt (x3 + 1) (fun v2 => r6 x1 v2 x4 h1))))
def lJ7_fill_d0a16_6 (u1 : Nat) (n1 : Nat)  : Nat → Int64 → Int32 → Int32 → Hp → Option (Hp)
  | 0 => fun _ _ _ _ => none
  | n + 1 => bJ7_fill_d0a16_6 u1 n1  (lJ7_fill_d0a16_6 u1 n1  n)
set_option maxRecDepth 20000 in
theorem BJ7_fill_d0a16_6 {Z : ZT} {G : GT} {hr : Hp} (X : CX Z G cJ7_fill_d0a16 RJ7 5 0) (E : RX Z G none (none) hr) (u1 : Nat) (n1 : Nat) (hu1 : (u1, .inr (.inl (1, n1))) ∈ Z.2.2.2.2) (hz : True)  (r6 : Int64 → Int32 → Int32 → Hp → Option (Hp)) (hr6 : ∀ (x1 : Int64) (x3 : Int32) (x4 : Int32) (h : Hp), r6 x1 x3 x4 h = some hr → J Z G 5 h 6 [(0, .ref (Z.2.1 u1)), (1, .long x1), (3, .int x3), (4, .int x4)] []) (x1 : Int64) (x3 : Int32) (x4 : Int32) (h : Hp) (hF : bJ7_fill_d0a16_6 u1 n1  r6 x1 x3 x4 h = some hr) : J Z G 5 h 6 [(0, .ref (Z.2.1 u1)), (1, .long x1), (3, .int x3), (4, .int x4)] [] := by
  unfold bJ7_fill_d0a16_6 at hF
  refine j_iload_n (pc := 6) 2 X dJ7_fill_d0a16_6 rfl ?_
  refine j_iload (pc := 7) 3 X dJ7_fill_d0a16_7 rfl ?_
  refine j_icmp_ge (pc := 9) 22 X dJ7_fill_d0a16_9 rfl hF (fun hF => ?_) (fun hF => ?_)
  · exact j_vret (pc := 22) X E dJ7_fill_d0a16_22 hF
  · refine j_aload_n (pc := 12) 0 X dJ7_fill_d0a16_12 rfl ?_
    refine j_iload_n (pc := 13) 2 X dJ7_fill_d0a16_13 rfl ?_
    refine j_lload_n (pc := 14) 1 X dJ7_fill_d0a16_14 rfl ?_
    refine j_last (pc := 15) X dJ7_fill_d0a16_15 hu1 hF (fun h1 hF => ?_)
    refine j_iinc (pc := 16) 2 (x3 + 1) (fun y => [(3, .int y), (0, .ref (Z.2.1 u1)), (1, .long x1), (4, .int x4)]) X dJ7_fill_d0a16_16 rfl rfl (by decide) (fun _ => rfl) hF (fun v2 hF => ?_)
    refine j_goto (pc := 19) 6 X dJ7_fill_d0a16_19 rfl ?_
    refine j_lv [(0, .ref (Z.2.1 u1)), (1, .long x1), (3, .int v2), (4, .int x4)] [1, 2, 0, 3] rfl ?_
    exact hr6 x1 v2 x4 h1 hF
theorem LJ7_fill_d0a16_6 {Z : ZT} {G : GT} {hr : Hp} (X : CX Z G cJ7_fill_d0a16 RJ7 5 0) (E : RX Z G none (none) hr) (u1 : Nat) (n1 : Nat) (hu1 : (u1, .inr (.inl (1, n1))) ∈ Z.2.2.2.2) (hz : True)  : ∀ (n : Nat) (x1 : Int64) (x3 : Int32) (x4 : Int32) (h : Hp), lJ7_fill_d0a16_6 u1 n1  n x1 x3 x4 h = some hr → J Z G 5 h 6 [(0, .ref (Z.2.1 u1)), (1, .long x1), (3, .int x3), (4, .int x4)] [] := by
  intro n
  induction n with
  | zero => intro x1 x3 x4 h hF; cases hF
  | succ n ih => intro x1 x3 x4 h hF; exact BJ7_fill_d0a16_6 X E u1 n1 hu1 hz  (lJ7_fill_d0a16_6 u1 n1  n) ih x1 x3 x4 h hF
def fJ7_fill_d0a16 (u1 : Nat) (n1 : Nat) (a2 : Int64) (h : Hp) : Option (Hp) := lt 0 (fun v1 => lt (Int32.ofNat n1) (fun v2 => lJ7_fill_d0a16_6 u1 n1 FU a2 v1 v2 h))
set_option maxRecDepth 20000 in
theorem tJ7_fill_d0a16 (Z : ZT) (u1 : Nat) (n1 : Nat) (hu1 : (u1, .inr (.inl (1, n1))) ∈ Z.2.2.2.2) (a2 : Int64) (hz : True) (h : Hp) (hr : Hp) (hF : fJ7_fill_d0a16 u1 n1 a2 h = some hr) : MC Z yJ7_fill_d0a16 cJ7_fill_d0a16 5 none 0 [.ref (Z.2.1 u1), .long a2] h (none) hr := by
  unfold fJ7_fill_d0a16 at hF
  refine mc_start (by decide) (Nat.le_of_ble_eq_true rfl) (fun G X E => ?_)
  refine j_iconst (pc := 0) 0 X dJ7_fill_d0a16_0 rfl ?_
  refine j_istore_n (pc := 1) (fun y => [(3, .int y), (0, .ref (Z.2.1 u1)), (1, .long a2)]) X dJ7_fill_d0a16_1 (by decide) (fun _ => rfl) hF (fun v1 hF => ?_)
  refine j_aload_n (pc := 2) 1 X dJ7_fill_d0a16_2 rfl ?_
  refine j_alen (pc := 3) (v := (Int32.ofNat n1)) X dJ7_fill_d0a16_3 hu1 (by decide) rfl ?_
  refine j_istore (pc := 4) (fun y => [(4, .int y), (3, .int v1), (0, .ref (Z.2.1 u1)), (1, .long a2)]) X dJ7_fill_d0a16_4 (by decide) (fun _ => rfl) hF (fun v2 hF => ?_)
  refine j_lv [(0, .ref (Z.2.1 u1)), (1, .long a2), (3, .int v1), (4, .int v2)] [2, 3, 1, 0] rfl ?_
  exact LJ7_fill_d0a16_6 X E u1 n1 hu1 hz FU a2 v1 v2 h hF
theorem dJ7_fill_53178_0 : decode cJ7_fill_53178 0 = .ok (.iconst 0, 1) := by decide +kernel
theorem dJ7_fill_53178_1 : decode cJ7_fill_53178 1 = .ok (.istore_n 2, 1) := by decide +kernel
theorem dJ7_fill_53178_2 : decode cJ7_fill_53178 2 = .ok (.aload_n 0, 1) := by decide +kernel
theorem dJ7_fill_53178_3 : decode cJ7_fill_53178 3 = .ok (.arraylength, 1) := by decide +kernel
theorem dJ7_fill_53178_4 : decode cJ7_fill_53178 4 = .ok (.istore_n 3, 1) := by decide +kernel
theorem dJ7_fill_53178_5 : decode cJ7_fill_53178 5 = .ok (.iload_n 2, 1) := by decide +kernel
theorem dJ7_fill_53178_6 : decode cJ7_fill_53178 6 = .ok (.iload_n 3, 1) := by decide +kernel
theorem dJ7_fill_53178_7 : decode cJ7_fill_53178 7 = .ok (.if_icmp .ge 13, 3) := by decide +kernel
theorem dJ7_fill_53178_10 : decode cJ7_fill_53178 10 = .ok (.aload_n 0, 1) := by decide +kernel
theorem dJ7_fill_53178_11 : decode cJ7_fill_53178 11 = .ok (.iload_n 2, 1) := by decide +kernel
theorem dJ7_fill_53178_12 : decode cJ7_fill_53178 12 = .ok (.iload_n 1, 1) := by decide +kernel
theorem dJ7_fill_53178_13 : decode cJ7_fill_53178 13 = .ok (.iastore, 1) := by decide +kernel
theorem dJ7_fill_53178_14 : decode cJ7_fill_53178 14 = .ok (.iinc 2 1, 3) := by decide +kernel
theorem dJ7_fill_53178_17 : decode cJ7_fill_53178 17 = .ok (.goto (-12), 3) := by decide +kernel
theorem dJ7_fill_53178_20 : decode cJ7_fill_53178 20 = .ok (.return_, 1) := by decide +kernel
def bJ7_fill_53178_5 (u1 : Nat) (n1 : Nat)  (r5 : Int32 → Int32 → Int32 → Hp → Option (Hp)) (x1 : Int32) (x2 : Int32) (x3 : Int32) (h : Hp) : Option (Hp) := (if x3 ≤ x2 then some h else ck (inb x2 n1) (lt (wI h u1 (ix x2) x1) (fun h1 => lt (x2 + 1) (fun v2 => r5 x1 v2 x3 h1))))
def lJ7_fill_53178_5 (u1 : Nat) (n1 : Nat)  : Nat → Int32 → Int32 → Int32 → Hp → Option (Hp)
  | 0 => fun _ _ _ _ => none
  | n + 1 => bJ7_fill_53178_5 u1 n1  (lJ7_fill_53178_5 u1 n1  n)
set_option maxRecDepth 20000 in
theorem BJ7_fill_53178_5 {Z : ZT} {G : GT} {hr : Hp} (X : CX Z G cJ7_fill_53178 RJ7 4 0) (E : RX Z G none (none) hr) (u1 : Nat) (n1 : Nat) (hu1 : (u1, .inr (.inl (0, n1))) ∈ Z.2.2.2.2) (hz : True)  (r5 : Int32 → Int32 → Int32 → Hp → Option (Hp)) (hr5 : ∀ (x1 : Int32) (x2 : Int32) (x3 : Int32) (h : Hp), r5 x1 x2 x3 h = some hr → J Z G 4 h 5 [(0, .ref (Z.2.1 u1)), (1, .int x1), (2, .int x2), (3, .int x3)] []) (x1 : Int32) (x2 : Int32) (x3 : Int32) (h : Hp) (hF : bJ7_fill_53178_5 u1 n1  r5 x1 x2 x3 h = some hr) : J Z G 4 h 5 [(0, .ref (Z.2.1 u1)), (1, .int x1), (2, .int x2), (3, .int x3)] [] := by
  unfold bJ7_fill_53178_5 at hF
  refine j_iload_n (pc := 5) 2 X dJ7_fill_53178_5 rfl ?_
  refine j_iload_n (pc := 6) 3 X dJ7_fill_53178_6 rfl ?_
  refine j_icmp_ge (pc := 7) 20 X dJ7_fill_53178_7 rfl hF (fun hF => ?_) (fun hF => ?_)
  · exact j_vret (pc := 20) X E dJ7_fill_53178_20 hF
  · refine j_aload_n (pc := 10) 0 X dJ7_fill_53178_10 rfl ?_
    refine j_iload_n (pc := 11) 2 X dJ7_fill_53178_11 rfl ?_
    refine j_iload_n (pc := 12) 1 X dJ7_fill_53178_12 rfl ?_
    refine j_iast (pc := 13) X dJ7_fill_53178_13 hu1 hF (fun h1 hF => ?_)
    refine j_iinc (pc := 14) 2 (x2 + 1) (fun y => [(2, .int y), (0, .ref (Z.2.1 u1)), (1, .int x1), (3, .int x3)]) X dJ7_fill_53178_14 rfl rfl (by decide) (fun _ => rfl) hF (fun v2 hF => ?_)
    refine j_goto (pc := 17) 5 X dJ7_fill_53178_17 rfl ?_
    refine j_lv [(0, .ref (Z.2.1 u1)), (1, .int x1), (2, .int v2), (3, .int x3)] [1, 2, 0, 3] rfl ?_
    exact hr5 x1 v2 x3 h1 hF
theorem LJ7_fill_53178_5 {Z : ZT} {G : GT} {hr : Hp} (X : CX Z G cJ7_fill_53178 RJ7 4 0) (E : RX Z G none (none) hr) (u1 : Nat) (n1 : Nat) (hu1 : (u1, .inr (.inl (0, n1))) ∈ Z.2.2.2.2) (hz : True)  : ∀ (n : Nat) (x1 : Int32) (x2 : Int32) (x3 : Int32) (h : Hp), lJ7_fill_53178_5 u1 n1  n x1 x2 x3 h = some hr → J Z G 4 h 5 [(0, .ref (Z.2.1 u1)), (1, .int x1), (2, .int x2), (3, .int x3)] [] := by
  intro n
  induction n with
  | zero => intro x1 x2 x3 h hF; cases hF
  | succ n ih => intro x1 x2 x3 h hF; exact BJ7_fill_53178_5 X E u1 n1 hu1 hz  (lJ7_fill_53178_5 u1 n1  n) ih x1 x2 x3 h hF
def fJ7_fill_53178 (u1 : Nat) (n1 : Nat) (a2 : Int32) (h : Hp) : Option (Hp) := lt 0 (fun v1 => lt (Int32.ofNat n1) (fun v2 => lJ7_fill_53178_5 u1 n1 FU a2 v1 v2 h))
set_option maxRecDepth 20000 in
theorem tJ7_fill_53178 (Z : ZT) (u1 : Nat) (n1 : Nat) (hu1 : (u1, .inr (.inl (0, n1))) ∈ Z.2.2.2.2) (a2 : Int32) (hz : True) (h : Hp) (hr : Hp) (hF : fJ7_fill_53178 u1 n1 a2 h = some hr) : MC Z yJ7_fill_53178 cJ7_fill_53178 4 none 0 [.ref (Z.2.1 u1), .int a2] h (none) hr := by
  unfold fJ7_fill_53178 at hF
  refine mc_start (by decide) (Nat.le_of_ble_eq_true rfl) (fun G X E => ?_)
  refine j_iconst (pc := 0) 0 X dJ7_fill_53178_0 rfl ?_
  refine j_istore_n (pc := 1) (fun y => [(2, .int y), (0, .ref (Z.2.1 u1)), (1, .int a2)]) X dJ7_fill_53178_1 (by decide) (fun _ => rfl) hF (fun v1 hF => ?_)
  refine j_aload_n (pc := 2) 1 X dJ7_fill_53178_2 rfl ?_
  refine j_alen (pc := 3) (v := (Int32.ofNat n1)) X dJ7_fill_53178_3 hu1 (by decide) rfl ?_
  refine j_istore_n (pc := 4) (fun y => [(3, .int y), (2, .int v1), (0, .ref (Z.2.1 u1)), (1, .int a2)]) X dJ7_fill_53178_4 (by decide) (fun _ => rfl) hF (fun v2 hF => ?_)
  refine j_lv [(0, .ref (Z.2.1 u1)), (1, .int a2), (2, .int v1), (3, .int v2)] [2, 3, 1, 0] rfl ?_
  exact LJ7_fill_53178_5 X E u1 n1 hu1 hz FU a2 v1 v2 h hF
theorem dX0_clear_0 : decode cX0_clear 0 = .ok (.aload_n 0, 1) := by decide +kernel
theorem dX0_clear_1 : decode cX0_clear 1 = .ok (.iconst 0, 1) := by decide +kernel
theorem dX0_clear_2 : decode cX0_clear 2 = .ok (.putfield 37, 3) := by decide +kernel
theorem dX0_clear_5 : decode cX0_clear 5 = .ok (.aload_n 0, 1) := by decide +kernel
theorem dX0_clear_6 : decode cX0_clear 6 = .ok (.iconst 0, 1) := by decide +kernel
theorem dX0_clear_7 : decode cX0_clear 7 = .ok (.putfield 41, 3) := by decide +kernel
theorem dX0_clear_10 : decode cX0_clear 10 = .ok (.aload_n 0, 1) := by decide +kernel
theorem dX0_clear_11 : decode cX0_clear 11 = .ok (.iconst 0, 1) := by decide +kernel
theorem dX0_clear_12 : decode cX0_clear 12 = .ok (.putfield 44, 3) := by decide +kernel
theorem dX0_clear_15 : decode cX0_clear 15 = .ok (.aload_n 0, 1) := by decide +kernel
theorem dX0_clear_16 : decode cX0_clear 16 = .ok (.iconst 0, 1) := by decide +kernel
theorem dX0_clear_17 : decode cX0_clear 17 = .ok (.putfield 47, 3) := by decide +kernel
theorem dX0_clear_20 : decode cX0_clear 20 = .ok (.aload_n 0, 1) := by decide +kernel
theorem dX0_clear_21 : decode cX0_clear 21 = .ok (.bipush 10, 2) := by decide +kernel
theorem dX0_clear_23 : decode cX0_clear 23 = .ok (.putfield 50, 3) := by decide +kernel
theorem dX0_clear_26 : decode cX0_clear 26 = .ok (.aload_n 0, 1) := by decide +kernel
theorem dX0_clear_27 : decode cX0_clear 27 = .ok (.iconst 0, 1) := by decide +kernel
theorem dX0_clear_28 : decode cX0_clear 28 = .ok (.putfield 53, 3) := by decide +kernel
theorem dX0_clear_31 : decode cX0_clear 31 = .ok (.aload_n 0, 1) := by decide +kernel
theorem dX0_clear_32 : decode cX0_clear 32 = .ok (.getfield 15, 3) := by decide +kernel
theorem dX0_clear_35 : decode cX0_clear 35 = .ok (.iconst 0, 1) := by decide +kernel
theorem dX0_clear_36 : decode cX0_clear 36 = .ok (.invokestatic 56, 3) := by decide +kernel
theorem dX0_clear_39 : decode cX0_clear 39 = .ok (.aload_n 0, 1) := by decide +kernel
theorem dX0_clear_40 : decode cX0_clear 40 = .ok (.getfield 27, 3) := by decide +kernel
theorem dX0_clear_43 : decode cX0_clear 43 = .ok (.iconst (-1), 1) := by decide +kernel
theorem dX0_clear_44 : decode cX0_clear 44 = .ok (.invokestatic 56, 3) := by decide +kernel
theorem dX0_clear_47 : decode cX0_clear 47 = .ok (.aload_n 0, 1) := by decide +kernel
theorem dX0_clear_48 : decode cX0_clear 48 = .ok (.getfield 30, 3) := by decide +kernel
theorem dX0_clear_51 : decode cX0_clear 51 = .ok (.iconst (-1), 1) := by decide +kernel
theorem dX0_clear_52 : decode cX0_clear 52 = .ok (.invokestatic 56, 3) := by decide +kernel
theorem dX0_clear_55 : decode cX0_clear 55 = .ok (.return_, 1) := by decide +kernel
def fX0_clear (o : Nat) (h : Hp) : Option (Hp) := lt (wI h o 6 0) (fun h1 => lt (wI h1 o 7 0) (fun h2 => lt (wI h2 o 8 0) (fun h3 => lt (wI h3 o 9 0) (fun h4 => lt (wI h4 o 10 10) (fun h5 => lt (wI h5 o 11 0) (fun h6 => bv (fJ7_fill_53178 (o + 2) 4 0 h6) (fun h7 => bv (fJ7_fill_53178 (o + 5) 3 (-1) h7) (fun h8 => bv (fJ7_fill_53178 (o + 6) 3 (-1) h8) (fun h9 => some h9)))))))))
set_option maxRecDepth 20000 in
theorem tX0_clear (Z : ZT) (o : Nat) (hz : HB o Z) (h : Hp) (hr : Hp) (hF : fX0_clear o h = some hr) : MC Z yX0_clear cX0_clear 1 none 1 [.ref (Z.2.1 o)] h (none) hr := by
  unfold fX0_clear at hF
  refine mc_start (by decide) (Nat.le_of_ble_eq_true rfl) (fun G X E => ?_)
  refine j_aload_n (pc := 0) 0 X dX0_clear_0 rfl ?_
  refine j_iconst (pc := 1) 0 X dX0_clear_1 rfl ?_
  refine j_puti (pc := 2) X dX0_clear_2 (hz _ (bS_0 o)) fp_X0_37 rfl hF (fun h1 hF => ?_)
  refine j_aload_n (pc := 5) 0 X dX0_clear_5 rfl ?_
  refine j_iconst (pc := 6) 0 X dX0_clear_6 rfl ?_
  refine j_puti (pc := 7) X dX0_clear_7 (hz _ (bS_0 o)) fp_X0_41 rfl hF (fun h2 hF => ?_)
  refine j_aload_n (pc := 10) 0 X dX0_clear_10 rfl ?_
  refine j_iconst (pc := 11) 0 X dX0_clear_11 rfl ?_
  refine j_puti (pc := 12) X dX0_clear_12 (hz _ (bS_0 o)) fp_X0_44 rfl hF (fun h3 hF => ?_)
  refine j_aload_n (pc := 15) 0 X dX0_clear_15 rfl ?_
  refine j_iconst (pc := 16) 0 X dX0_clear_16 rfl ?_
  refine j_puti (pc := 17) X dX0_clear_17 (hz _ (bS_0 o)) fp_X0_47 rfl hF (fun h4 hF => ?_)
  refine j_aload_n (pc := 20) 0 X dX0_clear_20 rfl ?_
  refine j_bipush (pc := 21) 10 X dX0_clear_21 rfl ?_
  refine j_puti (pc := 23) X dX0_clear_23 (hz _ (bS_0 o)) fp_X0_50 rfl hF (fun h5 hF => ?_)
  refine j_aload_n (pc := 26) 0 X dX0_clear_26 rfl ?_
  refine j_iconst (pc := 27) 0 X dX0_clear_27 rfl ?_
  refine j_puti (pc := 28) X dX0_clear_28 (hz _ (bS_0 o)) fp_X0_53 rfl hF (fun h6 hF => ?_)
  refine j_aload_n (pc := 31) 0 X dX0_clear_31 rfl ?_
  refine j_getr (pc := 32) X dX0_clear_32 (hz _ (bS_0 o)) fl_X0_15 rfl ?_
  refine j_iconst (pc := 35) 0 X dX0_clear_35 rfl ?_
  refine j_cSv (pc := 36) (As := [.ref (Z.2.1 (o + 2)), .int 0]) (rest := []) X dX0_clear_36 ml_X0_56 ck_J7_fill_53178 sk_J7_fill_53178 (Nat.le_of_ble_eq_true rfl) rfl (Nat.le_of_ble_eq_true rfl) rfl hF (tJ7_fill_53178 Z (o + 2) 4 (hz _ (bS_2 o)) 0 trivial h6) (fun h7 hF => ?_)
  refine j_aload_n (pc := 39) 0 X dX0_clear_39 rfl ?_
  refine j_getr (pc := 40) X dX0_clear_40 (hz _ (bS_0 o)) fl_X0_27 rfl ?_
  refine j_iconst (pc := 43) (-1) X dX0_clear_43 rfl ?_
  refine j_cSv (pc := 44) (As := [.ref (Z.2.1 (o + 5)), .int (-1)]) (rest := []) X dX0_clear_44 ml_X0_56 ck_J7_fill_53178 sk_J7_fill_53178 (Nat.le_of_ble_eq_true rfl) rfl (Nat.le_of_ble_eq_true rfl) rfl hF (tJ7_fill_53178 Z (o + 5) 3 (hz _ (bS_5 o)) (-1) trivial h7) (fun h8 hF => ?_)
  refine j_aload_n (pc := 47) 0 X dX0_clear_47 rfl ?_
  refine j_getr (pc := 48) X dX0_clear_48 (hz _ (bS_0 o)) fl_X0_30 rfl ?_
  refine j_iconst (pc := 51) (-1) X dX0_clear_51 rfl ?_
  refine j_cSv (pc := 52) (As := [.ref (Z.2.1 (o + 6)), .int (-1)]) (rest := []) X dX0_clear_52 ml_X0_56 ck_J7_fill_53178 sk_J7_fill_53178 (Nat.le_of_ble_eq_true rfl) rfl (Nat.le_of_ble_eq_true rfl) rfl hF (tJ7_fill_53178 Z (o + 6) 3 (hz _ (bS_6 o)) (-1) trivial h8) (fun h9 hF => ?_)
  exact j_vret (pc := 55) X E dX0_clear_55 hF
theorem dX4_become_0 : decode cX4_become 0 = .ok (.aload_n 0, 1) := by decide +kernel
theorem dX4_become_1 : decode cX4_become 1 = .ok (.aload_n 1, 1) := by decide +kernel
theorem dX4_become_2 : decode cX4_become 2 = .ok (.getfield 7, 3) := by decide +kernel
theorem dX4_become_5 : decode cX4_become 5 = .ok (.putfield 7, 3) := by decide +kernel
theorem dX4_become_8 : decode cX4_become 8 = .ok (.aload_n 0, 1) := by decide +kernel
theorem dX4_become_9 : decode cX4_become 9 = .ok (.aload_n 1, 1) := by decide +kernel
theorem dX4_become_10 : decode cX4_become 10 = .ok (.getfield 13, 3) := by decide +kernel
theorem dX4_become_13 : decode cX4_become 13 = .ok (.putfield 13, 3) := by decide +kernel
theorem dX4_become_16 : decode cX4_become 16 = .ok (.aload_n 0, 1) := by decide +kernel
theorem dX4_become_17 : decode cX4_become 17 = .ok (.aload_n 1, 1) := by decide +kernel
theorem dX4_become_18 : decode cX4_become 18 = .ok (.getfield 16, 3) := by decide +kernel
theorem dX4_become_21 : decode cX4_become 21 = .ok (.putfield 16, 3) := by decide +kernel
theorem dX4_become_24 : decode cX4_become 24 = .ok (.aload_n 0, 1) := by decide +kernel
theorem dX4_become_25 : decode cX4_become 25 = .ok (.aload_n 1, 1) := by decide +kernel
theorem dX4_become_26 : decode cX4_become 26 = .ok (.getfield 19, 3) := by decide +kernel
theorem dX4_become_29 : decode cX4_become 29 = .ok (.putfield 19, 3) := by decide +kernel
theorem dX4_become_32 : decode cX4_become 32 = .ok (.aload_n 0, 1) := by decide +kernel
theorem dX4_become_33 : decode cX4_become 33 = .ok (.aload_n 1, 1) := by decide +kernel
theorem dX4_become_34 : decode cX4_become 34 = .ok (.getfield 22, 3) := by decide +kernel
theorem dX4_become_37 : decode cX4_become 37 = .ok (.putfield 22, 3) := by decide +kernel
theorem dX4_become_40 : decode cX4_become 40 = .ok (.aload_n 0, 1) := by decide +kernel
theorem dX4_become_41 : decode cX4_become 41 = .ok (.aload_n 1, 1) := by decide +kernel
theorem dX4_become_42 : decode cX4_become 42 = .ok (.getfield 25, 3) := by decide +kernel
theorem dX4_become_45 : decode cX4_become 45 = .ok (.putfield 25, 3) := by decide +kernel
theorem dX4_become_48 : decode cX4_become 48 = .ok (.aload_n 0, 1) := by decide +kernel
theorem dX4_become_49 : decode cX4_become 49 = .ok (.aload_n 1, 1) := by decide +kernel
theorem dX4_become_50 : decode cX4_become 50 = .ok (.getfield 28, 3) := by decide +kernel
theorem dX4_become_53 : decode cX4_become 53 = .ok (.putfield 28, 3) := by decide +kernel
theorem dX4_become_56 : decode cX4_become 56 = .ok (.aload_n 0, 1) := by decide +kernel
theorem dX4_become_57 : decode cX4_become 57 = .ok (.aload_n 1, 1) := by decide +kernel
theorem dX4_become_58 : decode cX4_become 58 = .ok (.getfield 31, 3) := by decide +kernel
theorem dX4_become_61 : decode cX4_become 61 = .ok (.putfield 31, 3) := by decide +kernel
theorem dX4_become_64 : decode cX4_become 64 = .ok (.return_, 1) := by decide +kernel
def fX4_become (o : Nat) (u1 : Nat) (h : Hp) : Option (Hp) := lt (wI h o 0 (h.1 u1 0)) (fun h1 => lt (wI h1 o 1 (h1.1 u1 1)) (fun h2 => lt (wI h2 o 2 (h2.1 u1 2)) (fun h3 => lt (wI h3 o 3 (h3.1 u1 3)) (fun h4 => lt (wI h4 o 4 (h4.1 u1 4)) (fun h5 => lt (wI h5 o 5 (h5.1 u1 5)) (fun h6 => lt (wI h6 o 6 (h6.1 u1 6)) (fun h7 => lt (wI h7 o 7 (h7.1 u1 7)) (fun h8 => some h8))))))))
set_option maxRecDepth 20000 in
theorem tX4_become (Z : ZT) (o : Nat) (ho : isL o) (u1 : Nat) (hu1 : isL u1) (hz : HZ Z) (h : Hp) (hr : Hp) (hF : fX4_become o u1 h = some hr) : MC Z yX4_become cX4_become 2 none 0 [.ref (Z.2.1 o), .ref (Z.2.1 u1)] h (none) hr := by
  unfold fX4_become at hF
  refine mc_start (by decide) (Nat.le_of_ble_eq_true rfl) (fun G X E => ?_)
  refine j_aload_n (pc := 0) 0 X dX4_become_0 rfl ?_
  refine j_aload_n (pc := 1) 1 X dX4_become_1 rfl ?_
  refine j_geti (pc := 2) X dX4_become_2 (hz _ (shL hu1)) fl_X4_7 rfl ?_
  refine j_puti (pc := 5) X dX4_become_5 (hz _ (shL ho)) fp_X4_7 rfl hF (fun h1 hF => ?_)
  refine j_aload_n (pc := 8) 0 X dX4_become_8 rfl ?_
  refine j_aload_n (pc := 9) 1 X dX4_become_9 rfl ?_
  refine j_geti (pc := 10) X dX4_become_10 (hz _ (shL hu1)) fl_X4_13 rfl ?_
  refine j_puti (pc := 13) X dX4_become_13 (hz _ (shL ho)) fp_X4_13 rfl hF (fun h2 hF => ?_)
  refine j_aload_n (pc := 16) 0 X dX4_become_16 rfl ?_
  refine j_aload_n (pc := 17) 1 X dX4_become_17 rfl ?_
  refine j_geti (pc := 18) X dX4_become_18 (hz _ (shL hu1)) fl_X4_16 rfl ?_
  refine j_puti (pc := 21) X dX4_become_21 (hz _ (shL ho)) fp_X4_16 rfl hF (fun h3 hF => ?_)
  refine j_aload_n (pc := 24) 0 X dX4_become_24 rfl ?_
  refine j_aload_n (pc := 25) 1 X dX4_become_25 rfl ?_
  refine j_geti (pc := 26) X dX4_become_26 (hz _ (shL hu1)) fl_X4_19 rfl ?_
  refine j_puti (pc := 29) X dX4_become_29 (hz _ (shL ho)) fp_X4_19 rfl hF (fun h4 hF => ?_)
  refine j_aload_n (pc := 32) 0 X dX4_become_32 rfl ?_
  refine j_aload_n (pc := 33) 1 X dX4_become_33 rfl ?_
  refine j_geti (pc := 34) X dX4_become_34 (hz _ (shL hu1)) fl_X4_22 rfl ?_
  refine j_puti (pc := 37) X dX4_become_37 (hz _ (shL ho)) fp_X4_22 rfl hF (fun h5 hF => ?_)
  refine j_aload_n (pc := 40) 0 X dX4_become_40 rfl ?_
  refine j_aload_n (pc := 41) 1 X dX4_become_41 rfl ?_
  refine j_geti (pc := 42) X dX4_become_42 (hz _ (shL hu1)) fl_X4_25 rfl ?_
  refine j_puti (pc := 45) X dX4_become_45 (hz _ (shL ho)) fp_X4_25 rfl hF (fun h6 hF => ?_)
  refine j_aload_n (pc := 48) 0 X dX4_become_48 rfl ?_
  refine j_aload_n (pc := 49) 1 X dX4_become_49 rfl ?_
  refine j_geti (pc := 50) X dX4_become_50 (hz _ (shL hu1)) fl_X4_28 rfl ?_
  refine j_puti (pc := 53) X dX4_become_53 (hz _ (shL ho)) fp_X4_28 rfl hF (fun h7 hF => ?_)
  refine j_aload_n (pc := 56) 0 X dX4_become_56 rfl ?_
  refine j_aload_n (pc := 57) 1 X dX4_become_57 rfl ?_
  refine j_geti (pc := 58) X dX4_become_58 (hz _ (shL hu1)) fl_X4_31 rfl ?_
  refine j_puti (pc := 61) X dX4_become_61 (hz _ (shL ho)) fp_X4_31 rfl hF (fun h8 hF => ?_)
  exact j_vret (pc := 64) X E dX4_become_64 hF
theorem dX0_become_0 : decode cX0_become 0 = .ok (.aload_n 0, 1) := by decide +kernel
theorem dX0_become_1 : decode cX0_become 1 = .ok (.aload_n 1, 1) := by decide +kernel
theorem dX0_become_2 : decode cX0_become 2 = .ok (.getfield 37, 3) := by decide +kernel
theorem dX0_become_5 : decode cX0_become 5 = .ok (.putfield 37, 3) := by decide +kernel
theorem dX0_become_8 : decode cX0_become 8 = .ok (.aload_n 0, 1) := by decide +kernel
theorem dX0_become_9 : decode cX0_become 9 = .ok (.aload_n 1, 1) := by decide +kernel
theorem dX0_become_10 : decode cX0_become 10 = .ok (.getfield 41, 3) := by decide +kernel
theorem dX0_become_13 : decode cX0_become 13 = .ok (.putfield 41, 3) := by decide +kernel
theorem dX0_become_16 : decode cX0_become 16 = .ok (.aload_n 0, 1) := by decide +kernel
theorem dX0_become_17 : decode cX0_become 17 = .ok (.aload_n 1, 1) := by decide +kernel
theorem dX0_become_18 : decode cX0_become 18 = .ok (.getfield 44, 3) := by decide +kernel
theorem dX0_become_21 : decode cX0_become 21 = .ok (.putfield 44, 3) := by decide +kernel
theorem dX0_become_24 : decode cX0_become 24 = .ok (.aload_n 0, 1) := by decide +kernel
theorem dX0_become_25 : decode cX0_become 25 = .ok (.aload_n 1, 1) := by decide +kernel
theorem dX0_become_26 : decode cX0_become 26 = .ok (.getfield 47, 3) := by decide +kernel
theorem dX0_become_29 : decode cX0_become 29 = .ok (.putfield 47, 3) := by decide +kernel
theorem dX0_become_32 : decode cX0_become 32 = .ok (.aload_n 0, 1) := by decide +kernel
theorem dX0_become_33 : decode cX0_become 33 = .ok (.aload_n 1, 1) := by decide +kernel
theorem dX0_become_34 : decode cX0_become 34 = .ok (.getfield 50, 3) := by decide +kernel
theorem dX0_become_37 : decode cX0_become 37 = .ok (.putfield 50, 3) := by decide +kernel
theorem dX0_become_40 : decode cX0_become 40 = .ok (.aload_n 0, 1) := by decide +kernel
theorem dX0_become_41 : decode cX0_become 41 = .ok (.aload_n 1, 1) := by decide +kernel
theorem dX0_become_42 : decode cX0_become 42 = .ok (.getfield 53, 3) := by decide +kernel
theorem dX0_become_45 : decode cX0_become 45 = .ok (.putfield 53, 3) := by decide +kernel
theorem dX0_become_48 : decode cX0_become 48 = .ok (.aload_n 1, 1) := by decide +kernel
theorem dX0_become_49 : decode cX0_become 49 = .ok (.getfield 9, 3) := by decide +kernel
theorem dX0_become_52 : decode cX0_become 52 = .ok (.iconst 0, 1) := by decide +kernel
theorem dX0_become_53 : decode cX0_become 53 = .ok (.aload_n 0, 1) := by decide +kernel
theorem dX0_become_54 : decode cX0_become 54 = .ok (.getfield 9, 3) := by decide +kernel
theorem dX0_become_57 : decode cX0_become 57 = .ok (.iconst 0, 1) := by decide +kernel
theorem dX0_become_58 : decode cX0_become 58 = .ok (.bipush 10, 2) := by decide +kernel
theorem dX0_become_60 : decode cX0_become 60 = .ok (.invokestatic 62, 3) := by decide +kernel
theorem dX0_become_63 : decode cX0_become 63 = .ok (.aload_n 1, 1) := by decide +kernel
theorem dX0_become_64 : decode cX0_become 64 = .ok (.getfield 15, 3) := by decide +kernel
theorem dX0_become_67 : decode cX0_become 67 = .ok (.iconst 0, 1) := by decide +kernel
theorem dX0_become_68 : decode cX0_become 68 = .ok (.aload_n 0, 1) := by decide +kernel
theorem dX0_become_69 : decode cX0_become 69 = .ok (.getfield 15, 3) := by decide +kernel
theorem dX0_become_72 : decode cX0_become 72 = .ok (.iconst 0, 1) := by decide +kernel
theorem dX0_become_73 : decode cX0_become 73 = .ok (.iconst 4, 1) := by decide +kernel
theorem dX0_become_74 : decode cX0_become 74 = .ok (.invokestatic 62, 3) := by decide +kernel
theorem dX0_become_77 : decode cX0_become 77 = .ok (.aload_n 1, 1) := by decide +kernel
theorem dX0_become_78 : decode cX0_become 78 = .ok (.getfield 24, 3) := by decide +kernel
theorem dX0_become_81 : decode cX0_become 81 = .ok (.iconst 0, 1) := by decide +kernel
theorem dX0_become_82 : decode cX0_become 82 = .ok (.aload_n 0, 1) := by decide +kernel
theorem dX0_become_83 : decode cX0_become 83 = .ok (.getfield 24, 3) := by decide +kernel
theorem dX0_become_86 : decode cX0_become 86 = .ok (.iconst 0, 1) := by decide +kernel
theorem dX0_become_87 : decode cX0_become 87 = .ok (.sipush 400, 3) := by decide +kernel
theorem dX0_become_90 : decode cX0_become 90 = .ok (.invokestatic 62, 3) := by decide +kernel
theorem dX0_become_93 : decode cX0_become 93 = .ok (.aload_n 1, 1) := by decide +kernel
theorem dX0_become_94 : decode cX0_become 94 = .ok (.getfield 27, 3) := by decide +kernel
theorem dX0_become_97 : decode cX0_become 97 = .ok (.iconst 0, 1) := by decide +kernel
theorem dX0_become_98 : decode cX0_become 98 = .ok (.aload_n 0, 1) := by decide +kernel
theorem dX0_become_99 : decode cX0_become 99 = .ok (.getfield 27, 3) := by decide +kernel
theorem dX0_become_102 : decode cX0_become 102 = .ok (.iconst 0, 1) := by decide +kernel
theorem dX0_become_103 : decode cX0_become 103 = .ok (.iconst 3, 1) := by decide +kernel
theorem dX0_become_104 : decode cX0_become 104 = .ok (.invokestatic 62, 3) := by decide +kernel
theorem dX0_become_107 : decode cX0_become 107 = .ok (.aload_n 1, 1) := by decide +kernel
theorem dX0_become_108 : decode cX0_become 108 = .ok (.getfield 30, 3) := by decide +kernel
theorem dX0_become_111 : decode cX0_become 111 = .ok (.iconst 0, 1) := by decide +kernel
theorem dX0_become_112 : decode cX0_become 112 = .ok (.aload_n 0, 1) := by decide +kernel
theorem dX0_become_113 : decode cX0_become 113 = .ok (.getfield 30, 3) := by decide +kernel
theorem dX0_become_116 : decode cX0_become 116 = .ok (.iconst 0, 1) := by decide +kernel
theorem dX0_become_117 : decode cX0_become 117 = .ok (.iconst 3, 1) := by decide +kernel
theorem dX0_become_118 : decode cX0_become 118 = .ok (.invokestatic 62, 3) := by decide +kernel
theorem dX0_become_121 : decode cX0_become 121 = .ok (.iconst 0, 1) := by decide +kernel
theorem dX0_become_122 : decode cX0_become 122 = .ok (.istore_n 2, 1) := by decide +kernel
theorem dX0_become_123 : decode cX0_become 123 = .ok (.iload_n 2, 1) := by decide +kernel
theorem dX0_become_124 : decode cX0_become 124 = .ok (.aload_n 0, 1) := by decide +kernel
theorem dX0_become_125 : decode cX0_become 125 = .ok (.getfield 47, 3) := by decide +kernel
theorem dX0_become_128 : decode cX0_become 128 = .ok (.if_icmp .ge 24, 3) := by decide +kernel
theorem dX0_become_131 : decode cX0_become 131 = .ok (.aload_n 0, 1) := by decide +kernel
theorem dX0_become_132 : decode cX0_become 132 = .ok (.getfield 20, 3) := by decide +kernel
theorem dX0_become_135 : decode cX0_become 135 = .ok (.iload_n 2, 1) := by decide +kernel
theorem dX0_become_136 : decode cX0_become 136 = .ok (.aaload, 1) := by decide +kernel
theorem dX0_become_137 : decode cX0_become 137 = .ok (.aload_n 1, 1) := by decide +kernel
theorem dX0_become_138 : decode cX0_become 138 = .ok (.getfield 20, 3) := by decide +kernel
theorem dX0_become_141 : decode cX0_become 141 = .ok (.iload_n 2, 1) := by decide +kernel
theorem dX0_become_142 : decode cX0_become 142 = .ok (.aaload, 1) := by decide +kernel
theorem dX0_become_143 : decode cX0_become 143 = .ok (.invokevirtual 68, 3) := by decide +kernel
theorem dX0_become_146 : decode cX0_become 146 = .ok (.iinc 2 1, 3) := by decide +kernel
theorem dX0_become_149 : decode cX0_become 149 = .ok (.goto (-26), 3) := by decide +kernel
theorem dX0_become_152 : decode cX0_become 152 = .ok (.return_, 1) := by decide +kernel
def bX0_become_123   (r123 : Int32 → Hp → Option (Hp)) (x2 : Int32) (h : Hp) : Option (Hp) := (if (h.1 108 9) ≤ x2 then some h else ck (inb x2 10) (ck (inb x2 10) (bv (fX4_become (115 + ix x2) (132 + ix x2) h) (fun h3 => lt (x2 + 1) (fun v4 => r123 v4 h3)))))
def lX0_become_123   : Nat → Int32 → Hp → Option (Hp)
  | 0 => fun _ _ => none
  | n + 1 => bX0_become_123   (lX0_become_123   n)
set_option maxRecDepth 20000 in
theorem BX0_become_123 {Z : ZT} {G : GT} {hr : Hp} (X : CX Z G cX0_become RX0 3 1) (E : RX Z G none (none) hr) (hz : HZ Z)  (r123 : Int32 → Hp → Option (Hp)) (hr123 : ∀ (x2 : Int32) (h : Hp), r123 x2 h = some hr → J Z G 3 h 123 [(0, .ref (Z.2.1 108)), (1, .ref (Z.2.1 125)), (2, .int x2)] []) (x2 : Int32) (h : Hp) (hF : bX0_become_123   r123 x2 h = some hr) : J Z G 3 h 123 [(0, .ref (Z.2.1 108)), (1, .ref (Z.2.1 125)), (2, .int x2)] [] := by
  unfold bX0_become_123 at hF
  refine j_iload_n (pc := 123) 2 X dX0_become_123 rfl ?_
  refine j_aload_n (pc := 124) 0 X dX0_become_124 rfl ?_
  refine j_geti (pc := 125) X dX0_become_125 (hz _ sh_108) fl_X0_47 rfl ?_
  refine j_icmp_ge (pc := 128) 152 X dX0_become_128 rfl hF (fun hF => ?_) (fun hF => ?_)
  · exact j_vret (pc := 152) X E dX0_become_152 hF
  · refine j_aload_n (pc := 131) 0 X dX0_become_131 rfl ?_
    refine j_getr (pc := 132) X dX0_become_132 (hz _ sh_108) fl_X0_20 rfl ?_
    refine j_iload_n (pc := 135) 2 X dX0_become_135 rfl ?_
    refine j_aald (pc := 136) (g := fun j => 115 + j) (C := "AfterOffice$Letter") X dX0_become_136 (hz _ sh_111) (fun _ => rfl) rfl al_111 hF (fun hb1 hF => ?_)
    refine j_aload_n (pc := 137) 1 X dX0_become_137 rfl ?_
    refine j_getr (pc := 138) X dX0_become_138 (hz _ sh_125) fl_X0_20 rfl ?_
    refine j_iload_n (pc := 141) 2 X dX0_become_141 rfl ?_
    refine j_aald (pc := 142) (g := fun j => 132 + j) (C := "AfterOffice$Letter") X dX0_become_142 (hz _ sh_128) (fun _ => rfl) rfl al_128 hF (fun hb2 hF => ?_)
    refine j_cVv (pc := 143) (As := [.ref (Z.2.1 (132 + ix x2))]) (rest := []) X dX0_become_143 ml_X0_68 ck_X4_become cv_X4_become (hz _ (shL (is_111 hb1))) rfl (Nat.le_of_ble_eq_true rfl) rfl (Nat.le_of_ble_eq_true rfl) rfl hF (tX4_become Z (115 + ix x2) (is_111 hb1) (132 + ix x2) (is_128 hb2) hz h) (fun h3 hF => ?_)
    refine j_iinc (pc := 146) 2 (x2 + 1) (fun y => [(2, .int y), (0, .ref (Z.2.1 108)), (1, .ref (Z.2.1 125))]) X dX0_become_146 rfl rfl (by decide) (fun _ => rfl) hF (fun v4 hF => ?_)
    refine j_goto (pc := 149) 123 X dX0_become_149 rfl ?_
    refine j_lv [(0, .ref (Z.2.1 108)), (1, .ref (Z.2.1 125)), (2, .int v4)] [1, 2, 0] rfl ?_
    exact hr123 v4 h3 hF
theorem LX0_become_123 {Z : ZT} {G : GT} {hr : Hp} (X : CX Z G cX0_become RX0 3 1) (E : RX Z G none (none) hr) (hz : HZ Z)  : ∀ (n : Nat) (x2 : Int32) (h : Hp), lX0_become_123   n x2 h = some hr → J Z G 3 h 123 [(0, .ref (Z.2.1 108)), (1, .ref (Z.2.1 125)), (2, .int x2)] [] := by
  intro n
  induction n with
  | zero => intro x2 h hF; cases hF
  | succ n ih => intro x2 h hF; exact BX0_become_123 X E hz  (lX0_become_123   n) ih x2 h hF
def fX0_become  (h : Hp) : Option (Hp) := lt (wI h 108 6 (h.1 125 6)) (fun h1 => lt (wI h1 108 7 (h1.1 125 7)) (fun h2 => lt (wI h2 108 8 (h2.1 125 8)) (fun h3 => lt (wI h3 108 9 (h3.1 125 9)) (fun h4 => lt (wI h4 108 10 (h4.1 125 10)) (fun h5 => lt (wI h5 108 11 (h5.1 125 11)) (fun h6 => ck (cpb 0 0 10 10 10) (lt (cpI h6 126 109 (ix 0) (ix 0) (ix 10)) (fun h7 => ck (cpb 0 0 4 4 4) (lt (cpI h7 127 110 (ix 0) (ix 0) (ix 4)) (fun h8 => ck (cpb 0 0 400 400 400) (lt (cpI h8 129 112 (ix 0) (ix 0) (ix 400)) (fun h9 => ck (cpb 0 0 3 3 3) (lt (cpI h9 130 113 (ix 0) (ix 0) (ix 3)) (fun h10 => ck (cpb 0 0 3 3 3) (lt (cpI h10 131 114 (ix 0) (ix 0) (ix 3)) (fun h11 => lt 0 (fun v12 => lX0_become_123 FU v12 h11)))))))))))))))))
set_option maxRecDepth 20000 in
theorem tX0_become (Z : ZT)  (hz : HZ Z) (h : Hp) (hr : Hp) (hF : fX0_become  h = some hr) : MC Z yX0_become cX0_become 3 none 1 [.ref (Z.2.1 108), .ref (Z.2.1 125)] h (none) hr := by
  unfold fX0_become at hF
  refine mc_start (by decide) (Nat.le_of_ble_eq_true rfl) (fun G X E => ?_)
  refine j_aload_n (pc := 0) 0 X dX0_become_0 rfl ?_
  refine j_aload_n (pc := 1) 1 X dX0_become_1 rfl ?_
  refine j_geti (pc := 2) X dX0_become_2 (hz _ sh_125) fl_X0_37 rfl ?_
  refine j_puti (pc := 5) X dX0_become_5 (hz _ sh_108) fp_X0_37 rfl hF (fun h1 hF => ?_)
  refine j_aload_n (pc := 8) 0 X dX0_become_8 rfl ?_
  refine j_aload_n (pc := 9) 1 X dX0_become_9 rfl ?_
  refine j_geti (pc := 10) X dX0_become_10 (hz _ sh_125) fl_X0_41 rfl ?_
  refine j_puti (pc := 13) X dX0_become_13 (hz _ sh_108) fp_X0_41 rfl hF (fun h2 hF => ?_)
  refine j_aload_n (pc := 16) 0 X dX0_become_16 rfl ?_
  refine j_aload_n (pc := 17) 1 X dX0_become_17 rfl ?_
  refine j_geti (pc := 18) X dX0_become_18 (hz _ sh_125) fl_X0_44 rfl ?_
  refine j_puti (pc := 21) X dX0_become_21 (hz _ sh_108) fp_X0_44 rfl hF (fun h3 hF => ?_)
  refine j_aload_n (pc := 24) 0 X dX0_become_24 rfl ?_
  refine j_aload_n (pc := 25) 1 X dX0_become_25 rfl ?_
  refine j_geti (pc := 26) X dX0_become_26 (hz _ sh_125) fl_X0_47 rfl ?_
  refine j_puti (pc := 29) X dX0_become_29 (hz _ sh_108) fp_X0_47 rfl hF (fun h4 hF => ?_)
  refine j_aload_n (pc := 32) 0 X dX0_become_32 rfl ?_
  refine j_aload_n (pc := 33) 1 X dX0_become_33 rfl ?_
  refine j_geti (pc := 34) X dX0_become_34 (hz _ sh_125) fl_X0_50 rfl ?_
  refine j_puti (pc := 37) X dX0_become_37 (hz _ sh_108) fp_X0_50 rfl hF (fun h5 hF => ?_)
  refine j_aload_n (pc := 40) 0 X dX0_become_40 rfl ?_
  refine j_aload_n (pc := 41) 1 X dX0_become_41 rfl ?_
  refine j_geti (pc := 42) X dX0_become_42 (hz _ sh_125) fl_X0_53 rfl ?_
  refine j_puti (pc := 45) X dX0_become_45 (hz _ sh_108) fp_X0_53 rfl hF (fun h6 hF => ?_)
  refine j_aload_n (pc := 48) 1 X dX0_become_48 rfl ?_
  refine j_getr (pc := 49) X dX0_become_49 (hz _ sh_125) fl_X0_9 rfl ?_
  refine j_iconst (pc := 52) 0 X dX0_become_52 rfl ?_
  refine j_aload_n (pc := 53) 0 X dX0_become_53 rfl ?_
  refine j_getr (pc := 54) X dX0_become_54 (hz _ sh_108) fl_X0_9 rfl ?_
  refine j_iconst (pc := 57) 0 X dX0_become_57 rfl ?_
  refine j_bipush (pc := 58) 10 X dX0_become_58 rfl ?_
  refine j_acp (pc := 60) X dX0_become_60 ml_X0_62 ac_nat ac_stat ac_ini (Nat.le_of_ble_eq_true rfl) (hz _ sh_126) (hz _ sh_109) (Nat.le_of_ble_eq_true rfl) hF (fun h7 hF => ?_)
  refine j_aload_n (pc := 63) 1 X dX0_become_63 rfl ?_
  refine j_getr (pc := 64) X dX0_become_64 (hz _ sh_125) fl_X0_15 rfl ?_
  refine j_iconst (pc := 67) 0 X dX0_become_67 rfl ?_
  refine j_aload_n (pc := 68) 0 X dX0_become_68 rfl ?_
  refine j_getr (pc := 69) X dX0_become_69 (hz _ sh_108) fl_X0_15 rfl ?_
  refine j_iconst (pc := 72) 0 X dX0_become_72 rfl ?_
  refine j_iconst (pc := 73) 4 X dX0_become_73 rfl ?_
  refine j_acp (pc := 74) X dX0_become_74 ml_X0_62 ac_nat ac_stat ac_ini (Nat.le_of_ble_eq_true rfl) (hz _ sh_127) (hz _ sh_110) (Nat.le_of_ble_eq_true rfl) hF (fun h8 hF => ?_)
  refine j_aload_n (pc := 77) 1 X dX0_become_77 rfl ?_
  refine j_getr (pc := 78) X dX0_become_78 (hz _ sh_125) fl_X0_24 rfl ?_
  refine j_iconst (pc := 81) 0 X dX0_become_81 rfl ?_
  refine j_aload_n (pc := 82) 0 X dX0_become_82 rfl ?_
  refine j_getr (pc := 83) X dX0_become_83 (hz _ sh_108) fl_X0_24 rfl ?_
  refine j_iconst (pc := 86) 0 X dX0_become_86 rfl ?_
  refine j_sipush (pc := 87) 400 X dX0_become_87 rfl ?_
  refine j_acp (pc := 90) X dX0_become_90 ml_X0_62 ac_nat ac_stat ac_ini (Nat.le_of_ble_eq_true rfl) (hz _ sh_129) (hz _ sh_112) (Nat.le_of_ble_eq_true rfl) hF (fun h9 hF => ?_)
  refine j_aload_n (pc := 93) 1 X dX0_become_93 rfl ?_
  refine j_getr (pc := 94) X dX0_become_94 (hz _ sh_125) fl_X0_27 rfl ?_
  refine j_iconst (pc := 97) 0 X dX0_become_97 rfl ?_
  refine j_aload_n (pc := 98) 0 X dX0_become_98 rfl ?_
  refine j_getr (pc := 99) X dX0_become_99 (hz _ sh_108) fl_X0_27 rfl ?_
  refine j_iconst (pc := 102) 0 X dX0_become_102 rfl ?_
  refine j_iconst (pc := 103) 3 X dX0_become_103 rfl ?_
  refine j_acp (pc := 104) X dX0_become_104 ml_X0_62 ac_nat ac_stat ac_ini (Nat.le_of_ble_eq_true rfl) (hz _ sh_130) (hz _ sh_113) (Nat.le_of_ble_eq_true rfl) hF (fun h10 hF => ?_)
  refine j_aload_n (pc := 107) 1 X dX0_become_107 rfl ?_
  refine j_getr (pc := 108) X dX0_become_108 (hz _ sh_125) fl_X0_30 rfl ?_
  refine j_iconst (pc := 111) 0 X dX0_become_111 rfl ?_
  refine j_aload_n (pc := 112) 0 X dX0_become_112 rfl ?_
  refine j_getr (pc := 113) X dX0_become_113 (hz _ sh_108) fl_X0_30 rfl ?_
  refine j_iconst (pc := 116) 0 X dX0_become_116 rfl ?_
  refine j_iconst (pc := 117) 3 X dX0_become_117 rfl ?_
  refine j_acp (pc := 118) X dX0_become_118 ml_X0_62 ac_nat ac_stat ac_ini (Nat.le_of_ble_eq_true rfl) (hz _ sh_131) (hz _ sh_114) (Nat.le_of_ble_eq_true rfl) hF (fun h11 hF => ?_)
  refine j_iconst (pc := 121) 0 X dX0_become_121 rfl ?_
  refine j_istore_n (pc := 122) (fun y => [(2, .int y), (0, .ref (Z.2.1 108)), (1, .ref (Z.2.1 125))]) X dX0_become_122 (by decide) (fun _ => rfl) hF (fun v12 hF => ?_)
  refine j_lv [(0, .ref (Z.2.1 108)), (1, .ref (Z.2.1 125)), (2, .int v12)] [1, 2, 0] rfl ?_
  exact LX0_become_123 X E hz FU v12 h11 hF
theorem dX0_clerkOf_0 : decode cX0_clerkOf 0 = .ok (.aload_n 0, 1) := by decide +kernel
theorem dX0_clerkOf_1 : decode cX0_clerkOf 1 = .ok (.getfield 41, 3) := by decide +kernel
theorem dX0_clerkOf_4 : decode cX0_clerkOf 4 = .ok (.ifCond .le 12, 3) := by decide +kernel
theorem dX0_clerkOf_7 : decode cX0_clerkOf 7 = .ok (.iload_n 1, 1) := by decide +kernel
theorem dX0_clerkOf_8 : decode cX0_clerkOf 8 = .ok (.aload_n 0, 1) := by decide +kernel
theorem dX0_clerkOf_9 : decode cX0_clerkOf 9 = .ok (.getfield 41, 3) := by decide +kernel
theorem dX0_clerkOf_12 : decode cX0_clerkOf 12 = .ok (.irem, 1) := by decide +kernel
theorem dX0_clerkOf_13 : decode cX0_clerkOf 13 = .ok (.goto 5, 3) := by decide +kernel
theorem dX0_clerkOf_16 : decode cX0_clerkOf 16 = .ok (.bipush (-2), 2) := by decide +kernel
theorem dX0_clerkOf_18 : decode cX0_clerkOf 18 = .ok (.ireturn, 1) := by decide +kernel
def fX0_clerkOf (a1 : Int32) (h : Hp) : Option (Int32 × Hp) := (if (h.1 108 7) ≤ 0 then some ((-2), h) else ck (nz (h.1 108 7)) (some ((a1 - a1 / (h.1 108 7) * (h.1 108 7)), h)))
set_option maxRecDepth 20000 in
theorem tX0_clerkOf (Z : ZT) (a1 : Int32) (hz : HZ Z) (h : Hp) (r : Int32) (hr : Hp) (hF : fX0_clerkOf a1 h = some (r, hr)) : MC Z yX0_clerkOf cX0_clerkOf 2 (some .int) 0 [.ref (Z.2.1 108), .int a1] h (some (.int r)) hr := by
  unfold fX0_clerkOf at hF
  refine mc_start (by decide) (Nat.le_of_ble_eq_true rfl) (fun G X E => ?_)
  refine j_aload_n (pc := 0) 0 X dX0_clerkOf_0 rfl ?_
  refine j_geti (pc := 1) X dX0_clerkOf_1 (hz _ sh_108) fl_X0_41 rfl ?_
  refine j_if_le (pc := 4) 16 X dX0_clerkOf_4 rfl hF (fun hF => ?_) (fun hF => ?_)
  · refine j_bipush (pc := 16) (-2) X dX0_clerkOf_16 rfl ?_
    exact j_iret (pc := 18) X E dX0_clerkOf_18 hF
  · refine j_iload_n (pc := 7) 1 X dX0_clerkOf_7 rfl ?_
    refine j_aload_n (pc := 8) 0 X dX0_clerkOf_8 rfl ?_
    refine j_geti (pc := 9) X dX0_clerkOf_9 (hz _ sh_108) fl_X0_41 rfl ?_
    refine j_irem (pc := 12) X dX0_clerkOf_12 hF (fun hF => ?_)
    refine j_goto (pc := 13) 18 X dX0_clerkOf_13 rfl ?_
    exact j_iret (pc := 18) X E dX0_clerkOf_18 hF
theorem dX11_has_0 : decode cX11_has 0 = .ok (.iload_n 0, 1) := by decide +kernel
theorem dX11_has_1 : decode cX11_has 1 = .ok (.iload_n 1, 1) := by decide +kernel
theorem dX11_has_2 : decode cX11_has 2 = .ok (.ishr, 1) := by decide +kernel
theorem dX11_has_3 : decode cX11_has 3 = .ok (.iconst 1, 1) := by decide +kernel
theorem dX11_has_4 : decode cX11_has 4 = .ok (.iand, 1) := by decide +kernel
theorem dX11_has_5 : decode cX11_has 5 = .ok (.ifCond .eq 7, 3) := by decide +kernel
theorem dX11_has_8 : decode cX11_has 8 = .ok (.iconst 1, 1) := by decide +kernel
theorem dX11_has_9 : decode cX11_has 9 = .ok (.goto 4, 3) := by decide +kernel
theorem dX11_has_12 : decode cX11_has 12 = .ok (.iconst 0, 1) := by decide +kernel
theorem dX11_has_13 : decode cX11_has 13 = .ok (.ireturn, 1) := by decide +kernel
def fX11_has (a1 : Int32) (a2 : Int32) (h : Hp) : Option (Int32 × Hp) := (if ((a1 >>> (a2 &&& 31)) &&& 1) = 0 then ck (zb 0) (some (0, h)) else ck (zb 1) (some (1, h)))
set_option maxRecDepth 20000 in
theorem tX11_has (Z : ZT) (a1 : Int32) (a2 : Int32) (hz : True) (h : Hp) (r : Int32) (hr : Hp) (hF : fX11_has a1 a2 h = some (r, hr)) : MC Z yX11_has cX11_has 2 (some .boolean) 0 [.int a1, .int a2] h (some (.int r)) hr := by
  unfold fX11_has at hF
  refine mc_start (by decide) (Nat.le_of_ble_eq_true rfl) (fun G X E => ?_)
  refine j_iload_n (pc := 0) 0 X dX11_has_0 rfl ?_
  refine j_iload_n (pc := 1) 1 X dX11_has_1 rfl ?_
  refine j_ishr (pc := 2) X dX11_has_2 ?_
  refine j_iconst (pc := 3) 1 X dX11_has_3 rfl ?_
  refine j_iand (pc := 4) X dX11_has_4 ?_
  refine j_if_eq (pc := 5) 12 X dX11_has_5 rfl hF (fun hF => ?_) (fun hF => ?_)
  · refine j_iconst (pc := 12) 0 X dX11_has_12 rfl ?_
    exact j_zret (pc := 13) X E dX11_has_13 hF
  · refine j_iconst (pc := 8) 1 X dX11_has_8 rfl ?_
    refine j_goto (pc := 9) 13 X dX11_has_9 rfl ?_
    exact j_zret (pc := 13) X E dX11_has_13 hF
theorem dX0_clerkMay_0 : decode cX0_clerkMay 0 = .ok (.aload_n 0, 1) := by decide +kernel
theorem dX0_clerkMay_1 : decode cX0_clerkMay 1 = .ok (.getfield 41, 3) := by decide +kernel
theorem dX0_clerkMay_4 : decode cX0_clerkMay 4 = .ok (.ifCond .le 21, 3) := by decide +kernel
theorem dX0_clerkMay_7 : decode cX0_clerkMay 7 = .ok (.aload_n 0, 1) := by decide +kernel
theorem dX0_clerkMay_8 : decode cX0_clerkMay 8 = .ok (.getfield 15, 3) := by decide +kernel
theorem dX0_clerkMay_11 : decode cX0_clerkMay 11 = .ok (.iload_n 1, 1) := by decide +kernel
theorem dX0_clerkMay_12 : decode cX0_clerkMay 12 = .ok (.aload_n 0, 1) := by decide +kernel
theorem dX0_clerkMay_13 : decode cX0_clerkMay 13 = .ok (.getfield 41, 3) := by decide +kernel
theorem dX0_clerkMay_16 : decode cX0_clerkMay 16 = .ok (.irem, 1) := by decide +kernel
theorem dX0_clerkMay_17 : decode cX0_clerkMay 17 = .ok (.iaload, 1) := by decide +kernel
theorem dX0_clerkMay_18 : decode cX0_clerkMay 18 = .ok (.iload_n 2, 1) := by decide +kernel
theorem dX0_clerkMay_19 : decode cX0_clerkMay 19 = .ok (.invokestatic 72, 3) := by decide +kernel
theorem dX0_clerkMay_22 : decode cX0_clerkMay 22 = .ok (.ifCond .ne 7, 3) := by decide +kernel
theorem dX0_clerkMay_25 : decode cX0_clerkMay 25 = .ok (.iconst 1, 1) := by decide +kernel
theorem dX0_clerkMay_26 : decode cX0_clerkMay 26 = .ok (.goto 4, 3) := by decide +kernel
theorem dX0_clerkMay_29 : decode cX0_clerkMay 29 = .ok (.iconst 0, 1) := by decide +kernel
theorem dX0_clerkMay_30 : decode cX0_clerkMay 30 = .ok (.ireturn, 1) := by decide +kernel
def fX0_clerkMay (a1 : Int32) (a2 : Int32) (h : Hp) : Option (Int32 × Hp) := (if (h.1 108 7) ≤ 0 then ck (zb 1) (some (1, h)) else ck (nz (h.1 108 7)) (ck (inb (a1 - a1 / (h.1 108 7) * (h.1 108 7)) 4) (bi (fX11_has (h.1 110 (ix (a1 - a1 / (h.1 108 7) * (h.1 108 7)))) a2 h) (fun w2 h1 => (if w2 = 0 then ck (zb 1) (some (1, h1)) else ck (zb 0) (some (0, h1)))))))
set_option maxRecDepth 20000 in
theorem tX0_clerkMay (Z : ZT) (a1 : Int32) (a2 : Int32) (hz : HZ Z) (h : Hp) (r : Int32) (hr : Hp) (hF : fX0_clerkMay a1 a2 h = some (r, hr)) : MC Z yX0_clerkMay cX0_clerkMay 3 (some .boolean) 1 [.ref (Z.2.1 108), .int a1, .int a2] h (some (.int r)) hr := by
  unfold fX0_clerkMay at hF
  refine mc_start (by decide) (Nat.le_of_ble_eq_true rfl) (fun G X E => ?_)
  refine j_aload_n (pc := 0) 0 X dX0_clerkMay_0 rfl ?_
  refine j_geti (pc := 1) X dX0_clerkMay_1 (hz _ sh_108) fl_X0_41 rfl ?_
  refine j_if_le (pc := 4) 25 X dX0_clerkMay_4 rfl hF (fun hF => ?_) (fun hF => ?_)
  · refine j_iconst (pc := 25) 1 X dX0_clerkMay_25 rfl ?_
    refine j_goto (pc := 26) 30 X dX0_clerkMay_26 rfl ?_
    exact j_zret (pc := 30) X E dX0_clerkMay_30 hF
  · refine j_aload_n (pc := 7) 0 X dX0_clerkMay_7 rfl ?_
    refine j_getr (pc := 8) X dX0_clerkMay_8 (hz _ sh_108) fl_X0_15 rfl ?_
    refine j_iload_n (pc := 11) 1 X dX0_clerkMay_11 rfl ?_
    refine j_aload_n (pc := 12) 0 X dX0_clerkMay_12 rfl ?_
    refine j_geti (pc := 13) X dX0_clerkMay_13 (hz _ sh_108) fl_X0_41 rfl ?_
    refine j_irem (pc := 16) X dX0_clerkMay_16 hF (fun hF => ?_)
    refine j_iald (pc := 17) X dX0_clerkMay_17 (hz _ sh_110) hF (fun hF => ?_)
    refine j_iload_n (pc := 18) 2 X dX0_clerkMay_18 rfl ?_
    refine j_cSNi (pc := 19) (As := [.int (h.1 110 (ix (a1 - a1 / (h.1 108 7) * (h.1 108 7)))), .int a2]) (rest := []) X dX0_clerkMay_19 ml_X0_72 ck_X11_has sk_X11_has (Nat.le_of_ble_eq_true rfl) rfl (Nat.le_of_ble_eq_true rfl) rfl hF (tX11_has Z (h.1 110 (ix (a1 - a1 / (h.1 108 7) * (h.1 108 7)))) a2 trivial h) (fun w2 h1 hF => ?_)
    refine j_if_ne (pc := 22) 29 X dX0_clerkMay_22 rfl hF (fun hF => ?_) (fun hF => ?_)
    · refine j_iconst (pc := 29) 0 X dX0_clerkMay_29 rfl ?_
      exact j_zret (pc := 30) X E dX0_clerkMay_30 hF
    · refine j_iconst (pc := 25) 1 X dX0_clerkMay_25 rfl ?_
      refine j_goto (pc := 26) 30 X dX0_clerkMay_26 rfl ?_
      exact j_zret (pc := 30) X E dX0_clerkMay_30 hF
theorem dX1_begin_0 : decode cX1_begin 0 = .ok (.aload_n 0, 1) := by decide +kernel
theorem dX1_begin_1 : decode cX1_begin 1 = .ok (.getfield 9, 3) := by decide +kernel
theorem dX1_begin_4 : decode cX1_begin 4 = .ok (.iconst 0, 1) := by decide +kernel
theorem dX1_begin_5 : decode cX1_begin 5 = .ok (.invokestatic 45, 3) := by decide +kernel
theorem dX1_begin_8 : decode cX1_begin 8 = .ok (.aload_n 0, 1) := by decide +kernel
theorem dX1_begin_9 : decode cX1_begin 9 = .ok (.getfield 15, 3) := by decide +kernel
theorem dX1_begin_12 : decode cX1_begin 12 = .ok (.bipush (-2), 2) := by decide +kernel
theorem dX1_begin_14 : decode cX1_begin 14 = .ok (.invokestatic 45, 3) := by decide +kernel
theorem dX1_begin_17 : decode cX1_begin 17 = .ok (.aload_n 0, 1) := by decide +kernel
theorem dX1_begin_18 : decode cX1_begin 18 = .ok (.getfield 21, 3) := by decide +kernel
theorem dX1_begin_21 : decode cX1_begin 21 = .ok (.iconst 0, 1) := by decide +kernel
theorem dX1_begin_22 : decode cX1_begin 22 = .ok (.invokestatic 45, 3) := by decide +kernel
theorem dX1_begin_25 : decode cX1_begin 25 = .ok (.aload_n 0, 1) := by decide +kernel
theorem dX1_begin_26 : decode cX1_begin 26 = .ok (.getfield 27, 3) := by decide +kernel
theorem dX1_begin_29 : decode cX1_begin 29 = .ok (.iconst 0, 1) := by decide +kernel
theorem dX1_begin_30 : decode cX1_begin 30 = .ok (.invokestatic 45, 3) := by decide +kernel
theorem dX1_begin_33 : decode cX1_begin 33 = .ok (.aload_n 0, 1) := by decide +kernel
theorem dX1_begin_34 : decode cX1_begin 34 = .ok (.getfield 30, 3) := by decide +kernel
theorem dX1_begin_37 : decode cX1_begin 37 = .ok (.iconst 0, 1) := by decide +kernel
theorem dX1_begin_38 : decode cX1_begin 38 = .ok (.invokestatic 45, 3) := by decide +kernel
theorem dX1_begin_41 : decode cX1_begin 41 = .ok (.iconst 0, 1) := by decide +kernel
theorem dX1_begin_42 : decode cX1_begin 42 = .ok (.istore_n 2, 1) := by decide +kernel
theorem dX1_begin_43 : decode cX1_begin 43 = .ok (.iload_n 2, 1) := by decide +kernel
theorem dX1_begin_44 : decode cX1_begin 44 = .ok (.aload_n 0, 1) := by decide +kernel
theorem dX1_begin_45 : decode cX1_begin 45 = .ok (.getfield 33, 3) := by decide +kernel
theorem dX1_begin_48 : decode cX1_begin 48 = .ok (.getfield 51, 3) := by decide +kernel
theorem dX1_begin_51 : decode cX1_begin 51 = .ok (.if_icmp .ge 27, 3) := by decide +kernel
theorem dX1_begin_54 : decode cX1_begin 54 = .ok (.aload_n 0, 1) := by decide +kernel
theorem dX1_begin_55 : decode cX1_begin 55 = .ok (.getfield 18, 3) := by decide +kernel
theorem dX1_begin_58 : decode cX1_begin 58 = .ok (.iload_n 2, 1) := by decide +kernel
theorem dX1_begin_59 : decode cX1_begin 59 = .ok (.aload_n 0, 1) := by decide +kernel
theorem dX1_begin_60 : decode cX1_begin 60 = .ok (.getfield 33, 3) := by decide +kernel
theorem dX1_begin_63 : decode cX1_begin 63 = .ok (.getfield 57, 3) := by decide +kernel
theorem dX1_begin_66 : decode cX1_begin 66 = .ok (.iload_n 2, 1) := by decide +kernel
theorem dX1_begin_67 : decode cX1_begin 67 = .ok (.aaload, 1) := by decide +kernel
theorem dX1_begin_68 : decode cX1_begin 68 = .ok (.getfield 61, 3) := by decide +kernel
theorem dX1_begin_71 : decode cX1_begin 71 = .ok (.iastore, 1) := by decide +kernel
theorem dX1_begin_72 : decode cX1_begin 72 = .ok (.iinc 2 1, 3) := by decide +kernel
theorem dX1_begin_75 : decode cX1_begin 75 = .ok (.goto (-32), 3) := by decide +kernel
theorem dX1_begin_78 : decode cX1_begin 78 = .ok (.aload_n 0, 1) := by decide +kernel
theorem dX1_begin_79 : decode cX1_begin 79 = .ok (.iconst 0, 1) := by decide +kernel
theorem dX1_begin_80 : decode cX1_begin 80 = .ok (.putfield 66, 3) := by decide +kernel
theorem dX1_begin_83 : decode cX1_begin 83 = .ok (.aload_n 0, 1) := by decide +kernel
theorem dX1_begin_84 : decode cX1_begin 84 = .ok (.iconst 0, 1) := by decide +kernel
theorem dX1_begin_85 : decode cX1_begin 85 = .ok (.putfield 69, 3) := by decide +kernel
theorem dX1_begin_88 : decode cX1_begin 88 = .ok (.aload_n 0, 1) := by decide +kernel
theorem dX1_begin_89 : decode cX1_begin 89 = .ok (.iconst 0, 1) := by decide +kernel
theorem dX1_begin_90 : decode cX1_begin 90 = .ok (.putfield 72, 3) := by decide +kernel
theorem dX1_begin_93 : decode cX1_begin 93 = .ok (.aload_n 0, 1) := by decide +kernel
theorem dX1_begin_94 : decode cX1_begin 94 = .ok (.iconst 0, 1) := by decide +kernel
theorem dX1_begin_95 : decode cX1_begin 95 = .ok (.putfield 75, 3) := by decide +kernel
theorem dX1_begin_98 : decode cX1_begin 98 = .ok (.aload_n 0, 1) := by decide +kernel
theorem dX1_begin_99 : decode cX1_begin 99 = .ok (.iload_n 1, 1) := by decide +kernel
theorem dX1_begin_100 : decode cX1_begin 100 = .ok (.putfield 78, 3) := by decide +kernel
theorem dX1_begin_103 : decode cX1_begin 103 = .ok (.return_, 1) := by decide +kernel
def bX1_begin_43 (o : Nat)  (r43 : Int32 → Int32 → Hp → Option (Hp)) (x1 : Int32) (x2 : Int32) (h : Hp) : Option (Hp) := (if (h.1 108 9) ≤ x2 then lt (wI h o 10 0) (fun h1 => lt (wI h1 o 11 0) (fun h2 => lt (wI h2 o 12 0) (fun h3 => lt (wI h3 o 13 0) (fun h4 => ck (zb x1) (lt (wI h4 o 14 x1) (fun h5 => some h5)))))) else ck (inb x2 10) (ck (inb x2 10) (lt (wI h (o + 3) (ix x2) (h.1 (115 + ix x2) 3)) (fun h7 => lt (x2 + 1) (fun v8 => r43 x1 v8 h7)))))
def lX1_begin_43 (o : Nat)  : Nat → Int32 → Int32 → Hp → Option (Hp)
  | 0 => fun _ _ _ => none
  | n + 1 => bX1_begin_43 o  (lX1_begin_43 o  n)
set_option maxRecDepth 20000 in
theorem BX1_begin_43 {Z : ZT} {G : GT} {hr : Hp} (X : CX Z G cX1_begin RX1 3 1) (E : RX Z G none (none) hr) (o : Nat) (ho : isC o) (hz : HZ Z)  (r43 : Int32 → Int32 → Hp → Option (Hp)) (hr43 : ∀ (x1 : Int32) (x2 : Int32) (h : Hp), r43 x1 x2 h = some hr → J Z G 3 h 43 [(0, .ref (Z.2.1 o)), (1, .int x1), (2, .int x2)] []) (x1 : Int32) (x2 : Int32) (h : Hp) (hF : bX1_begin_43 o  r43 x1 x2 h = some hr) : J Z G 3 h 43 [(0, .ref (Z.2.1 o)), (1, .int x1), (2, .int x2)] [] := by
  unfold bX1_begin_43 at hF
  refine j_iload_n (pc := 43) 2 X dX1_begin_43 rfl ?_
  refine j_aload_n (pc := 44) 0 X dX1_begin_44 rfl ?_
  refine j_getr (pc := 45) X dX1_begin_45 (hz _ (shC ho)) fl_X1_33 rfl ?_
  refine j_geti (pc := 48) X dX1_begin_48 (hz _ sh_108) fl_X1_51 rfl ?_
  refine j_icmp_ge (pc := 51) 78 X dX1_begin_51 rfl hF (fun hF => ?_) (fun hF => ?_)
  · refine j_aload_n (pc := 78) 0 X dX1_begin_78 rfl ?_
    refine j_iconst (pc := 79) 0 X dX1_begin_79 rfl ?_
    refine j_puti (pc := 80) X dX1_begin_80 (hz _ (shC ho)) fp_X1_66 rfl hF (fun h1 hF => ?_)
    refine j_aload_n (pc := 83) 0 X dX1_begin_83 rfl ?_
    refine j_iconst (pc := 84) 0 X dX1_begin_84 rfl ?_
    refine j_puti (pc := 85) X dX1_begin_85 (hz _ (shC ho)) fp_X1_69 rfl hF (fun h2 hF => ?_)
    refine j_aload_n (pc := 88) 0 X dX1_begin_88 rfl ?_
    refine j_iconst (pc := 89) 0 X dX1_begin_89 rfl ?_
    refine j_puti (pc := 90) X dX1_begin_90 (hz _ (shC ho)) fp_X1_72 rfl hF (fun h3 hF => ?_)
    refine j_aload_n (pc := 93) 0 X dX1_begin_93 rfl ?_
    refine j_iconst (pc := 94) 0 X dX1_begin_94 rfl ?_
    refine j_puti (pc := 95) X dX1_begin_95 (hz _ (shC ho)) fp_X1_75 rfl hF (fun h4 hF => ?_)
    refine j_aload_n (pc := 98) 0 X dX1_begin_98 rfl ?_
    refine j_iload_n (pc := 99) 1 X dX1_begin_99 rfl ?_
    refine j_putz (pc := 100) X dX1_begin_100 (hz _ (shC ho)) fp_X1_78 rfl hF (fun h5 hF => ?_)
    exact j_vret (pc := 103) X E dX1_begin_103 hF
  · refine j_aload_n (pc := 54) 0 X dX1_begin_54 rfl ?_
    refine j_getr (pc := 55) X dX1_begin_55 (hz _ (shC ho)) fl_X1_18 rfl ?_
    refine j_iload_n (pc := 58) 2 X dX1_begin_58 rfl ?_
    refine j_aload_n (pc := 59) 0 X dX1_begin_59 rfl ?_
    refine j_getr (pc := 60) X dX1_begin_60 (hz _ (shC ho)) fl_X1_33 rfl ?_
    refine j_getr (pc := 63) X dX1_begin_63 (hz _ sh_108) fl_X1_57 rfl ?_
    refine j_iload_n (pc := 66) 2 X dX1_begin_66 rfl ?_
    refine j_aald (pc := 67) (g := fun j => 115 + j) (C := "AfterOffice$Letter") X dX1_begin_67 (hz _ sh_111) (fun _ => rfl) rfl al_111 hF (fun hb6 hF => ?_)
    refine j_geti (pc := 68) X dX1_begin_68 (hz _ (shL (is_111 hb6))) fl_X1_61 rfl ?_
    refine j_iast (pc := 71) X dX1_begin_71 (hz _ (shC_3 ho)) hF (fun h7 hF => ?_)
    refine j_iinc (pc := 72) 2 (x2 + 1) (fun y => [(2, .int y), (0, .ref (Z.2.1 o)), (1, .int x1)]) X dX1_begin_72 rfl rfl (by decide) (fun _ => rfl) hF (fun v8 hF => ?_)
    refine j_goto (pc := 75) 43 X dX1_begin_75 rfl ?_
    refine j_lv [(0, .ref (Z.2.1 o)), (1, .int x1), (2, .int v8)] [1, 2, 0] rfl ?_
    exact hr43 x1 v8 h7 hF
theorem LX1_begin_43 {Z : ZT} {G : GT} {hr : Hp} (X : CX Z G cX1_begin RX1 3 1) (E : RX Z G none (none) hr) (o : Nat) (ho : isC o) (hz : HZ Z)  : ∀ (n : Nat) (x1 : Int32) (x2 : Int32) (h : Hp), lX1_begin_43 o  n x1 x2 h = some hr → J Z G 3 h 43 [(0, .ref (Z.2.1 o)), (1, .int x1), (2, .int x2)] [] := by
  intro n
  induction n with
  | zero => intro x1 x2 h hF; cases hF
  | succ n ih => intro x1 x2 h hF; exact BX1_begin_43 X E o ho hz  (lX1_begin_43 o  n) ih x1 x2 h hF
def fX1_begin (o : Nat) (a1 : Int32) (h : Hp) : Option (Hp) := bv (fJ7_fill_53178 (o + 1) 10 0 h) (fun h1 => bv (fJ7_fill_53178 (o + 2) 10 (-2) h1) (fun h2 => bv (fJ7_fill_53178 (o + 4) 10 0 h2) (fun h3 => bv (fJ7_fill_53178 (o + 6) 10 0 h3) (fun h4 => bv (fJ7_fill_53178 (o + 7) 60 0 h4) (fun h5 => lt 0 (fun v6 => lX1_begin_43 o FU a1 v6 h5))))))
set_option maxRecDepth 20000 in
theorem tX1_begin (Z : ZT) (o : Nat) (ho : isC o) (a1 : Int32) (hz : HZ Z) (h : Hp) (hr : Hp) (hF : fX1_begin o a1 h = some hr) : MC Z yX1_begin cX1_begin 3 none 1 [.ref (Z.2.1 o), .int a1] h (none) hr := by
  unfold fX1_begin at hF
  refine mc_start (by decide) (Nat.le_of_ble_eq_true rfl) (fun G X E => ?_)
  refine j_aload_n (pc := 0) 0 X dX1_begin_0 rfl ?_
  refine j_getr (pc := 1) X dX1_begin_1 (hz _ (shC ho)) fl_X1_9 rfl ?_
  refine j_iconst (pc := 4) 0 X dX1_begin_4 rfl ?_
  refine j_cSv (pc := 5) (As := [.ref (Z.2.1 (o + 1)), .int 0]) (rest := []) X dX1_begin_5 ml_X1_45 ck_J7_fill_53178 sk_J7_fill_53178 (Nat.le_of_ble_eq_true rfl) rfl (Nat.le_of_ble_eq_true rfl) rfl hF (tJ7_fill_53178 Z (o + 1) 10 (hz _ (shC_1 ho)) 0 trivial h) (fun h1 hF => ?_)
  refine j_aload_n (pc := 8) 0 X dX1_begin_8 rfl ?_
  refine j_getr (pc := 9) X dX1_begin_9 (hz _ (shC ho)) fl_X1_15 rfl ?_
  refine j_bipush (pc := 12) (-2) X dX1_begin_12 rfl ?_
  refine j_cSv (pc := 14) (As := [.ref (Z.2.1 (o + 2)), .int (-2)]) (rest := []) X dX1_begin_14 ml_X1_45 ck_J7_fill_53178 sk_J7_fill_53178 (Nat.le_of_ble_eq_true rfl) rfl (Nat.le_of_ble_eq_true rfl) rfl hF (tJ7_fill_53178 Z (o + 2) 10 (hz _ (shC_2 ho)) (-2) trivial h1) (fun h2 hF => ?_)
  refine j_aload_n (pc := 17) 0 X dX1_begin_17 rfl ?_
  refine j_getr (pc := 18) X dX1_begin_18 (hz _ (shC ho)) fl_X1_21 rfl ?_
  refine j_iconst (pc := 21) 0 X dX1_begin_21 rfl ?_
  refine j_cSv (pc := 22) (As := [.ref (Z.2.1 (o + 4)), .int 0]) (rest := []) X dX1_begin_22 ml_X1_45 ck_J7_fill_53178 sk_J7_fill_53178 (Nat.le_of_ble_eq_true rfl) rfl (Nat.le_of_ble_eq_true rfl) rfl hF (tJ7_fill_53178 Z (o + 4) 10 (hz _ (shC_4 ho)) 0 trivial h2) (fun h3 hF => ?_)
  refine j_aload_n (pc := 25) 0 X dX1_begin_25 rfl ?_
  refine j_getr (pc := 26) X dX1_begin_26 (hz _ (shC ho)) fl_X1_27 rfl ?_
  refine j_iconst (pc := 29) 0 X dX1_begin_29 rfl ?_
  refine j_cSv (pc := 30) (As := [.ref (Z.2.1 (o + 6)), .int 0]) (rest := []) X dX1_begin_30 ml_X1_45 ck_J7_fill_53178 sk_J7_fill_53178 (Nat.le_of_ble_eq_true rfl) rfl (Nat.le_of_ble_eq_true rfl) rfl hF (tJ7_fill_53178 Z (o + 6) 10 (hz _ (shC_6 ho)) 0 trivial h3) (fun h4 hF => ?_)
  refine j_aload_n (pc := 33) 0 X dX1_begin_33 rfl ?_
  refine j_getr (pc := 34) X dX1_begin_34 (hz _ (shC ho)) fl_X1_30 rfl ?_
  refine j_iconst (pc := 37) 0 X dX1_begin_37 rfl ?_
  refine j_cSv (pc := 38) (As := [.ref (Z.2.1 (o + 7)), .int 0]) (rest := []) X dX1_begin_38 ml_X1_45 ck_J7_fill_53178 sk_J7_fill_53178 (Nat.le_of_ble_eq_true rfl) rfl (Nat.le_of_ble_eq_true rfl) rfl hF (tJ7_fill_53178 Z (o + 7) 60 (hz _ (shC_7 ho)) 0 trivial h4) (fun h5 hF => ?_)
  refine j_iconst (pc := 41) 0 X dX1_begin_41 rfl ?_
  refine j_istore_n (pc := 42) (fun y => [(2, .int y), (0, .ref (Z.2.1 o)), (1, .int a1)]) X dX1_begin_42 (by decide) (fun _ => rfl) hF (fun v6 hF => ?_)
  refine j_lv [(0, .ref (Z.2.1 o)), (1, .int a1), (2, .int v6)] [1, 2, 0] rfl ?_
  exact LX1_begin_43 X E o ho hz FU a1 v6 h5 hF
theorem dX1_become_0 : decode cX1_become 0 = .ok (.aload_n 1, 1) := by decide +kernel
theorem dX1_become_1 : decode cX1_become 1 = .ok (.getfield 9, 3) := by decide +kernel
theorem dX1_become_4 : decode cX1_become 4 = .ok (.iconst 0, 1) := by decide +kernel
theorem dX1_become_5 : decode cX1_become 5 = .ok (.aload_n 0, 1) := by decide +kernel
theorem dX1_become_6 : decode cX1_become 6 = .ok (.getfield 9, 3) := by decide +kernel
theorem dX1_become_9 : decode cX1_become 9 = .ok (.iconst 0, 1) := by decide +kernel
theorem dX1_become_10 : decode cX1_become 10 = .ok (.bipush 10, 2) := by decide +kernel
theorem dX1_become_12 : decode cX1_become 12 = .ok (.invokestatic 82, 3) := by decide +kernel
theorem dX1_become_15 : decode cX1_become 15 = .ok (.aload_n 1, 1) := by decide +kernel
theorem dX1_become_16 : decode cX1_become 16 = .ok (.getfield 15, 3) := by decide +kernel
theorem dX1_become_19 : decode cX1_become 19 = .ok (.iconst 0, 1) := by decide +kernel
theorem dX1_become_20 : decode cX1_become 20 = .ok (.aload_n 0, 1) := by decide +kernel
theorem dX1_become_21 : decode cX1_become 21 = .ok (.getfield 15, 3) := by decide +kernel
theorem dX1_become_24 : decode cX1_become 24 = .ok (.iconst 0, 1) := by decide +kernel
theorem dX1_become_25 : decode cX1_become 25 = .ok (.bipush 10, 2) := by decide +kernel
theorem dX1_become_27 : decode cX1_become 27 = .ok (.invokestatic 82, 3) := by decide +kernel
theorem dX1_become_30 : decode cX1_become 30 = .ok (.aload_n 1, 1) := by decide +kernel
theorem dX1_become_31 : decode cX1_become 31 = .ok (.getfield 18, 3) := by decide +kernel
theorem dX1_become_34 : decode cX1_become 34 = .ok (.iconst 0, 1) := by decide +kernel
theorem dX1_become_35 : decode cX1_become 35 = .ok (.aload_n 0, 1) := by decide +kernel
theorem dX1_become_36 : decode cX1_become 36 = .ok (.getfield 18, 3) := by decide +kernel
theorem dX1_become_39 : decode cX1_become 39 = .ok (.iconst 0, 1) := by decide +kernel
theorem dX1_become_40 : decode cX1_become 40 = .ok (.bipush 10, 2) := by decide +kernel
theorem dX1_become_42 : decode cX1_become 42 = .ok (.invokestatic 82, 3) := by decide +kernel
theorem dX1_become_45 : decode cX1_become 45 = .ok (.aload_n 1, 1) := by decide +kernel
theorem dX1_become_46 : decode cX1_become 46 = .ok (.getfield 21, 3) := by decide +kernel
theorem dX1_become_49 : decode cX1_become 49 = .ok (.iconst 0, 1) := by decide +kernel
theorem dX1_become_50 : decode cX1_become 50 = .ok (.aload_n 0, 1) := by decide +kernel
theorem dX1_become_51 : decode cX1_become 51 = .ok (.getfield 21, 3) := by decide +kernel
theorem dX1_become_54 : decode cX1_become 54 = .ok (.iconst 0, 1) := by decide +kernel
theorem dX1_become_55 : decode cX1_become 55 = .ok (.bipush 10, 2) := by decide +kernel
theorem dX1_become_57 : decode cX1_become 57 = .ok (.invokestatic 82, 3) := by decide +kernel
theorem dX1_become_60 : decode cX1_become 60 = .ok (.aload_n 1, 1) := by decide +kernel
theorem dX1_become_61 : decode cX1_become 61 = .ok (.getfield 24, 3) := by decide +kernel
theorem dX1_become_64 : decode cX1_become 64 = .ok (.iconst 0, 1) := by decide +kernel
theorem dX1_become_65 : decode cX1_become 65 = .ok (.aload_n 0, 1) := by decide +kernel
theorem dX1_become_66 : decode cX1_become 66 = .ok (.getfield 24, 3) := by decide +kernel
theorem dX1_become_69 : decode cX1_become 69 = .ok (.iconst 0, 1) := by decide +kernel
theorem dX1_become_70 : decode cX1_become 70 = .ok (.bipush 10, 2) := by decide +kernel
theorem dX1_become_72 : decode cX1_become 72 = .ok (.invokestatic 82, 3) := by decide +kernel
theorem dX1_become_75 : decode cX1_become 75 = .ok (.aload_n 1, 1) := by decide +kernel
theorem dX1_become_76 : decode cX1_become 76 = .ok (.getfield 27, 3) := by decide +kernel
theorem dX1_become_79 : decode cX1_become 79 = .ok (.iconst 0, 1) := by decide +kernel
theorem dX1_become_80 : decode cX1_become 80 = .ok (.aload_n 0, 1) := by decide +kernel
theorem dX1_become_81 : decode cX1_become 81 = .ok (.getfield 27, 3) := by decide +kernel
theorem dX1_become_84 : decode cX1_become 84 = .ok (.iconst 0, 1) := by decide +kernel
theorem dX1_become_85 : decode cX1_become 85 = .ok (.bipush 10, 2) := by decide +kernel
theorem dX1_become_87 : decode cX1_become 87 = .ok (.invokestatic 82, 3) := by decide +kernel
theorem dX1_become_90 : decode cX1_become 90 = .ok (.aload_n 1, 1) := by decide +kernel
theorem dX1_become_91 : decode cX1_become 91 = .ok (.getfield 30, 3) := by decide +kernel
theorem dX1_become_94 : decode cX1_become 94 = .ok (.iconst 0, 1) := by decide +kernel
theorem dX1_become_95 : decode cX1_become 95 = .ok (.aload_n 0, 1) := by decide +kernel
theorem dX1_become_96 : decode cX1_become 96 = .ok (.getfield 30, 3) := by decide +kernel
theorem dX1_become_99 : decode cX1_become 99 = .ok (.iconst 0, 1) := by decide +kernel
theorem dX1_become_100 : decode cX1_become 100 = .ok (.bipush 60, 2) := by decide +kernel
theorem dX1_become_102 : decode cX1_become 102 = .ok (.invokestatic 82, 3) := by decide +kernel
theorem dX1_become_105 : decode cX1_become 105 = .ok (.aload_n 0, 1) := by decide +kernel
theorem dX1_become_106 : decode cX1_become 106 = .ok (.aload_n 1, 1) := by decide +kernel
theorem dX1_become_107 : decode cX1_become 107 = .ok (.getfield 66, 3) := by decide +kernel
theorem dX1_become_110 : decode cX1_become 110 = .ok (.putfield 66, 3) := by decide +kernel
theorem dX1_become_113 : decode cX1_become 113 = .ok (.aload_n 0, 1) := by decide +kernel
theorem dX1_become_114 : decode cX1_become 114 = .ok (.aload_n 1, 1) := by decide +kernel
theorem dX1_become_115 : decode cX1_become 115 = .ok (.getfield 69, 3) := by decide +kernel
theorem dX1_become_118 : decode cX1_become 118 = .ok (.putfield 69, 3) := by decide +kernel
theorem dX1_become_121 : decode cX1_become 121 = .ok (.aload_n 0, 1) := by decide +kernel
theorem dX1_become_122 : decode cX1_become 122 = .ok (.aload_n 1, 1) := by decide +kernel
theorem dX1_become_123 : decode cX1_become 123 = .ok (.getfield 72, 3) := by decide +kernel
theorem dX1_become_126 : decode cX1_become 126 = .ok (.putfield 72, 3) := by decide +kernel
theorem dX1_become_129 : decode cX1_become 129 = .ok (.aload_n 0, 1) := by decide +kernel
theorem dX1_become_130 : decode cX1_become 130 = .ok (.aload_n 1, 1) := by decide +kernel
theorem dX1_become_131 : decode cX1_become 131 = .ok (.getfield 75, 3) := by decide +kernel
theorem dX1_become_134 : decode cX1_become 134 = .ok (.putfield 75, 3) := by decide +kernel
theorem dX1_become_137 : decode cX1_become 137 = .ok (.aload_n 0, 1) := by decide +kernel
theorem dX1_become_138 : decode cX1_become 138 = .ok (.aload_n 1, 1) := by decide +kernel
theorem dX1_become_139 : decode cX1_become 139 = .ok (.getfield 78, 3) := by decide +kernel
theorem dX1_become_142 : decode cX1_become 142 = .ok (.putfield 78, 3) := by decide +kernel
theorem dX1_become_145 : decode cX1_become 145 = .ok (.return_, 1) := by decide +kernel
def fX1_become (o : Nat) (u1 : Nat) (h : Hp) : Option (Hp) := ck (cpb 0 0 10 10 10) (lt (cpI h (u1 + 1) (o + 1) (ix 0) (ix 0) (ix 10)) (fun h1 => ck (cpb 0 0 10 10 10) (lt (cpI h1 (u1 + 2) (o + 2) (ix 0) (ix 0) (ix 10)) (fun h2 => ck (cpb 0 0 10 10 10) (lt (cpI h2 (u1 + 3) (o + 3) (ix 0) (ix 0) (ix 10)) (fun h3 => ck (cpb 0 0 10 10 10) (lt (cpI h3 (u1 + 4) (o + 4) (ix 0) (ix 0) (ix 10)) (fun h4 => ck (cpb 0 0 10 10 10) (lt (cpI h4 (u1 + 5) (o + 5) (ix 0) (ix 0) (ix 10)) (fun h5 => ck (cpb 0 0 10 10 10) (lt (cpI h5 (u1 + 6) (o + 6) (ix 0) (ix 0) (ix 10)) (fun h6 => ck (cpb 0 0 60 60 60) (lt (cpI h6 (u1 + 7) (o + 7) (ix 0) (ix 0) (ix 60)) (fun h7 => lt (wI h7 o 10 (h7.1 u1 10)) (fun h8 => lt (wI h8 o 11 (h8.1 u1 11)) (fun h9 => lt (wI h9 o 12 (h9.1 u1 12)) (fun h10 => lt (wI h10 o 13 (h10.1 u1 13)) (fun h11 => ck (zb (h11.1 u1 14)) (lt (wI h11 o 14 (h11.1 u1 14)) (fun h12 => some h12))))))))))))))))))))
set_option maxRecDepth 20000 in
theorem tX1_become (Z : ZT) (o : Nat) (ho : isC o) (u1 : Nat) (hu1 : isC u1) (hz : HZ Z) (h : Hp) (hr : Hp) (hF : fX1_become o u1 h = some hr) : MC Z yX1_become cX1_become 2 none 1 [.ref (Z.2.1 o), .ref (Z.2.1 u1)] h (none) hr := by
  unfold fX1_become at hF
  refine mc_start (by decide) (Nat.le_of_ble_eq_true rfl) (fun G X E => ?_)
  refine j_aload_n (pc := 0) 1 X dX1_become_0 rfl ?_
  refine j_getr (pc := 1) X dX1_become_1 (hz _ (shC hu1)) fl_X1_9 rfl ?_
  refine j_iconst (pc := 4) 0 X dX1_become_4 rfl ?_
  refine j_aload_n (pc := 5) 0 X dX1_become_5 rfl ?_
  refine j_getr (pc := 6) X dX1_become_6 (hz _ (shC ho)) fl_X1_9 rfl ?_
  refine j_iconst (pc := 9) 0 X dX1_become_9 rfl ?_
  refine j_bipush (pc := 10) 10 X dX1_become_10 rfl ?_
  refine j_acp (pc := 12) X dX1_become_12 ml_X1_82 ac_nat ac_stat ac_ini (Nat.le_of_ble_eq_true rfl) (hz _ (shC_1 hu1)) (hz _ (shC_1 ho)) (Nat.le_of_ble_eq_true rfl) hF (fun h1 hF => ?_)
  refine j_aload_n (pc := 15) 1 X dX1_become_15 rfl ?_
  refine j_getr (pc := 16) X dX1_become_16 (hz _ (shC hu1)) fl_X1_15 rfl ?_
  refine j_iconst (pc := 19) 0 X dX1_become_19 rfl ?_
  refine j_aload_n (pc := 20) 0 X dX1_become_20 rfl ?_
  refine j_getr (pc := 21) X dX1_become_21 (hz _ (shC ho)) fl_X1_15 rfl ?_
  refine j_iconst (pc := 24) 0 X dX1_become_24 rfl ?_
  refine j_bipush (pc := 25) 10 X dX1_become_25 rfl ?_
  refine j_acp (pc := 27) X dX1_become_27 ml_X1_82 ac_nat ac_stat ac_ini (Nat.le_of_ble_eq_true rfl) (hz _ (shC_2 hu1)) (hz _ (shC_2 ho)) (Nat.le_of_ble_eq_true rfl) hF (fun h2 hF => ?_)
  refine j_aload_n (pc := 30) 1 X dX1_become_30 rfl ?_
  refine j_getr (pc := 31) X dX1_become_31 (hz _ (shC hu1)) fl_X1_18 rfl ?_
  refine j_iconst (pc := 34) 0 X dX1_become_34 rfl ?_
  refine j_aload_n (pc := 35) 0 X dX1_become_35 rfl ?_
  refine j_getr (pc := 36) X dX1_become_36 (hz _ (shC ho)) fl_X1_18 rfl ?_
  refine j_iconst (pc := 39) 0 X dX1_become_39 rfl ?_
  refine j_bipush (pc := 40) 10 X dX1_become_40 rfl ?_
  refine j_acp (pc := 42) X dX1_become_42 ml_X1_82 ac_nat ac_stat ac_ini (Nat.le_of_ble_eq_true rfl) (hz _ (shC_3 hu1)) (hz _ (shC_3 ho)) (Nat.le_of_ble_eq_true rfl) hF (fun h3 hF => ?_)
  refine j_aload_n (pc := 45) 1 X dX1_become_45 rfl ?_
  refine j_getr (pc := 46) X dX1_become_46 (hz _ (shC hu1)) fl_X1_21 rfl ?_
  refine j_iconst (pc := 49) 0 X dX1_become_49 rfl ?_
  refine j_aload_n (pc := 50) 0 X dX1_become_50 rfl ?_
  refine j_getr (pc := 51) X dX1_become_51 (hz _ (shC ho)) fl_X1_21 rfl ?_
  refine j_iconst (pc := 54) 0 X dX1_become_54 rfl ?_
  refine j_bipush (pc := 55) 10 X dX1_become_55 rfl ?_
  refine j_acp (pc := 57) X dX1_become_57 ml_X1_82 ac_nat ac_stat ac_ini (Nat.le_of_ble_eq_true rfl) (hz _ (shC_4 hu1)) (hz _ (shC_4 ho)) (Nat.le_of_ble_eq_true rfl) hF (fun h4 hF => ?_)
  refine j_aload_n (pc := 60) 1 X dX1_become_60 rfl ?_
  refine j_getr (pc := 61) X dX1_become_61 (hz _ (shC hu1)) fl_X1_24 rfl ?_
  refine j_iconst (pc := 64) 0 X dX1_become_64 rfl ?_
  refine j_aload_n (pc := 65) 0 X dX1_become_65 rfl ?_
  refine j_getr (pc := 66) X dX1_become_66 (hz _ (shC ho)) fl_X1_24 rfl ?_
  refine j_iconst (pc := 69) 0 X dX1_become_69 rfl ?_
  refine j_bipush (pc := 70) 10 X dX1_become_70 rfl ?_
  refine j_acp (pc := 72) X dX1_become_72 ml_X1_82 ac_nat ac_stat ac_ini (Nat.le_of_ble_eq_true rfl) (hz _ (shC_5 hu1)) (hz _ (shC_5 ho)) (Nat.le_of_ble_eq_true rfl) hF (fun h5 hF => ?_)
  refine j_aload_n (pc := 75) 1 X dX1_become_75 rfl ?_
  refine j_getr (pc := 76) X dX1_become_76 (hz _ (shC hu1)) fl_X1_27 rfl ?_
  refine j_iconst (pc := 79) 0 X dX1_become_79 rfl ?_
  refine j_aload_n (pc := 80) 0 X dX1_become_80 rfl ?_
  refine j_getr (pc := 81) X dX1_become_81 (hz _ (shC ho)) fl_X1_27 rfl ?_
  refine j_iconst (pc := 84) 0 X dX1_become_84 rfl ?_
  refine j_bipush (pc := 85) 10 X dX1_become_85 rfl ?_
  refine j_acp (pc := 87) X dX1_become_87 ml_X1_82 ac_nat ac_stat ac_ini (Nat.le_of_ble_eq_true rfl) (hz _ (shC_6 hu1)) (hz _ (shC_6 ho)) (Nat.le_of_ble_eq_true rfl) hF (fun h6 hF => ?_)
  refine j_aload_n (pc := 90) 1 X dX1_become_90 rfl ?_
  refine j_getr (pc := 91) X dX1_become_91 (hz _ (shC hu1)) fl_X1_30 rfl ?_
  refine j_iconst (pc := 94) 0 X dX1_become_94 rfl ?_
  refine j_aload_n (pc := 95) 0 X dX1_become_95 rfl ?_
  refine j_getr (pc := 96) X dX1_become_96 (hz _ (shC ho)) fl_X1_30 rfl ?_
  refine j_iconst (pc := 99) 0 X dX1_become_99 rfl ?_
  refine j_bipush (pc := 100) 60 X dX1_become_100 rfl ?_
  refine j_acp (pc := 102) X dX1_become_102 ml_X1_82 ac_nat ac_stat ac_ini (Nat.le_of_ble_eq_true rfl) (hz _ (shC_7 hu1)) (hz _ (shC_7 ho)) (Nat.le_of_ble_eq_true rfl) hF (fun h7 hF => ?_)
  refine j_aload_n (pc := 105) 0 X dX1_become_105 rfl ?_
  refine j_aload_n (pc := 106) 1 X dX1_become_106 rfl ?_
  refine j_geti (pc := 107) X dX1_become_107 (hz _ (shC hu1)) fl_X1_66 rfl ?_
  refine j_puti (pc := 110) X dX1_become_110 (hz _ (shC ho)) fp_X1_66 rfl hF (fun h8 hF => ?_)
  refine j_aload_n (pc := 113) 0 X dX1_become_113 rfl ?_
  refine j_aload_n (pc := 114) 1 X dX1_become_114 rfl ?_
  refine j_geti (pc := 115) X dX1_become_115 (hz _ (shC hu1)) fl_X1_69 rfl ?_
  refine j_puti (pc := 118) X dX1_become_118 (hz _ (shC ho)) fp_X1_69 rfl hF (fun h9 hF => ?_)
  refine j_aload_n (pc := 121) 0 X dX1_become_121 rfl ?_
  refine j_aload_n (pc := 122) 1 X dX1_become_122 rfl ?_
  refine j_geti (pc := 123) X dX1_become_123 (hz _ (shC hu1)) fl_X1_72 rfl ?_
  refine j_puti (pc := 126) X dX1_become_126 (hz _ (shC ho)) fp_X1_72 rfl hF (fun h10 hF => ?_)
  refine j_aload_n (pc := 129) 0 X dX1_become_129 rfl ?_
  refine j_aload_n (pc := 130) 1 X dX1_become_130 rfl ?_
  refine j_geti (pc := 131) X dX1_become_131 (hz _ (shC hu1)) fl_X1_75 rfl ?_
  refine j_puti (pc := 134) X dX1_become_134 (hz _ (shC ho)) fp_X1_75 rfl hF (fun h11 hF => ?_)
  refine j_aload_n (pc := 137) 0 X dX1_become_137 rfl ?_
  refine j_aload_n (pc := 138) 1 X dX1_become_138 rfl ?_
  refine j_geti (pc := 139) X dX1_become_139 (hz _ (shC hu1)) fl_X1_78 rfl ?_
  refine j_putz (pc := 142) X dX1_become_142 (hz _ (shC ho)) fp_X1_78 rfl hF (fun h12 hF => ?_)
  exact j_vret (pc := 145) X E dX1_become_145 hF
theorem dX1_endAs_0 : decode cX1_endAs 0 = .ok (.aload_n 0, 1) := by decide +kernel
theorem dX1_endAs_1 : decode cX1_endAs 1 = .ok (.getfield 9, 3) := by decide +kernel
theorem dX1_endAs_4 : decode cX1_endAs 4 = .ok (.iload_n 2, 1) := by decide +kernel
theorem dX1_endAs_5 : decode cX1_endAs 5 = .ok (.iload_n 1, 1) := by decide +kernel
theorem dX1_endAs_6 : decode cX1_endAs 6 = .ok (.iastore, 1) := by decide +kernel
theorem dX1_endAs_7 : decode cX1_endAs 7 = .ok (.aload_n 0, 1) := by decide +kernel
theorem dX1_endAs_8 : decode cX1_endAs 8 = .ok (.getfield 15, 3) := by decide +kernel
theorem dX1_endAs_11 : decode cX1_endAs 11 = .ok (.iload_n 2, 1) := by decide +kernel
theorem dX1_endAs_12 : decode cX1_endAs 12 = .ok (.iload_n 3, 1) := by decide +kernel
theorem dX1_endAs_13 : decode cX1_endAs 13 = .ok (.iastore, 1) := by decide +kernel
theorem dX1_endAs_14 : decode cX1_endAs 14 = .ok (.return_, 1) := by decide +kernel
def fX1_endAs (o : Nat) (a1 : Int32) (a2 : Int32) (a3 : Int32) (h : Hp) : Option (Hp) := ck (inb a2 10) (lt (wI h (o + 1) (ix a2) a1) (fun h1 => ck (inb a2 10) (lt (wI h1 (o + 2) (ix a2) a3) (fun h2 => some h2))))
set_option maxRecDepth 20000 in
theorem tX1_endAs (Z : ZT) (o : Nat) (ho : isC o) (a1 : Int32) (a2 : Int32) (a3 : Int32) (hz : HZ Z) (h : Hp) (hr : Hp) (hF : fX1_endAs o a1 a2 a3 h = some hr) : MC Z yX1_endAs cX1_endAs 4 none 0 [.ref (Z.2.1 o), .int a1, .int a2, .int a3] h (none) hr := by
  unfold fX1_endAs at hF
  refine mc_start (by decide) (Nat.le_of_ble_eq_true rfl) (fun G X E => ?_)
  refine j_aload_n (pc := 0) 0 X dX1_endAs_0 rfl ?_
  refine j_getr (pc := 1) X dX1_endAs_1 (hz _ (shC ho)) fl_X1_9 rfl ?_
  refine j_iload_n (pc := 4) 2 X dX1_endAs_4 rfl ?_
  refine j_iload_n (pc := 5) 1 X dX1_endAs_5 rfl ?_
  refine j_iast (pc := 6) X dX1_endAs_6 (hz _ (shC_1 ho)) hF (fun h1 hF => ?_)
  refine j_aload_n (pc := 7) 0 X dX1_endAs_7 rfl ?_
  refine j_getr (pc := 8) X dX1_endAs_8 (hz _ (shC ho)) fl_X1_15 rfl ?_
  refine j_iload_n (pc := 11) 2 X dX1_endAs_11 rfl ?_
  refine j_iload_n (pc := 12) 3 X dX1_endAs_12 rfl ?_
  refine j_iast (pc := 13) X dX1_endAs_13 (hz _ (shC_2 ho)) hF (fun h2 hF => ?_)
  exact j_vret (pc := 14) X E dX1_endAs_14 hF
theorem dX6_valueOf_0 : decode cX6_valueOf 0 = .ok (.iload_n 1, 1) := by decide +kernel
theorem dX6_valueOf_1 : decode cX6_valueOf 1 = .ok (.lookupswitch 55 #[(3, 35), (28, 37), (29, 46)], 35) := by decide +kernel
theorem dX6_valueOf_36 : decode cX6_valueOf 36 = .ok (.iload_n 2, 1) := by decide +kernel
theorem dX6_valueOf_37 : decode cX6_valueOf 37 = .ok (.ireturn, 1) := by decide +kernel
theorem dX6_valueOf_38 : decode cX6_valueOf 38 = .ok (.aload_n 0, 1) := by decide +kernel
theorem dX6_valueOf_39 : decode cX6_valueOf 39 = .ok (.getfield 66, 3) := by decide +kernel
theorem dX6_valueOf_42 : decode cX6_valueOf 42 = .ok (.iload_n 2, 1) := by decide +kernel
theorem dX6_valueOf_43 : decode cX6_valueOf 43 = .ok (.ishr, 1) := by decide +kernel
theorem dX6_valueOf_44 : decode cX6_valueOf 44 = .ok (.iconst 1, 1) := by decide +kernel
theorem dX6_valueOf_45 : decode cX6_valueOf 45 = .ok (.iand, 1) := by decide +kernel
theorem dX6_valueOf_46 : decode cX6_valueOf 46 = .ok (.ireturn, 1) := by decide +kernel
theorem dX6_valueOf_47 : decode cX6_valueOf 47 = .ok (.aload_n 0, 1) := by decide +kernel
theorem dX6_valueOf_48 : decode cX6_valueOf 48 = .ok (.getfield 69, 3) := by decide +kernel
theorem dX6_valueOf_51 : decode cX6_valueOf 51 = .ok (.iload_n 2, 1) := by decide +kernel
theorem dX6_valueOf_52 : decode cX6_valueOf 52 = .ok (.ishr, 1) := by decide +kernel
theorem dX6_valueOf_53 : decode cX6_valueOf 53 = .ok (.iconst 1, 1) := by decide +kernel
theorem dX6_valueOf_54 : decode cX6_valueOf 54 = .ok (.iand, 1) := by decide +kernel
theorem dX6_valueOf_55 : decode cX6_valueOf 55 = .ok (.ireturn, 1) := by decide +kernel
theorem dX6_valueOf_56 : decode cX6_valueOf 56 = .ok (.iload_n 1, 1) := by decide +kernel
theorem dX6_valueOf_57 : decode cX6_valueOf 57 = .ok (.bipush 30, 2) := by decide +kernel
theorem dX6_valueOf_59 : decode cX6_valueOf 59 = .ok (.if_icmp .lt 21, 3) := by decide +kernel
theorem dX6_valueOf_62 : decode cX6_valueOf 62 = .ok (.iload_n 1, 1) := by decide +kernel
theorem dX6_valueOf_63 : decode cX6_valueOf 63 = .ok (.bipush 33, 2) := by decide +kernel
theorem dX6_valueOf_65 : decode cX6_valueOf 65 = .ok (.if_icmp .gt 15, 3) := by decide +kernel
theorem dX6_valueOf_68 : decode cX6_valueOf 68 = .ok (.aload_n 0, 1) := by decide +kernel
theorem dX6_valueOf_69 : decode cX6_valueOf 69 = .ok (.getfield 15, 3) := by decide +kernel
theorem dX6_valueOf_72 : decode cX6_valueOf 72 = .ok (.iload_n 1, 1) := by decide +kernel
theorem dX6_valueOf_73 : decode cX6_valueOf 73 = .ok (.bipush 30, 2) := by decide +kernel
theorem dX6_valueOf_75 : decode cX6_valueOf 75 = .ok (.isub, 1) := by decide +kernel
theorem dX6_valueOf_76 : decode cX6_valueOf 76 = .ok (.iaload, 1) := by decide +kernel
theorem dX6_valueOf_77 : decode cX6_valueOf 77 = .ok (.goto 4, 3) := by decide +kernel
theorem dX6_valueOf_80 : decode cX6_valueOf 80 = .ok (.iconst 0, 1) := by decide +kernel
theorem dX6_valueOf_81 : decode cX6_valueOf 81 = .ok (.ireturn, 1) := by decide +kernel
def fX6_valueOf (a1 : Int32) (a2 : Int32) (h : Hp) : Option (Int32 × Hp) := (if a1 = 3 then some (a2, h) else if a1 = 28 then some ((((h.1 147 5) >>> (a2 &&& 31)) &&& 1), h) else if a1 = 29 then some ((((h.1 147 6) >>> (a2 &&& 31)) &&& 1), h) else (if a1 < 30 then some (0, h) else (if 33 < a1 then some (0, h) else ck (inb (a1 - 30) 4) (some ((h.1 149 (ix (a1 - 30))), h)))))
set_option maxRecDepth 20000 in
theorem tX6_valueOf (Z : ZT) (a1 : Int32) (a2 : Int32) (hz : HZ Z) (h : Hp) (r : Int32) (hr : Hp) (hF : fX6_valueOf a1 a2 h = some (r, hr)) : MC Z yX6_valueOf cX6_valueOf 3 (some .int) 0 [.ref (Z.2.1 147), .int a1, .int a2] h (some (.int r)) hr := by
  unfold fX6_valueOf at hF
  refine mc_start (by decide) (Nat.le_of_ble_eq_true rfl) (fun G X E => ?_)
  refine j_iload_n (pc := 0) 1 X dX6_valueOf_0 rfl ?_
  refine j_lki (pc := 1) (off := 35) (v := 3) (tgt := 36) X dX6_valueOf_1 rfl (by decide) rfl hF (fun hF => ?_) (fun c1 hF => ?_)
  · refine j_iload_n (pc := 36) 2 X dX6_valueOf_36 rfl ?_
    exact j_iret (pc := 37) X E dX6_valueOf_37 hF
  refine j_lki (pc := 1) (off := 37) (v := 28) (tgt := 38) X dX6_valueOf_1 rfl (by decide) rfl hF (fun hF => ?_) (fun c2 hF => ?_)
  · refine j_aload_n (pc := 38) 0 X dX6_valueOf_38 rfl ?_
    refine j_geti (pc := 39) X dX6_valueOf_39 (hz _ sh_147) fl_X6_66 rfl ?_
    refine j_iload_n (pc := 42) 2 X dX6_valueOf_42 rfl ?_
    refine j_ishr (pc := 43) X dX6_valueOf_43 ?_
    refine j_iconst (pc := 44) 1 X dX6_valueOf_44 rfl ?_
    refine j_iand (pc := 45) X dX6_valueOf_45 ?_
    exact j_iret (pc := 46) X E dX6_valueOf_46 hF
  refine j_lki (pc := 1) (off := 46) (v := 29) (tgt := 47) X dX6_valueOf_1 rfl (by decide) rfl hF (fun hF => ?_) (fun c3 hF => ?_)
  · refine j_aload_n (pc := 47) 0 X dX6_valueOf_47 rfl ?_
    refine j_geti (pc := 48) X dX6_valueOf_48 (hz _ sh_147) fl_X6_69 rfl ?_
    refine j_iload_n (pc := 51) 2 X dX6_valueOf_51 rfl ?_
    refine j_ishr (pc := 52) X dX6_valueOf_52 ?_
    refine j_iconst (pc := 53) 1 X dX6_valueOf_53 rfl ?_
    refine j_iand (pc := 54) X dX6_valueOf_54 ?_
    exact j_iret (pc := 55) X E dX6_valueOf_55 hF
  refine j_lkd (pc := 1) (tgt := 56) X dX6_valueOf_1 rfl ((lv_osw (a := 3) (o := 35) c1 rfl).trans ((lv_osw (a := 28) (o := 37) c2 rfl).trans ((lv_osw (a := 29) (o := 46) c3 rfl).trans rfl))) rfl ?_
  refine j_iload_n (pc := 56) 1 X dX6_valueOf_56 rfl ?_
  refine j_bipush (pc := 57) 30 X dX6_valueOf_57 rfl ?_
  refine j_icmp_lt (pc := 59) 80 X dX6_valueOf_59 rfl hF (fun hF => ?_) (fun hF => ?_)
  · refine j_iconst (pc := 80) 0 X dX6_valueOf_80 rfl ?_
    exact j_iret (pc := 81) X E dX6_valueOf_81 hF
  · refine j_iload_n (pc := 62) 1 X dX6_valueOf_62 rfl ?_
    refine j_bipush (pc := 63) 33 X dX6_valueOf_63 rfl ?_
    refine j_icmp_gt (pc := 65) 80 X dX6_valueOf_65 rfl hF (fun hF => ?_) (fun hF => ?_)
    · refine j_iconst (pc := 80) 0 X dX6_valueOf_80 rfl ?_
      exact j_iret (pc := 81) X E dX6_valueOf_81 hF
    · refine j_aload_n (pc := 68) 0 X dX6_valueOf_68 rfl ?_
      refine j_getr (pc := 69) X dX6_valueOf_69 (hz _ sh_147) fl_X6_15 rfl ?_
      refine j_iload_n (pc := 72) 1 X dX6_valueOf_72 rfl ?_
      refine j_bipush (pc := 73) 30 X dX6_valueOf_73 rfl ?_
      refine j_isub (pc := 75) X dX6_valueOf_75 ?_
      refine j_iald (pc := 76) X dX6_valueOf_76 (hz _ sh_149) hF (fun hF => ?_)
      refine j_goto (pc := 77) 81 X dX6_valueOf_77 rfl ?_
      exact j_iret (pc := 81) X E dX6_valueOf_81 hF
theorem dX6_compared_0 : decode cX6_compared 0 = .ok (.aload_n 0, 1) := by decide +kernel
theorem dX6_compared_1 : decode cX6_compared 1 = .ok (.getfield 54, 3) := by decide +kernel
theorem dX6_compared_4 : decode cX6_compared 4 = .ok (.ifCond .ne 7, 3) := by decide +kernel
theorem dX6_compared_7 : decode cX6_compared 7 = .ok (.iconst 1, 1) := by decide +kernel
theorem dX6_compared_8 : decode cX6_compared 8 = .ok (.goto 4, 3) := by decide +kernel
theorem dX6_compared_11 : decode cX6_compared 11 = .ok (.iconst 0, 1) := by decide +kernel
theorem dX6_compared_12 : decode cX6_compared 12 = .ok (.istore 4, 2) := by decide +kernel
theorem dX6_compared_14 : decode cX6_compared 14 = .ok (.aload_n 0, 1) := by decide +kernel
theorem dX6_compared_15 : decode cX6_compared 15 = .ok (.iconst 0, 1) := by decide +kernel
theorem dX6_compared_16 : decode cX6_compared 16 = .ok (.putfield 54, 3) := by decide +kernel
theorem dX6_compared_19 : decode cX6_compared 19 = .ok (.iload_n 1, 1) := by decide +kernel
theorem dX6_compared_20 : decode cX6_compared 20 = .ok (.tableswitch 73 9 11 #[28, 43, 58], 28) := by decide +kernel
theorem dX6_compared_48 : decode cX6_compared 48 = .ok (.iload_n 2, 1) := by decide +kernel
theorem dX6_compared_49 : decode cX6_compared 49 = .ok (.iload_n 3, 1) := by decide +kernel
theorem dX6_compared_50 : decode cX6_compared 50 = .ok (.if_icmp .ne 7, 3) := by decide +kernel
theorem dX6_compared_53 : decode cX6_compared 53 = .ok (.iconst 1, 1) := by decide +kernel
theorem dX6_compared_54 : decode cX6_compared 54 = .ok (.goto 4, 3) := by decide +kernel
theorem dX6_compared_57 : decode cX6_compared 57 = .ok (.iconst 0, 1) := by decide +kernel
theorem dX6_compared_58 : decode cX6_compared 58 = .ok (.istore 5, 2) := by decide +kernel
theorem dX6_compared_60 : decode cX6_compared 60 = .ok (.goto 45, 3) := by decide +kernel
theorem dX6_compared_63 : decode cX6_compared 63 = .ok (.iload_n 2, 1) := by decide +kernel
theorem dX6_compared_64 : decode cX6_compared 64 = .ok (.iload_n 3, 1) := by decide +kernel
theorem dX6_compared_65 : decode cX6_compared 65 = .ok (.if_icmp .eq 7, 3) := by decide +kernel
theorem dX6_compared_68 : decode cX6_compared 68 = .ok (.iconst 1, 1) := by decide +kernel
theorem dX6_compared_69 : decode cX6_compared 69 = .ok (.goto 4, 3) := by decide +kernel
theorem dX6_compared_72 : decode cX6_compared 72 = .ok (.iconst 0, 1) := by decide +kernel
theorem dX6_compared_73 : decode cX6_compared 73 = .ok (.istore 5, 2) := by decide +kernel
theorem dX6_compared_75 : decode cX6_compared 75 = .ok (.goto 30, 3) := by decide +kernel
theorem dX6_compared_78 : decode cX6_compared 78 = .ok (.iload_n 2, 1) := by decide +kernel
theorem dX6_compared_79 : decode cX6_compared 79 = .ok (.iload_n 3, 1) := by decide +kernel
theorem dX6_compared_80 : decode cX6_compared 80 = .ok (.if_icmp .ge 7, 3) := by decide +kernel
theorem dX6_compared_83 : decode cX6_compared 83 = .ok (.iconst 1, 1) := by decide +kernel
theorem dX6_compared_84 : decode cX6_compared 84 = .ok (.goto 4, 3) := by decide +kernel
theorem dX6_compared_87 : decode cX6_compared 87 = .ok (.iconst 0, 1) := by decide +kernel
theorem dX6_compared_88 : decode cX6_compared 88 = .ok (.istore 5, 2) := by decide +kernel
theorem dX6_compared_90 : decode cX6_compared 90 = .ok (.goto 15, 3) := by decide +kernel
theorem dX6_compared_93 : decode cX6_compared 93 = .ok (.iload_n 2, 1) := by decide +kernel
theorem dX6_compared_94 : decode cX6_compared 94 = .ok (.iload_n 3, 1) := by decide +kernel
theorem dX6_compared_95 : decode cX6_compared 95 = .ok (.if_icmp .gt 7, 3) := by decide +kernel
theorem dX6_compared_98 : decode cX6_compared 98 = .ok (.iconst 1, 1) := by decide +kernel
theorem dX6_compared_99 : decode cX6_compared 99 = .ok (.goto 4, 3) := by decide +kernel
theorem dX6_compared_102 : decode cX6_compared 102 = .ok (.iconst 0, 1) := by decide +kernel
theorem dX6_compared_103 : decode cX6_compared 103 = .ok (.istore 5, 2) := by decide +kernel
theorem dX6_compared_105 : decode cX6_compared 105 = .ok (.iload 4, 2) := by decide +kernel
theorem dX6_compared_107 : decode cX6_compared 107 = .ok (.ifCond .eq 12, 3) := by decide +kernel
theorem dX6_compared_110 : decode cX6_compared 110 = .ok (.iload 5, 2) := by decide +kernel
theorem dX6_compared_112 : decode cX6_compared 112 = .ok (.ifCond .eq 7, 3) := by decide +kernel
theorem dX6_compared_115 : decode cX6_compared 115 = .ok (.iconst 1, 1) := by decide +kernel
theorem dX6_compared_116 : decode cX6_compared 116 = .ok (.goto 4, 3) := by decide +kernel
theorem dX6_compared_119 : decode cX6_compared 119 = .ok (.iconst 0, 1) := by decide +kernel
theorem dX6_compared_120 : decode cX6_compared 120 = .ok (.ireturn, 1) := by decide +kernel
def bX6_compared_105   (x4 : Int32) (x5 : Int32) (h : Hp) : Option (Int32 × Hp) := (if x4 = 0 then some (0, h) else (if x5 = 0 then some (0, h) else some (1, h)))
set_option maxRecDepth 20000 in
theorem BX6_compared_105 {Z : ZT} {G : GT} {r : Int32} {hr : Hp} (X : CX Z G cX6_compared RX6 6 0) (E : RX Z G (some .int) (some (.int r)) hr) (hz : HZ Z)  (x4 : Int32) (x5 : Int32) (h : Hp) (hF : bX6_compared_105   x4 x5 h = some (r, hr)) : J Z G 6 h 105 [(4, .int x4), (5, .int x5)] [] := by
  unfold bX6_compared_105 at hF
  refine j_iload (pc := 105) 0 X dX6_compared_105 rfl ?_
  refine j_if_eq (pc := 107) 119 X dX6_compared_107 rfl hF (fun hF => ?_) (fun hF => ?_)
  · refine j_iconst (pc := 119) 0 X dX6_compared_119 rfl ?_
    exact j_iret (pc := 120) X E dX6_compared_120 hF
  · refine j_iload (pc := 110) 1 X dX6_compared_110 rfl ?_
    refine j_if_eq (pc := 112) 119 X dX6_compared_112 rfl hF (fun hF => ?_) (fun hF => ?_)
    · refine j_iconst (pc := 119) 0 X dX6_compared_119 rfl ?_
      exact j_iret (pc := 120) X E dX6_compared_120 hF
    · refine j_iconst (pc := 115) 1 X dX6_compared_115 rfl ?_
      refine j_goto (pc := 116) 120 X dX6_compared_116 rfl ?_
      exact j_iret (pc := 120) X E dX6_compared_120 hF
def bX6_compared_58   (x4 : Int32) (s0 : Int32) (h : Hp) : Option (Int32 × Hp) := lt s0 (fun v1 => bX6_compared_105 x4 v1 h)
set_option maxRecDepth 20000 in
theorem BX6_compared_58 {Z : ZT} {G : GT} {r : Int32} {hr : Hp} (X : CX Z G cX6_compared RX6 6 0) (E : RX Z G (some .int) (some (.int r)) hr) (hz : HZ Z)  (x4 : Int32) (s0 : Int32) (h : Hp) (hF : bX6_compared_58   x4 s0 h = some (r, hr)) : J Z G 6 h 58 [(4, .int x4)] [.int s0] := by
  unfold bX6_compared_58 at hF
  refine j_istore (pc := 58) (fun y => [(5, .int y), (4, .int x4)]) X dX6_compared_58 (by decide) (fun _ => rfl) hF (fun v1 hF => ?_)
  refine j_goto (pc := 60) 105 X dX6_compared_60 rfl ?_
  refine j_lv [(4, .int x4), (5, .int v1)] [1, 0] rfl ?_
  exact BX6_compared_105 X E hz x4 v1 h hF
def bX6_compared_73   (x4 : Int32) (s0 : Int32) (h : Hp) : Option (Int32 × Hp) := lt s0 (fun v1 => bX6_compared_105 x4 v1 h)
set_option maxRecDepth 20000 in
theorem BX6_compared_73 {Z : ZT} {G : GT} {r : Int32} {hr : Hp} (X : CX Z G cX6_compared RX6 6 0) (E : RX Z G (some .int) (some (.int r)) hr) (hz : HZ Z)  (x4 : Int32) (s0 : Int32) (h : Hp) (hF : bX6_compared_73   x4 s0 h = some (r, hr)) : J Z G 6 h 73 [(4, .int x4)] [.int s0] := by
  unfold bX6_compared_73 at hF
  refine j_istore (pc := 73) (fun y => [(5, .int y), (4, .int x4)]) X dX6_compared_73 (by decide) (fun _ => rfl) hF (fun v1 hF => ?_)
  refine j_goto (pc := 75) 105 X dX6_compared_75 rfl ?_
  refine j_lv [(4, .int x4), (5, .int v1)] [1, 0] rfl ?_
  exact BX6_compared_105 X E hz x4 v1 h hF
def bX6_compared_88   (x4 : Int32) (s0 : Int32) (h : Hp) : Option (Int32 × Hp) := lt s0 (fun v1 => bX6_compared_105 x4 v1 h)
set_option maxRecDepth 20000 in
theorem BX6_compared_88 {Z : ZT} {G : GT} {r : Int32} {hr : Hp} (X : CX Z G cX6_compared RX6 6 0) (E : RX Z G (some .int) (some (.int r)) hr) (hz : HZ Z)  (x4 : Int32) (s0 : Int32) (h : Hp) (hF : bX6_compared_88   x4 s0 h = some (r, hr)) : J Z G 6 h 88 [(4, .int x4)] [.int s0] := by
  unfold bX6_compared_88 at hF
  refine j_istore (pc := 88) (fun y => [(5, .int y), (4, .int x4)]) X dX6_compared_88 (by decide) (fun _ => rfl) hF (fun v1 hF => ?_)
  refine j_goto (pc := 90) 105 X dX6_compared_90 rfl ?_
  refine j_lv [(4, .int x4), (5, .int v1)] [1, 0] rfl ?_
  exact BX6_compared_105 X E hz x4 v1 h hF
def bX6_compared_103   (x4 : Int32) (s0 : Int32) (h : Hp) : Option (Int32 × Hp) := lt s0 (fun v1 => bX6_compared_105 x4 v1 h)
set_option maxRecDepth 20000 in
theorem BX6_compared_103 {Z : ZT} {G : GT} {r : Int32} {hr : Hp} (X : CX Z G cX6_compared RX6 6 0) (E : RX Z G (some .int) (some (.int r)) hr) (hz : HZ Z)  (x4 : Int32) (s0 : Int32) (h : Hp) (hF : bX6_compared_103   x4 s0 h = some (r, hr)) : J Z G 6 h 103 [(4, .int x4)] [.int s0] := by
  unfold bX6_compared_103 at hF
  refine j_istore (pc := 103) (fun y => [(5, .int y), (4, .int x4)]) X dX6_compared_103 (by decide) (fun _ => rfl) hF (fun v1 hF => ?_)
  refine j_lv [(4, .int x4), (5, .int v1)] [1, 0] rfl ?_
  exact BX6_compared_105 X E hz x4 v1 h hF
def bX6_compared_12   (x1 : Int32) (x2 : Int32) (x3 : Int32) (s0 : Int32) (h : Hp) : Option (Int32 × Hp) := lt s0 (fun v1 => ck (zb 0) (lt (wI h 147 7 0) (fun h2 => (if x1.toInt < 9 ∨ 11 < x1.toInt then (if x3 < x2 then bX6_compared_103 v1 0 h2 else bX6_compared_103 v1 1 h2) else if x1 = 9 then (if x2 = x3 then bX6_compared_58 v1 1 h2 else bX6_compared_58 v1 0 h2) else if x1 = 10 then (if x2 = x3 then bX6_compared_73 v1 0 h2 else bX6_compared_73 v1 1 h2) else if x1 = 11 then (if x3 ≤ x2 then bX6_compared_88 v1 0 h2 else bX6_compared_88 v1 1 h2) else none))))
set_option maxRecDepth 20000 in
theorem BX6_compared_12 {Z : ZT} {G : GT} {r : Int32} {hr : Hp} (X : CX Z G cX6_compared RX6 6 0) (E : RX Z G (some .int) (some (.int r)) hr) (hz : HZ Z)  (x1 : Int32) (x2 : Int32) (x3 : Int32) (s0 : Int32) (h : Hp) (hF : bX6_compared_12   x1 x2 x3 s0 h = some (r, hr)) : J Z G 6 h 12 [(0, .ref (Z.2.1 147)), (1, .int x1), (2, .int x2), (3, .int x3)] [.int s0] := by
  unfold bX6_compared_12 at hF
  refine j_istore (pc := 12) (fun y => [(4, .int y), (0, .ref (Z.2.1 147)), (1, .int x1), (2, .int x2), (3, .int x3)]) X dX6_compared_12 (by decide) (fun _ => rfl) hF (fun v1 hF => ?_)
  refine j_aload_n (pc := 14) 1 X dX6_compared_14 rfl ?_
  refine j_iconst (pc := 15) 0 X dX6_compared_15 rfl ?_
  refine j_putz (pc := 16) X dX6_compared_16 (hz _ sh_147) fp_X6_54 rfl hF (fun h2 hF => ?_)
  refine j_iload_n (pc := 19) 2 X dX6_compared_19 rfl ?_
  refine j_tab (pc := 20) (tgt := 93) X dX6_compared_20 rfl hF (fun hF => ?_) (fun hF => ?_)
  · refine j_iload_n (pc := 93) 3 X dX6_compared_93 rfl ?_
    refine j_iload_n (pc := 94) 4 X dX6_compared_94 rfl ?_
    refine j_icmp_gt (pc := 95) 102 X dX6_compared_95 rfl hF (fun hF => ?_) (fun hF => ?_)
    · refine j_iconst (pc := 102) 0 X dX6_compared_102 rfl ?_
      refine j_lv [(4, .int v1)] [0] rfl ?_
      exact BX6_compared_103 X E hz v1 0 h2 hF
    · refine j_iconst (pc := 98) 1 X dX6_compared_98 rfl ?_
      refine j_goto (pc := 99) 103 X dX6_compared_99 rfl ?_
      refine j_lv [(4, .int v1)] [0] rfl ?_
      exact BX6_compared_103 X E hz v1 1 h2 hF
  refine j_tabi (pc := 20) (v := 9) (tgt := 48) X dX6_compared_20 rfl rfl rfl rfl hF (fun hF => ?_) (fun hF => ?_)
  · refine j_iload_n (pc := 48) 3 X dX6_compared_48 rfl ?_
    refine j_iload_n (pc := 49) 4 X dX6_compared_49 rfl ?_
    refine j_icmp_ne (pc := 50) 57 X dX6_compared_50 rfl hF (fun hF => ?_) (fun hF => ?_)
    · refine j_iconst (pc := 57) 0 X dX6_compared_57 rfl ?_
      refine j_lv [(4, .int v1)] [0] rfl ?_
      exact BX6_compared_58 X E hz v1 0 h2 hF
    · refine j_iconst (pc := 53) 1 X dX6_compared_53 rfl ?_
      refine j_goto (pc := 54) 58 X dX6_compared_54 rfl ?_
      refine j_lv [(4, .int v1)] [0] rfl ?_
      exact BX6_compared_58 X E hz v1 1 h2 hF
  refine j_tabi (pc := 20) (v := 10) (tgt := 63) X dX6_compared_20 rfl rfl rfl rfl hF (fun hF => ?_) (fun hF => ?_)
  · refine j_iload_n (pc := 63) 3 X dX6_compared_63 rfl ?_
    refine j_iload_n (pc := 64) 4 X dX6_compared_64 rfl ?_
    refine j_icmp_eq (pc := 65) 72 X dX6_compared_65 rfl hF (fun hF => ?_) (fun hF => ?_)
    · refine j_iconst (pc := 72) 0 X dX6_compared_72 rfl ?_
      refine j_lv [(4, .int v1)] [0] rfl ?_
      exact BX6_compared_73 X E hz v1 0 h2 hF
    · refine j_iconst (pc := 68) 1 X dX6_compared_68 rfl ?_
      refine j_goto (pc := 69) 73 X dX6_compared_69 rfl ?_
      refine j_lv [(4, .int v1)] [0] rfl ?_
      exact BX6_compared_73 X E hz v1 1 h2 hF
  refine j_tabi (pc := 20) (v := 11) (tgt := 78) X dX6_compared_20 rfl rfl rfl rfl hF (fun hF => ?_) (fun hF => ?_)
  · refine j_iload_n (pc := 78) 3 X dX6_compared_78 rfl ?_
    refine j_iload_n (pc := 79) 4 X dX6_compared_79 rfl ?_
    refine j_icmp_ge (pc := 80) 87 X dX6_compared_80 rfl hF (fun hF => ?_) (fun hF => ?_)
    · refine j_iconst (pc := 87) 0 X dX6_compared_87 rfl ?_
      refine j_lv [(4, .int v1)] [0] rfl ?_
      exact BX6_compared_88 X E hz v1 0 h2 hF
    · refine j_iconst (pc := 83) 1 X dX6_compared_83 rfl ?_
      refine j_goto (pc := 84) 88 X dX6_compared_84 rfl ?_
      refine j_lv [(4, .int v1)] [0] rfl ?_
      exact BX6_compared_88 X E hz v1 1 h2 hF
  cases hF
def fX6_compared (a1 : Int32) (a2 : Int32) (a3 : Int32) (h : Hp) : Option (Int32 × Hp) := (if (h.1 147 7) = 0 then bX6_compared_12 a1 a2 a3 1 h else bX6_compared_12 a1 a2 a3 0 h)
set_option maxRecDepth 20000 in
theorem tX6_compared (Z : ZT) (a1 : Int32) (a2 : Int32) (a3 : Int32) (hz : HZ Z) (h : Hp) (r : Int32) (hr : Hp) (hF : fX6_compared a1 a2 a3 h = some (r, hr)) : MC Z yX6_compared cX6_compared 6 (some .int) 0 [.ref (Z.2.1 147), .int a1, .int a2, .int a3] h (some (.int r)) hr := by
  unfold fX6_compared at hF
  refine mc_start (by decide) (Nat.le_of_ble_eq_true rfl) (fun G X E => ?_)
  refine j_aload_n (pc := 0) 0 X dX6_compared_0 rfl ?_
  refine j_geti (pc := 1) X dX6_compared_1 (hz _ sh_147) fl_X6_54 rfl ?_
  refine j_if_ne (pc := 4) 11 X dX6_compared_4 rfl hF (fun hF => ?_) (fun hF => ?_)
  · refine j_iconst (pc := 11) 0 X dX6_compared_11 rfl ?_
    exact BX6_compared_12 X E hz a1 a2 a3 0 h hF
  · refine j_iconst (pc := 7) 1 X dX6_compared_7 rfl ?_
    refine j_goto (pc := 8) 12 X dX6_compared_8 rfl ?_
    exact BX6_compared_12 X E hz a1 a2 a3 1 h hF
theorem dX6_joined_0 : decode cX6_joined 0 = .ok (.iload_n 1, 1) := by decide +kernel
theorem dX6_joined_1 : decode cX6_joined 1 = .ok (.lookupswitch 71 #[(5, 51), (6, 55), (7, 59), (25, 67), (26, 63)], 51) := by decide +kernel
theorem dX6_joined_52 : decode cX6_joined 52 = .ok (.iload_n 2, 1) := by decide +kernel
theorem dX6_joined_53 : decode cX6_joined 53 = .ok (.iload_n 3, 1) := by decide +kernel
theorem dX6_joined_54 : decode cX6_joined 54 = .ok (.iadd, 1) := by decide +kernel
theorem dX6_joined_55 : decode cX6_joined 55 = .ok (.ireturn, 1) := by decide +kernel
theorem dX6_joined_56 : decode cX6_joined 56 = .ok (.iload_n 2, 1) := by decide +kernel
theorem dX6_joined_57 : decode cX6_joined 57 = .ok (.iload_n 3, 1) := by decide +kernel
theorem dX6_joined_58 : decode cX6_joined 58 = .ok (.isub, 1) := by decide +kernel
theorem dX6_joined_59 : decode cX6_joined 59 = .ok (.ireturn, 1) := by decide +kernel
theorem dX6_joined_60 : decode cX6_joined 60 = .ok (.iload_n 2, 1) := by decide +kernel
theorem dX6_joined_61 : decode cX6_joined 61 = .ok (.iload_n 3, 1) := by decide +kernel
theorem dX6_joined_62 : decode cX6_joined 62 = .ok (.imul, 1) := by decide +kernel
theorem dX6_joined_63 : decode cX6_joined 63 = .ok (.ireturn, 1) := by decide +kernel
theorem dX6_joined_64 : decode cX6_joined 64 = .ok (.iload_n 2, 1) := by decide +kernel
theorem dX6_joined_65 : decode cX6_joined 65 = .ok (.iload_n 3, 1) := by decide +kernel
theorem dX6_joined_66 : decode cX6_joined 66 = .ok (.iand, 1) := by decide +kernel
theorem dX6_joined_67 : decode cX6_joined 67 = .ok (.ireturn, 1) := by decide +kernel
theorem dX6_joined_68 : decode cX6_joined 68 = .ok (.iload_n 2, 1) := by decide +kernel
theorem dX6_joined_69 : decode cX6_joined 69 = .ok (.iload_n 3, 1) := by decide +kernel
theorem dX6_joined_70 : decode cX6_joined 70 = .ok (.ior, 1) := by decide +kernel
theorem dX6_joined_71 : decode cX6_joined 71 = .ok (.ireturn, 1) := by decide +kernel
theorem dX6_joined_72 : decode cX6_joined 72 = .ok (.aload_n 0, 1) := by decide +kernel
theorem dX6_joined_73 : decode cX6_joined 73 = .ok (.aload_n 0, 1) := by decide +kernel
theorem dX6_joined_74 : decode cX6_joined 74 = .ok (.getfield 54, 3) := by decide +kernel
theorem dX6_joined_77 : decode cX6_joined 77 = .ok (.ifCond .ne 7, 3) := by decide +kernel
theorem dX6_joined_80 : decode cX6_joined 80 = .ok (.iload_n 3, 1) := by decide +kernel
theorem dX6_joined_81 : decode cX6_joined 81 = .ok (.ifCond .ne 7, 3) := by decide +kernel
theorem dX6_joined_84 : decode cX6_joined 84 = .ok (.iconst 1, 1) := by decide +kernel
theorem dX6_joined_85 : decode cX6_joined 85 = .ok (.goto 4, 3) := by decide +kernel
theorem dX6_joined_88 : decode cX6_joined 88 = .ok (.iconst 0, 1) := by decide +kernel
theorem dX6_joined_89 : decode cX6_joined 89 = .ok (.putfield 54, 3) := by decide +kernel
theorem dX6_joined_92 : decode cX6_joined 92 = .ok (.iload_n 3, 1) := by decide +kernel
theorem dX6_joined_93 : decode cX6_joined 93 = .ok (.ifCond .ne 7, 3) := by decide +kernel
theorem dX6_joined_96 : decode cX6_joined 96 = .ok (.iconst 0, 1) := by decide +kernel
theorem dX6_joined_97 : decode cX6_joined 97 = .ok (.goto 6, 3) := by decide +kernel
theorem dX6_joined_100 : decode cX6_joined 100 = .ok (.iload_n 2, 1) := by decide +kernel
theorem dX6_joined_101 : decode cX6_joined 101 = .ok (.iload_n 3, 1) := by decide +kernel
theorem dX6_joined_102 : decode cX6_joined 102 = .ok (.idiv, 1) := by decide +kernel
theorem dX6_joined_103 : decode cX6_joined 103 = .ok (.ireturn, 1) := by decide +kernel
def bX6_joined_89   (x2 : Int32) (x3 : Int32) (s0 : Int32) (h : Hp) : Option (Int32 × Hp) := ck (zb s0) (lt (wI h 147 7 s0) (fun h1 => (if x3 = 0 then some (0, h1) else ck (nz x3) (some ((x2 / x3), h1)))))
set_option maxRecDepth 20000 in
theorem BX6_joined_89 {Z : ZT} {G : GT} {r : Int32} {hr : Hp} (X : CX Z G cX6_joined RX6 4 0) (E : RX Z G (some .int) (some (.int r)) hr) (hz : HZ Z)  (x2 : Int32) (x3 : Int32) (s0 : Int32) (h : Hp) (hF : bX6_joined_89   x2 x3 s0 h = some (r, hr)) : J Z G 4 h 89 [(2, .int x2), (3, .int x3)] [.int s0, .ref (Z.2.1 147)] := by
  unfold bX6_joined_89 at hF
  refine j_putz (pc := 89) X dX6_joined_89 (hz _ sh_147) fp_X6_54 rfl hF (fun h1 hF => ?_)
  refine j_iload_n (pc := 92) 1 X dX6_joined_92 rfl ?_
  refine j_if_ne (pc := 93) 100 X dX6_joined_93 rfl hF (fun hF => ?_) (fun hF => ?_)
  · refine j_iload_n (pc := 100) 0 X dX6_joined_100 rfl ?_
    refine j_iload_n (pc := 101) 1 X dX6_joined_101 rfl ?_
    refine j_idiv (pc := 102) X dX6_joined_102 hF (fun hF => ?_)
    exact j_iret (pc := 103) X E dX6_joined_103 hF
  · refine j_iconst (pc := 96) 0 X dX6_joined_96 rfl ?_
    refine j_goto (pc := 97) 103 X dX6_joined_97 rfl ?_
    exact j_iret (pc := 103) X E dX6_joined_103 hF
def bX6_joined_84   (x2 : Int32) (x3 : Int32) (h : Hp) : Option (Int32 × Hp) := bX6_joined_89 x2 x3 1 h
set_option maxRecDepth 20000 in
theorem BX6_joined_84 {Z : ZT} {G : GT} {r : Int32} {hr : Hp} (X : CX Z G cX6_joined RX6 4 0) (E : RX Z G (some .int) (some (.int r)) hr) (hz : HZ Z)  (x2 : Int32) (x3 : Int32) (h : Hp) (hF : bX6_joined_84   x2 x3 h = some (r, hr)) : J Z G 4 h 84 [(2, .int x2), (3, .int x3)] [.ref (Z.2.1 147)] := by
  unfold bX6_joined_84 at hF
  refine j_iconst (pc := 84) 1 X dX6_joined_84 rfl ?_
  refine j_goto (pc := 85) 89 X dX6_joined_85 rfl ?_
  exact BX6_joined_89 X E hz x2 x3 1 h hF
def fX6_joined (a1 : Int32) (a2 : Int32) (a3 : Int32) (h : Hp) : Option (Int32 × Hp) := (if a1 = 5 then some ((a2 + a3), h) else if a1 = 6 then some ((a2 - a3), h) else if a1 = 7 then some ((a2 * a3), h) else if a1 = 25 then some ((a2 ||| a3), h) else if a1 = 26 then some ((a2 &&& a3), h) else (if (h.1 147 7) = 0 then (if a3 = 0 then bX6_joined_84 a2 a3 h else bX6_joined_89 a2 a3 0 h) else bX6_joined_84 a2 a3 h))
set_option maxRecDepth 20000 in
theorem tX6_joined (Z : ZT) (a1 : Int32) (a2 : Int32) (a3 : Int32) (hz : HZ Z) (h : Hp) (r : Int32) (hr : Hp) (hF : fX6_joined a1 a2 a3 h = some (r, hr)) : MC Z yX6_joined cX6_joined 4 (some .int) 0 [.ref (Z.2.1 147), .int a1, .int a2, .int a3] h (some (.int r)) hr := by
  unfold fX6_joined at hF
  refine mc_start (by decide) (Nat.le_of_ble_eq_true rfl) (fun G X E => ?_)
  refine j_iload_n (pc := 0) 1 X dX6_joined_0 rfl ?_
  refine j_lki (pc := 1) (off := 51) (v := 5) (tgt := 52) X dX6_joined_1 rfl (by decide) rfl hF (fun hF => ?_) (fun c1 hF => ?_)
  · refine j_iload_n (pc := 52) 2 X dX6_joined_52 rfl ?_
    refine j_iload_n (pc := 53) 3 X dX6_joined_53 rfl ?_
    refine j_iadd (pc := 54) X dX6_joined_54 ?_
    exact j_iret (pc := 55) X E dX6_joined_55 hF
  refine j_lki (pc := 1) (off := 55) (v := 6) (tgt := 56) X dX6_joined_1 rfl (by decide) rfl hF (fun hF => ?_) (fun c2 hF => ?_)
  · refine j_iload_n (pc := 56) 2 X dX6_joined_56 rfl ?_
    refine j_iload_n (pc := 57) 3 X dX6_joined_57 rfl ?_
    refine j_isub (pc := 58) X dX6_joined_58 ?_
    exact j_iret (pc := 59) X E dX6_joined_59 hF
  refine j_lki (pc := 1) (off := 59) (v := 7) (tgt := 60) X dX6_joined_1 rfl (by decide) rfl hF (fun hF => ?_) (fun c3 hF => ?_)
  · refine j_iload_n (pc := 60) 2 X dX6_joined_60 rfl ?_
    refine j_iload_n (pc := 61) 3 X dX6_joined_61 rfl ?_
    refine j_imul (pc := 62) X dX6_joined_62 ?_
    exact j_iret (pc := 63) X E dX6_joined_63 hF
  refine j_lki (pc := 1) (off := 67) (v := 25) (tgt := 68) X dX6_joined_1 rfl (by decide) rfl hF (fun hF => ?_) (fun c4 hF => ?_)
  · refine j_iload_n (pc := 68) 2 X dX6_joined_68 rfl ?_
    refine j_iload_n (pc := 69) 3 X dX6_joined_69 rfl ?_
    refine j_ior (pc := 70) X dX6_joined_70 ?_
    exact j_iret (pc := 71) X E dX6_joined_71 hF
  refine j_lki (pc := 1) (off := 63) (v := 26) (tgt := 64) X dX6_joined_1 rfl (by decide) rfl hF (fun hF => ?_) (fun c5 hF => ?_)
  · refine j_iload_n (pc := 64) 2 X dX6_joined_64 rfl ?_
    refine j_iload_n (pc := 65) 3 X dX6_joined_65 rfl ?_
    refine j_iand (pc := 66) X dX6_joined_66 ?_
    exact j_iret (pc := 67) X E dX6_joined_67 hF
  refine j_lkd (pc := 1) (tgt := 72) X dX6_joined_1 rfl ((lv_osw (a := 5) (o := 51) c1 rfl).trans ((lv_osw (a := 6) (o := 55) c2 rfl).trans ((lv_osw (a := 7) (o := 59) c3 rfl).trans ((lv_osw (a := 25) (o := 67) c4 rfl).trans ((lv_osw (a := 26) (o := 63) c5 rfl).trans rfl))))) rfl ?_
  refine j_aload_n (pc := 72) 0 X dX6_joined_72 rfl ?_
  refine j_aload_n (pc := 73) 0 X dX6_joined_73 rfl ?_
  refine j_geti (pc := 74) X dX6_joined_74 (hz _ sh_147) fl_X6_54 rfl ?_
  refine j_if_ne (pc := 77) 84 X dX6_joined_77 rfl hF (fun hF => ?_) (fun hF => ?_)
  · refine j_lv [(2, .int a2), (3, .int a3)] [2, 3] rfl ?_
    exact BX6_joined_84 X E hz a2 a3 h hF
  · refine j_iload_n (pc := 80) 3 X dX6_joined_80 rfl ?_
    refine j_if_ne (pc := 81) 88 X dX6_joined_81 rfl hF (fun hF => ?_) (fun hF => ?_)
    · refine j_iconst (pc := 88) 0 X dX6_joined_88 rfl ?_
      refine j_lv [(2, .int a2), (3, .int a3)] [2, 3] rfl ?_
      exact BX6_joined_89 X E hz a2 a3 0 h hF
    · refine j_lv [(2, .int a2), (3, .int a3)] [2, 3] rfl ?_
      exact BX6_joined_84 X E hz a2 a3 h hF
