theorem dX2_gainsFrom_0 : decode cX2_gainsFrom 0 = .ok (.iconst 0, 1) := by decide +kernel
theorem dX2_gainsFrom_1 : decode cX2_gainsFrom 1 = .ok (.istore_n 2, 1) := by decide +kernel
theorem dX2_gainsFrom_2 : decode cX2_gainsFrom 2 = .ok (.iload_n 1, 1) := by decide +kernel
theorem dX2_gainsFrom_3 : decode cX2_gainsFrom 3 = .ok (.istore_n 3, 1) := by decide +kernel
theorem dX2_gainsFrom_4 : decode cX2_gainsFrom 4 = .ok (.iload_n 3, 1) := by decide +kernel
theorem dX2_gainsFrom_5 : decode cX2_gainsFrom 5 = .ok (.aload_n 0, 1) := by decide +kernel
theorem dX2_gainsFrom_6 : decode cX2_gainsFrom 6 = .ok (.getfield 32, 3) := by decide +kernel
theorem dX2_gainsFrom_9 : decode cX2_gainsFrom 9 = .ok (.getfield 77, 3) := by decide +kernel
theorem dX2_gainsFrom_12 : decode cX2_gainsFrom 12 = .ok (.if_icmp .ge 59, 3) := by decide +kernel
theorem dX2_gainsFrom_15 : decode cX2_gainsFrom 15 = .ok (.aload_n 0, 1) := by decide +kernel
theorem dX2_gainsFrom_16 : decode cX2_gainsFrom 16 = .ok (.getfield 32, 3) := by decide +kernel
theorem dX2_gainsFrom_19 : decode cX2_gainsFrom 19 = .ok (.getfield 80, 3) := by decide +kernel
theorem dX2_gainsFrom_22 : decode cX2_gainsFrom 22 = .ok (.iload_n 3, 1) := by decide +kernel
theorem dX2_gainsFrom_23 : decode cX2_gainsFrom 23 = .ok (.iaload, 1) := by decide +kernel
theorem dX2_gainsFrom_24 : decode cX2_gainsFrom 24 = .ok (.istore 4, 2) := by decide +kernel
theorem dX2_gainsFrom_26 : decode cX2_gainsFrom 26 = .ok (.iload_n 2, 1) := by decide +kernel
theorem dX2_gainsFrom_27 : decode cX2_gainsFrom 27 = .ok (.aload_n 0, 1) := by decide +kernel
theorem dX2_gainsFrom_28 : decode cX2_gainsFrom 28 = .ok (.getfield 19, 3) := by decide +kernel
theorem dX2_gainsFrom_31 : decode cX2_gainsFrom 31 = .ok (.aload_n 0, 1) := by decide +kernel
theorem dX2_gainsFrom_32 : decode cX2_gainsFrom 32 = .ok (.getfield 32, 3) := by decide +kernel
theorem dX2_gainsFrom_35 : decode cX2_gainsFrom 35 = .ok (.getfield 62, 3) := by decide +kernel
theorem dX2_gainsFrom_38 : decode cX2_gainsFrom 38 = .ok (.iload 4, 2) := by decide +kernel
theorem dX2_gainsFrom_40 : decode cX2_gainsFrom 40 = .ok (.iaload, 1) := by decide +kernel
theorem dX2_gainsFrom_41 : decode cX2_gainsFrom 41 = .ok (.aload_n 0, 1) := by decide +kernel
theorem dX2_gainsFrom_42 : decode cX2_gainsFrom 42 = .ok (.getfield 9, 3) := by decide +kernel
theorem dX2_gainsFrom_45 : decode cX2_gainsFrom 45 = .ok (.getfield 83, 3) := by decide +kernel
theorem dX2_gainsFrom_48 : decode cX2_gainsFrom 48 = .ok (.iload 4, 2) := by decide +kernel
theorem dX2_gainsFrom_50 : decode cX2_gainsFrom 50 = .ok (.aaload, 1) := by decide +kernel
theorem dX2_gainsFrom_51 : decode cX2_gainsFrom 51 = .ok (.getfield 87, 3) := by decide +kernel
theorem dX2_gainsFrom_54 : decode cX2_gainsFrom 54 = .ok (.aload_n 0, 1) := by decide +kernel
theorem dX2_gainsFrom_55 : decode cX2_gainsFrom 55 = .ok (.iload 4, 2) := by decide +kernel
theorem dX2_gainsFrom_57 : decode cX2_gainsFrom 57 = .ok (.invokevirtual 73, 3) := by decide +kernel
theorem dX2_gainsFrom_60 : decode cX2_gainsFrom 60 = .ok (.invokevirtual 92, 3) := by decide +kernel
theorem dX2_gainsFrom_63 : decode cX2_gainsFrom 63 = .ok (.iadd, 1) := by decide +kernel
theorem dX2_gainsFrom_64 : decode cX2_gainsFrom 64 = .ok (.istore_n 2, 1) := by decide +kernel
theorem dX2_gainsFrom_65 : decode cX2_gainsFrom 65 = .ok (.iinc 3 1, 3) := by decide +kernel
theorem dX2_gainsFrom_68 : decode cX2_gainsFrom 68 = .ok (.goto (-64), 3) := by decide +kernel
theorem dX2_gainsFrom_71 : decode cX2_gainsFrom 71 = .ok (.iload_n 2, 1) := by decide +kernel
theorem dX2_gainsFrom_72 : decode cX2_gainsFrom 72 = .ok (.ireturn, 1) := by decide +kernel
def bX2_gainsFrom_4   (r4 : Int32 → Int32 → Hp → Option (Int32 × Hp)) (x2 : Int32) (x3 : Int32) (h : Hp) : Option (Int32 × Hp) := (if (h.1 190 10) ≤ x3 then some (x2, h) else ck (inb x3 10) (lt (h.1 195 (ix x3)) (fun v1 => ck (inb v1 10) (ck (inb v1 10) (bi (fX2_lateOf v1 h) (fun w4 h3 => bi (fX6_gainIn (h.1 192 (ix v1)) (h.1 (115 + ix v1) 2) w4 h3) (fun w6 h5 => lt (x2 + w6) (fun v7 => lt (x3 + 1) (fun v8 => r4 v7 v8 h5)))))))))
def lX2_gainsFrom_4   : Nat → Int32 → Int32 → Hp → Option (Int32 × Hp)
  | 0 => fun _ _ _ => none
  | n + 1 => bX2_gainsFrom_4   (lX2_gainsFrom_4   n)
set_option maxRecDepth 20000 in
theorem BX2_gainsFrom_4 {Z : ZT} {G : GT} {r : Int32} {hr : Hp} (X : CX Z G cX2_gainsFrom RX2 5 4) (E : RX Z G (some .int) (some (.int r)) hr) (hz : HZ Z)  (r4 : Int32 → Int32 → Hp → Option (Int32 × Hp)) (hr4 : ∀ (x2 : Int32) (x3 : Int32) (h : Hp), r4 x2 x3 h = some (r, hr) → J Z G 5 h 4 [(0, .ref (Z.2.1 181)), (2, .int x2), (3, .int x3)] []) (x2 : Int32) (x3 : Int32) (h : Hp) (hF : bX2_gainsFrom_4   r4 x2 x3 h = some (r, hr)) : J Z G 5 h 4 [(0, .ref (Z.2.1 181)), (2, .int x2), (3, .int x3)] [] := by
  unfold bX2_gainsFrom_4 at hF
  refine j_iload_n (pc := 4) 2 X dX2_gainsFrom_4 rfl ?_
  refine j_aload_n (pc := 5) 0 X dX2_gainsFrom_5 rfl ?_
  refine j_getr (pc := 6) X dX2_gainsFrom_6 (hz _ sh_181) fl_X2_32 rfl ?_
  refine j_geti (pc := 9) X dX2_gainsFrom_9 (hz _ sh_190) fl_X2_77 rfl ?_
  refine j_icmp_ge (pc := 12) 71 X dX2_gainsFrom_12 rfl hF (fun hF => ?_) (fun hF => ?_)
  · refine j_iload_n (pc := 71) 1 X dX2_gainsFrom_71 rfl ?_
    exact j_iret (pc := 72) X E dX2_gainsFrom_72 hF
  · refine j_aload_n (pc := 15) 0 X dX2_gainsFrom_15 rfl ?_
    refine j_getr (pc := 16) X dX2_gainsFrom_16 (hz _ sh_181) fl_X2_32 rfl ?_
    refine j_getr (pc := 19) X dX2_gainsFrom_19 (hz _ sh_190) fl_X2_80 rfl ?_
    refine j_iload_n (pc := 22) 2 X dX2_gainsFrom_22 rfl ?_
    refine j_iald (pc := 23) X dX2_gainsFrom_23 (hz _ sh_195) hF (fun hF => ?_)
    refine j_istore (pc := 24) (fun y => [(4, .int y), (0, .ref (Z.2.1 181)), (2, .int x2), (3, .int x3)]) X dX2_gainsFrom_24 (by decide) (fun _ => rfl) hF (fun v1 hF => ?_)
    refine j_iload_n (pc := 26) 2 X dX2_gainsFrom_26 rfl ?_
    refine j_aload_n (pc := 27) 1 X dX2_gainsFrom_27 rfl ?_
    refine j_getr (pc := 28) X dX2_gainsFrom_28 (hz _ sh_181) fl_X2_19 rfl ?_
    refine j_aload_n (pc := 31) 1 X dX2_gainsFrom_31 rfl ?_
    refine j_getr (pc := 32) X dX2_gainsFrom_32 (hz _ sh_181) fl_X2_32 rfl ?_
    refine j_getr (pc := 35) X dX2_gainsFrom_35 (hz _ sh_190) fl_X2_62 rfl ?_
    refine j_iload (pc := 38) 0 X dX2_gainsFrom_38 rfl ?_
    refine j_iald (pc := 40) X dX2_gainsFrom_40 (hz _ sh_192) hF (fun hF => ?_)
    refine j_aload_n (pc := 41) 1 X dX2_gainsFrom_41 rfl ?_
    refine j_getr (pc := 42) X dX2_gainsFrom_42 (hz _ sh_181) fl_X2_9 rfl ?_
    refine j_getr (pc := 45) X dX2_gainsFrom_45 (hz _ sh_108) fl_X2_83 rfl ?_
    refine j_iload (pc := 48) 0 X dX2_gainsFrom_48 rfl ?_
    refine j_aald (pc := 50) (g := fun j => 115 + j) (C := "AfterOffice$Letter") X dX2_gainsFrom_50 (hz _ sh_111) (fun _ => rfl) rfl al_111 hF (fun hb2 hF => ?_)
    refine j_geti (pc := 51) X dX2_gainsFrom_51 (hz _ (shL (is_111 hb2))) fl_X2_87 rfl ?_
    refine j_aload_n (pc := 54) 1 X dX2_gainsFrom_54 rfl ?_
    refine j_iload (pc := 55) 0 X dX2_gainsFrom_55 rfl ?_
    refine j_cVi (pc := 57) (As := [.int v1]) (rest := [.int (h.1 (115 + ix v1) 2), .int (h.1 192 (ix v1)), .ref (Z.2.1 147), .int x2]) X dX2_gainsFrom_57 ml_X2_73 ck_X2_lateOf cv_X2_lateOf (hz _ sh_181) rfl (Nat.le_of_ble_eq_true rfl) rfl (Nat.le_of_ble_eq_true rfl) rfl hF (tX2_lateOf Z v1 hz h) (fun w4 h3 hF => ?_)
    refine j_cVi (pc := 60) (As := [.int (h.1 192 (ix v1)), .int (h.1 (115 + ix v1) 2), .int w4]) (rest := [.int x2]) X dX2_gainsFrom_60 ml_X2_92 ck_X6_gainIn cv_X6_gainIn (hz _ sh_147) rfl (Nat.le_of_ble_eq_true rfl) rfl (Nat.le_of_ble_eq_true rfl) rfl hF (tX6_gainIn Z (h.1 192 (ix v1)) (h.1 (115 + ix v1) 2) w4 hz h3) (fun w6 h5 hF => ?_)
    refine j_iadd (pc := 63) X dX2_gainsFrom_63 ?_
    refine j_istore_n (pc := 64) (fun y => [(2, .int y), (4, .int v1), (0, .ref (Z.2.1 181)), (3, .int x3)]) X dX2_gainsFrom_64 (by decide) (fun _ => rfl) hF (fun v7 hF => ?_)
    refine j_iinc (pc := 65) 3 (x3 + 1) (fun y => [(3, .int y), (2, .int v7), (4, .int v1), (0, .ref (Z.2.1 181))]) X dX2_gainsFrom_65 rfl rfl (by decide) (fun _ => rfl) hF (fun v8 hF => ?_)
    refine j_goto (pc := 68) 4 X dX2_gainsFrom_68 rfl ?_
    refine j_lv [(0, .ref (Z.2.1 181)), (2, .int v7), (3, .int v8)] [3, 1, 0] rfl ?_
    exact hr4 v7 v8 h5 hF
theorem LX2_gainsFrom_4 {Z : ZT} {G : GT} {r : Int32} {hr : Hp} (X : CX Z G cX2_gainsFrom RX2 5 4) (E : RX Z G (some .int) (some (.int r)) hr) (hz : HZ Z)  : ∀ (n : Nat) (x2 : Int32) (x3 : Int32) (h : Hp), lX2_gainsFrom_4   n x2 x3 h = some (r, hr) → J Z G 5 h 4 [(0, .ref (Z.2.1 181)), (2, .int x2), (3, .int x3)] [] := by
  intro n
  induction n with
  | zero => intro x2 x3 h hF; cases hF
  | succ n ih => intro x2 x3 h hF; exact BX2_gainsFrom_4 X E hz  (lX2_gainsFrom_4   n) ih x2 x3 h hF
def fX2_gainsFrom (a1 : Int32) (h : Hp) : Option (Int32 × Hp) := lt 0 (fun v1 => lt a1 (fun v2 => lX2_gainsFrom_4 FU v1 v2 h))
set_option maxRecDepth 20000 in
theorem tX2_gainsFrom (Z : ZT) (a1 : Int32) (hz : HZ Z) (h : Hp) (r : Int32) (hr : Hp) (hF : fX2_gainsFrom a1 h = some (r, hr)) : MC Z yX2_gainsFrom cX2_gainsFrom 5 (some .int) 4 [.ref (Z.2.1 181), .int a1] h (some (.int r)) hr := by
  unfold fX2_gainsFrom at hF
  refine mc_start (by decide) (Nat.le_of_ble_eq_true rfl) (fun G X E => ?_)
  refine j_iconst (pc := 0) 0 X dX2_gainsFrom_0 rfl ?_
  refine j_istore_n (pc := 1) (fun y => [(2, .int y), (0, .ref (Z.2.1 181)), (1, .int a1)]) X dX2_gainsFrom_1 (by decide) (fun _ => rfl) hF (fun v1 hF => ?_)
  refine j_iload_n (pc := 2) 2 X dX2_gainsFrom_2 rfl ?_
  refine j_istore_n (pc := 3) (fun y => [(3, .int y), (2, .int v1), (0, .ref (Z.2.1 181)), (1, .int a1)]) X dX2_gainsFrom_3 (by decide) (fun _ => rfl) hF (fun v2 hF => ?_)
  refine j_lv [(0, .ref (Z.2.1 181)), (2, .int v1), (3, .int v2)] [2, 1, 0] rfl ?_
  exact LX2_gainsFrom_4 X E hz FU v1 v2 h hF
theorem dX2_trySecondLooks_0 : decode cX2_trySecondLooks 0 = .ok (.aload_n 0, 1) := by decide +kernel
theorem dX2_trySecondLooks_1 : decode cX2_trySecondLooks 1 = .ok (.iconst 0, 1) := by decide +kernel
theorem dX2_trySecondLooks_2 : decode cX2_trySecondLooks 2 = .ok (.invokevirtual 121, 3) := by decide +kernel
theorem dX2_trySecondLooks_5 : decode cX2_trySecondLooks 5 = .ok (.istore_n 2, 1) := by decide +kernel
theorem dX2_trySecondLooks_6 : decode cX2_trySecondLooks 6 = .ok (.aload_n 0, 1) := by decide +kernel
theorem dX2_trySecondLooks_7 : decode cX2_trySecondLooks 7 = .ok (.getfield 32, 3) := by decide +kernel
theorem dX2_trySecondLooks_10 : decode cX2_trySecondLooks 10 = .ok (.getfield 77, 3) := by decide +kernel
theorem dX2_trySecondLooks_13 : decode cX2_trySecondLooks 13 = .ok (.istore_n 3, 1) := by decide +kernel
theorem dX2_trySecondLooks_14 : decode cX2_trySecondLooks 14 = .ok (.iload_n 1, 1) := by decide +kernel
theorem dX2_trySecondLooks_15 : decode cX2_trySecondLooks 15 = .ok (.iconst 1, 1) := by decide +kernel
theorem dX2_trySecondLooks_16 : decode cX2_trySecondLooks 16 = .ok (.iadd, 1) := by decide +kernel
theorem dX2_trySecondLooks_17 : decode cX2_trySecondLooks 17 = .ok (.istore 4, 2) := by decide +kernel
theorem dX2_trySecondLooks_19 : decode cX2_trySecondLooks 19 = .ok (.iload 4, 2) := by decide +kernel
theorem dX2_trySecondLooks_21 : decode cX2_trySecondLooks 21 = .ok (.bipush 60, 2) := by decide +kernel
theorem dX2_trySecondLooks_23 : decode cX2_trySecondLooks 23 = .ok (.if_icmp .ge 90, 3) := by decide +kernel
theorem dX2_trySecondLooks_26 : decode cX2_trySecondLooks 26 = .ok (.aload_n 0, 1) := by decide +kernel
theorem dX2_trySecondLooks_27 : decode cX2_trySecondLooks 27 = .ok (.getfield 32, 3) := by decide +kernel
theorem dX2_trySecondLooks_30 : decode cX2_trySecondLooks 30 = .ok (.iload 4, 2) := by decide +kernel
theorem dX2_trySecondLooks_32 : decode cX2_trySecondLooks 32 = .ok (.invokevirtual 105, 3) := by decide +kernel
theorem dX2_trySecondLooks_35 : decode cX2_trySecondLooks 35 = .ok (.aload_n 0, 1) := by decide +kernel
theorem dX2_trySecondLooks_36 : decode cX2_trySecondLooks 36 = .ok (.getfield 32, 3) := by decide +kernel
theorem dX2_trySecondLooks_39 : decode cX2_trySecondLooks 39 = .ok (.iload 4, 2) := by decide +kernel
theorem dX2_trySecondLooks_41 : decode cX2_trySecondLooks 41 = .ok (.invokevirtual 108, 3) := by decide +kernel
theorem dX2_trySecondLooks_44 : decode cX2_trySecondLooks 44 = .ok (.aload_n 0, 1) := by decide +kernel
theorem dX2_trySecondLooks_45 : decode cX2_trySecondLooks 45 = .ok (.getfield 32, 3) := by decide +kernel
theorem dX2_trySecondLooks_48 : decode cX2_trySecondLooks 48 = .ok (.getfield 124, 3) := by decide +kernel
theorem dX2_trySecondLooks_51 : decode cX2_trySecondLooks 51 = .ok (.istore 5, 2) := by decide +kernel
theorem dX2_trySecondLooks_53 : decode cX2_trySecondLooks 53 = .ok (.aload_n 0, 1) := by decide +kernel
theorem dX2_trySecondLooks_54 : decode cX2_trySecondLooks 54 = .ok (.getfield 32, 3) := by decide +kernel
theorem dX2_trySecondLooks_57 : decode cX2_trySecondLooks 57 = .ok (.iload 4, 2) := by decide +kernel
theorem dX2_trySecondLooks_59 : decode cX2_trySecondLooks 59 = .ok (.invokevirtual 115, 3) := by decide +kernel
theorem dX2_trySecondLooks_62 : decode cX2_trySecondLooks 62 = .ok (.iload_n 2, 1) := by decide +kernel
theorem dX2_trySecondLooks_63 : decode cX2_trySecondLooks 63 = .ok (.aload_n 0, 1) := by decide +kernel
theorem dX2_trySecondLooks_64 : decode cX2_trySecondLooks 64 = .ok (.iload_n 3, 1) := by decide +kernel
theorem dX2_trySecondLooks_65 : decode cX2_trySecondLooks 65 = .ok (.invokevirtual 121, 3) := by decide +kernel
theorem dX2_trySecondLooks_68 : decode cX2_trySecondLooks 68 = .ok (.iadd, 1) := by decide +kernel
theorem dX2_trySecondLooks_69 : decode cX2_trySecondLooks 69 = .ok (.istore 6, 2) := by decide +kernel
theorem dX2_trySecondLooks_71 : decode cX2_trySecondLooks 71 = .ok (.iload 6, 2) := by decide +kernel
theorem dX2_trySecondLooks_73 : decode cX2_trySecondLooks 73 = .ok (.aload_n 0, 1) := by decide +kernel
theorem dX2_trySecondLooks_74 : decode cX2_trySecondLooks 74 = .ok (.getfield 102, 3) := by decide +kernel
theorem dX2_trySecondLooks_77 : decode cX2_trySecondLooks 77 = .ok (.if_icmp .le 20, 3) := by decide +kernel
theorem dX2_trySecondLooks_80 : decode cX2_trySecondLooks 80 = .ok (.aload_n 0, 1) := by decide +kernel
theorem dX2_trySecondLooks_81 : decode cX2_trySecondLooks 81 = .ok (.iload 6, 2) := by decide +kernel
theorem dX2_trySecondLooks_83 : decode cX2_trySecondLooks 83 = .ok (.putfield 102, 3) := by decide +kernel
theorem dX2_trySecondLooks_86 : decode cX2_trySecondLooks 86 = .ok (.aload_n 0, 1) := by decide +kernel
theorem dX2_trySecondLooks_87 : decode cX2_trySecondLooks 87 = .ok (.iload_n 1, 1) := by decide +kernel
theorem dX2_trySecondLooks_88 : decode cX2_trySecondLooks 88 = .ok (.putfield 127, 3) := by decide +kernel
theorem dX2_trySecondLooks_91 : decode cX2_trySecondLooks 91 = .ok (.aload_n 0, 1) := by decide +kernel
theorem dX2_trySecondLooks_92 : decode cX2_trySecondLooks 92 = .ok (.iload 4, 2) := by decide +kernel
theorem dX2_trySecondLooks_94 : decode cX2_trySecondLooks 94 = .ok (.putfield 130, 3) := by decide +kernel
theorem dX2_trySecondLooks_97 : decode cX2_trySecondLooks 97 = .ok (.aload_n 0, 1) := by decide +kernel
theorem dX2_trySecondLooks_98 : decode cX2_trySecondLooks 98 = .ok (.getfield 32, 3) := by decide +kernel
theorem dX2_trySecondLooks_101 : decode cX2_trySecondLooks 101 = .ok (.iload_n 3, 1) := by decide +kernel
theorem dX2_trySecondLooks_102 : decode cX2_trySecondLooks 102 = .ok (.iload 5, 2) := by decide +kernel
theorem dX2_trySecondLooks_104 : decode cX2_trySecondLooks 104 = .ok (.invokevirtual 133, 3) := by decide +kernel
theorem dX2_trySecondLooks_107 : decode cX2_trySecondLooks 107 = .ok (.iinc 4 1, 3) := by decide +kernel
theorem dX2_trySecondLooks_110 : decode cX2_trySecondLooks 110 = .ok (.goto (-91), 3) := by decide +kernel
theorem dX2_trySecondLooks_113 : decode cX2_trySecondLooks 113 = .ok (.return_, 1) := by decide +kernel
def bX2_trySecondLooks_97  (r19 : Int32 → Int32 → Int32 → Int32 → Hp → Option (Hp)) (x1 : Int32) (x2 : Int32) (x3 : Int32) (x4 : Int32) (x5 : Int32) (h : Hp) : Option (Hp) := bv (fX1_shutAgain 190 x3 x5 h) (fun h1 => lt (x4 + 1) (fun v2 => r19 x1 x2 x3 v2 h1))
set_option maxRecDepth 20000 in
theorem BX2_trySecondLooks_97 {Z : ZT} {G : GT} {hr : Hp} (X : CX Z G cX2_trySecondLooks RX2 7 5) (E : RX Z G none (none) hr) (hz : HZ Z) (r19 : Int32 → Int32 → Int32 → Int32 → Hp → Option (Hp)) (hr19 : ∀ (x1 : Int32) (x2 : Int32) (x3 : Int32) (x4 : Int32) (h : Hp), r19 x1 x2 x3 x4 h = some hr → J Z G 7 h 19 [(0, .ref (Z.2.1 181)), (1, .int x1), (2, .int x2), (3, .int x3), (4, .int x4)] []) (x1 : Int32) (x2 : Int32) (x3 : Int32) (x4 : Int32) (x5 : Int32) (h : Hp) (hF : bX2_trySecondLooks_97  r19 x1 x2 x3 x4 x5 h = some hr) : J Z G 7 h 97 [(0, .ref (Z.2.1 181)), (1, .int x1), (2, .int x2), (3, .int x3), (4, .int x4), (5, .int x5)] [] := by
  unfold bX2_trySecondLooks_97 at hF
  refine j_aload_n (pc := 97) 0 X dX2_trySecondLooks_97 rfl ?_
  refine j_getr (pc := 98) X dX2_trySecondLooks_98 (hz _ sh_181) fl_X2_32 rfl ?_
  refine j_iload_n (pc := 101) 3 X dX2_trySecondLooks_101 rfl ?_
  refine j_iload (pc := 102) 5 X dX2_trySecondLooks_102 rfl ?_
  refine j_cVv (pc := 104) (As := [.int x3, .int x5]) (rest := []) X dX2_trySecondLooks_104 ml_X2_133 ck_X1_shutAgain cv_X1_shutAgain (hz _ sh_190) rfl (Nat.le_of_ble_eq_true rfl) rfl (Nat.le_of_ble_eq_true rfl) rfl hF (tX1_shutAgain Z 190 isC_190 x3 x5 hz h) (fun h1 hF => ?_)
  refine j_iinc (pc := 107) 4 (x4 + 1) (fun y => [(4, .int y), (0, .ref (Z.2.1 181)), (1, .int x1), (2, .int x2), (3, .int x3), (5, .int x5)]) X dX2_trySecondLooks_107 rfl rfl (by decide) (fun _ => rfl) hF (fun v2 hF => ?_)
  refine j_goto (pc := 110) 19 X dX2_trySecondLooks_110 rfl ?_
  refine j_lv [(0, .ref (Z.2.1 181)), (1, .int x1), (2, .int x2), (3, .int x3), (4, .int v2)] [1, 2, 3, 4, 0] rfl ?_
  exact hr19 x1 x2 x3 v2 h1 hF
def bX2_trySecondLooks_19   (r19 : Int32 → Int32 → Int32 → Int32 → Hp → Option (Hp)) (x1 : Int32) (x2 : Int32) (x3 : Int32) (x4 : Int32) (h : Hp) : Option (Hp) := (if 60 ≤ x4 then some h else bv (fX1_takeFacts 190 x4 h) (fun h1 => bv (fX1_payFees 190 x4 h1) (fun h2 => lt (h2.1 190 12) (fun v3 => bv (fX1_lookUp 190 x4 h2) (fun h4 => bi (fX2_gainsFrom x3 h4) (fun w6 h5 => lt (x2 + w6) (fun v7 => (if v7 ≤ (h5.1 181 8) then bX2_trySecondLooks_97 r19 x1 x2 x3 x4 v3 h5 else lt (wI h5 181 8 v7) (fun h8 => lt (wI h8 181 6 x1) (fun h9 => lt (wI h9 181 7 x4) (fun h10 => bX2_trySecondLooks_97 r19 x1 x2 x3 x4 v3 h10)))))))))))
def lX2_trySecondLooks_19   : Nat → Int32 → Int32 → Int32 → Int32 → Hp → Option (Hp)
  | 0 => fun _ _ _ _ _ => none
  | n + 1 => bX2_trySecondLooks_19   (lX2_trySecondLooks_19   n)
set_option maxRecDepth 20000 in
theorem BX2_trySecondLooks_19 {Z : ZT} {G : GT} {hr : Hp} (X : CX Z G cX2_trySecondLooks RX2 7 5) (E : RX Z G none (none) hr) (hz : HZ Z)  (r19 : Int32 → Int32 → Int32 → Int32 → Hp → Option (Hp)) (hr19 : ∀ (x1 : Int32) (x2 : Int32) (x3 : Int32) (x4 : Int32) (h : Hp), r19 x1 x2 x3 x4 h = some hr → J Z G 7 h 19 [(0, .ref (Z.2.1 181)), (1, .int x1), (2, .int x2), (3, .int x3), (4, .int x4)] []) (x1 : Int32) (x2 : Int32) (x3 : Int32) (x4 : Int32) (h : Hp) (hF : bX2_trySecondLooks_19   r19 x1 x2 x3 x4 h = some hr) : J Z G 7 h 19 [(0, .ref (Z.2.1 181)), (1, .int x1), (2, .int x2), (3, .int x3), (4, .int x4)] [] := by
  unfold bX2_trySecondLooks_19 at hF
  refine j_iload (pc := 19) 4 X dX2_trySecondLooks_19 rfl ?_
  refine j_bipush (pc := 21) 60 X dX2_trySecondLooks_21 rfl ?_
  refine j_icmp_ge (pc := 23) 113 X dX2_trySecondLooks_23 rfl hF (fun hF => ?_) (fun hF => ?_)
  · exact j_vret (pc := 113) X E dX2_trySecondLooks_113 hF
  · refine j_aload_n (pc := 26) 0 X dX2_trySecondLooks_26 rfl ?_
    refine j_getr (pc := 27) X dX2_trySecondLooks_27 (hz _ sh_181) fl_X2_32 rfl ?_
    refine j_iload (pc := 30) 4 X dX2_trySecondLooks_30 rfl ?_
    refine j_cVv (pc := 32) (As := [.int x4]) (rest := []) X dX2_trySecondLooks_32 ml_X2_105 ck_X1_takeFacts cv_X1_takeFacts (hz _ sh_190) rfl (Nat.le_of_ble_eq_true rfl) rfl (Nat.le_of_ble_eq_true rfl) rfl hF (tX1_takeFacts Z 190 isC_190 x4 hz h) (fun h1 hF => ?_)
    refine j_aload_n (pc := 35) 0 X dX2_trySecondLooks_35 rfl ?_
    refine j_getr (pc := 36) X dX2_trySecondLooks_36 (hz _ sh_181) fl_X2_32 rfl ?_
    refine j_iload (pc := 39) 4 X dX2_trySecondLooks_39 rfl ?_
    refine j_cVv (pc := 41) (As := [.int x4]) (rest := []) X dX2_trySecondLooks_41 ml_X2_108 ck_X1_payFees cv_X1_payFees (hz _ sh_190) rfl (Nat.le_of_ble_eq_true rfl) rfl (Nat.le_of_ble_eq_true rfl) rfl hF (tX1_payFees Z 190 isC_190 x4 hz h1) (fun h2 hF => ?_)
    refine j_aload_n (pc := 44) 0 X dX2_trySecondLooks_44 rfl ?_
    refine j_getr (pc := 45) X dX2_trySecondLooks_45 (hz _ sh_181) fl_X2_32 rfl ?_
    refine j_geti (pc := 48) X dX2_trySecondLooks_48 (hz _ sh_190) fl_X2_124 rfl ?_
    refine j_istore (pc := 51) (fun y => [(5, .int y), (0, .ref (Z.2.1 181)), (1, .int x1), (2, .int x2), (3, .int x3), (4, .int x4)]) X dX2_trySecondLooks_51 (by decide) (fun _ => rfl) hF (fun v3 hF => ?_)
    refine j_aload_n (pc := 53) 1 X dX2_trySecondLooks_53 rfl ?_
    refine j_getr (pc := 54) X dX2_trySecondLooks_54 (hz _ sh_181) fl_X2_32 rfl ?_
    refine j_iload (pc := 57) 5 X dX2_trySecondLooks_57 rfl ?_
    refine j_cVv (pc := 59) (As := [.int x4]) (rest := []) X dX2_trySecondLooks_59 ml_X2_115 ck_X1_lookUp cv_X1_lookUp (hz _ sh_190) rfl (Nat.le_of_ble_eq_true rfl) rfl (Nat.le_of_ble_eq_true rfl) rfl hF (tX1_lookUp Z 190 isC_190 x4 hz h2) (fun h4 hF => ?_)
    refine j_iload_n (pc := 62) 3 X dX2_trySecondLooks_62 rfl ?_
    refine j_aload_n (pc := 63) 1 X dX2_trySecondLooks_63 rfl ?_
    refine j_iload_n (pc := 64) 4 X dX2_trySecondLooks_64 rfl ?_
    refine j_cVi (pc := 65) (As := [.int x3]) (rest := [.int x2]) X dX2_trySecondLooks_65 ml_X2_121 ck_X2_gainsFrom cv_X2_gainsFrom (hz _ sh_181) rfl (Nat.le_of_ble_eq_true rfl) rfl (Nat.le_of_ble_eq_true rfl) rfl hF (tX2_gainsFrom Z x3 hz h4) (fun w6 h5 hF => ?_)
    refine j_iadd (pc := 68) X dX2_trySecondLooks_68 ?_
    refine j_istore (pc := 69) (fun y => [(6, .int y), (5, .int v3), (0, .ref (Z.2.1 181)), (1, .int x1), (2, .int x2), (3, .int x3), (4, .int x4)]) X dX2_trySecondLooks_69 (by decide) (fun _ => rfl) hF (fun v7 hF => ?_)
    refine j_iload (pc := 71) 0 X dX2_trySecondLooks_71 rfl ?_
    refine j_aload_n (pc := 73) 2 X dX2_trySecondLooks_73 rfl ?_
    refine j_geti (pc := 74) X dX2_trySecondLooks_74 (hz _ sh_181) fl_X2_102 rfl ?_
    refine j_icmp_le (pc := 77) 97 X dX2_trySecondLooks_77 rfl hF (fun hF => ?_) (fun hF => ?_)
    · refine j_lv [(0, .ref (Z.2.1 181)), (1, .int x1), (2, .int x2), (3, .int x3), (4, .int x4), (5, .int v3)] [2, 3, 4, 5, 6, 1] rfl ?_
      exact BX2_trySecondLooks_97 X E hz r19 hr19 x1 x2 x3 x4 v3 h5 hF
    · refine j_aload_n (pc := 80) 2 X dX2_trySecondLooks_80 rfl ?_
      refine j_iload (pc := 81) 0 X dX2_trySecondLooks_81 rfl ?_
      refine j_puti (pc := 83) X dX2_trySecondLooks_83 (hz _ sh_181) fp_X2_102 rfl hF (fun h8 hF => ?_)
      refine j_aload_n (pc := 86) 2 X dX2_trySecondLooks_86 rfl ?_
      refine j_iload_n (pc := 87) 3 X dX2_trySecondLooks_87 rfl ?_
      refine j_puti (pc := 88) X dX2_trySecondLooks_88 (hz _ sh_181) fp_X2_127 rfl hF (fun h9 hF => ?_)
      refine j_aload_n (pc := 91) 2 X dX2_trySecondLooks_91 rfl ?_
      refine j_iload (pc := 92) 6 X dX2_trySecondLooks_92 rfl ?_
      refine j_puti (pc := 94) X dX2_trySecondLooks_94 (hz _ sh_181) fp_X2_130 rfl hF (fun h10 hF => ?_)
      refine j_lv [(0, .ref (Z.2.1 181)), (1, .int x1), (2, .int x2), (3, .int x3), (4, .int x4), (5, .int v3)] [2, 3, 4, 5, 6, 1] rfl ?_
      exact BX2_trySecondLooks_97 X E hz r19 hr19 x1 x2 x3 x4 v3 h10 hF
theorem LX2_trySecondLooks_19 {Z : ZT} {G : GT} {hr : Hp} (X : CX Z G cX2_trySecondLooks RX2 7 5) (E : RX Z G none (none) hr) (hz : HZ Z)  : ∀ (n : Nat) (x1 : Int32) (x2 : Int32) (x3 : Int32) (x4 : Int32) (h : Hp), lX2_trySecondLooks_19   n x1 x2 x3 x4 h = some hr → J Z G 7 h 19 [(0, .ref (Z.2.1 181)), (1, .int x1), (2, .int x2), (3, .int x3), (4, .int x4)] [] := by
  intro n
  induction n with
  | zero => intro x1 x2 x3 x4 h hF; cases hF
  | succ n ih => intro x1 x2 x3 x4 h hF; exact BX2_trySecondLooks_19 X E hz  (lX2_trySecondLooks_19   n) ih x1 x2 x3 x4 h hF
def fX2_trySecondLooks (a1 : Int32) (h : Hp) : Option (Hp) := bi (fX2_gainsFrom 0 h) (fun w2 h1 => lt w2 (fun v3 => lt (h1.1 190 10) (fun v4 => lt (a1 + 1) (fun v5 => lX2_trySecondLooks_19 FU a1 v3 v4 v5 h1))))
set_option maxRecDepth 20000 in
theorem tX2_trySecondLooks (Z : ZT) (a1 : Int32) (hz : HZ Z) (h : Hp) (hr : Hp) (hF : fX2_trySecondLooks a1 h = some hr) : MC Z yX2_trySecondLooks cX2_trySecondLooks 7 none 5 [.ref (Z.2.1 181), .int a1] h (none) hr := by
  unfold fX2_trySecondLooks at hF
  refine mc_start (by decide) (Nat.le_of_ble_eq_true rfl) (fun G X E => ?_)
  refine j_aload_n (pc := 0) 0 X dX2_trySecondLooks_0 rfl ?_
  refine j_iconst (pc := 1) 0 X dX2_trySecondLooks_1 rfl ?_
  refine j_cVi (pc := 2) (As := [.int 0]) (rest := []) X dX2_trySecondLooks_2 ml_X2_121 ck_X2_gainsFrom cv_X2_gainsFrom (hz _ sh_181) rfl (Nat.le_of_ble_eq_true rfl) rfl (Nat.le_of_ble_eq_true rfl) rfl hF (tX2_gainsFrom Z 0 hz h) (fun w2 h1 hF => ?_)
  refine j_istore_n (pc := 5) (fun y => [(2, .int y), (0, .ref (Z.2.1 181)), (1, .int a1)]) X dX2_trySecondLooks_5 (by decide) (fun _ => rfl) hF (fun v3 hF => ?_)
  refine j_aload_n (pc := 6) 1 X dX2_trySecondLooks_6 rfl ?_
  refine j_getr (pc := 7) X dX2_trySecondLooks_7 (hz _ sh_181) fl_X2_32 rfl ?_
  refine j_geti (pc := 10) X dX2_trySecondLooks_10 (hz _ sh_190) fl_X2_77 rfl ?_
  refine j_istore_n (pc := 13) (fun y => [(3, .int y), (2, .int v3), (0, .ref (Z.2.1 181)), (1, .int a1)]) X dX2_trySecondLooks_13 (by decide) (fun _ => rfl) hF (fun v4 hF => ?_)
  refine j_iload_n (pc := 14) 3 X dX2_trySecondLooks_14 rfl ?_
  refine j_iconst (pc := 15) 1 X dX2_trySecondLooks_15 rfl ?_
  refine j_iadd (pc := 16) X dX2_trySecondLooks_16 ?_
  refine j_istore (pc := 17) (fun y => [(4, .int y), (3, .int v4), (2, .int v3), (0, .ref (Z.2.1 181)), (1, .int a1)]) X dX2_trySecondLooks_17 (by decide) (fun _ => rfl) hF (fun v5 hF => ?_)
  refine j_lv [(0, .ref (Z.2.1 181)), (1, .int a1), (2, .int v3), (3, .int v4), (4, .int v5)] [3, 4, 2, 1, 0] rfl ?_
  exact LX2_trySecondLooks_19 X E hz FU a1 v3 v4 v5 h1 hF
theorem dX2_seekTwoLooks_0 : decode cX2_seekTwoLooks 0 = .ok (.aload_n 0, 1) := by decide +kernel
theorem dX2_seekTwoLooks_1 : decode cX2_seekTwoLooks 1 = .ok (.getfield 15, 3) := by decide +kernel
theorem dX2_seekTwoLooks_4 : decode cX2_seekTwoLooks 4 = .ok (.iload_n 1, 1) := by decide +kernel
theorem dX2_seekTwoLooks_5 : decode cX2_seekTwoLooks 5 = .ok (.invokevirtual 38, 3) := by decide +kernel
theorem dX2_seekTwoLooks_8 : decode cX2_seekTwoLooks 8 = .ok (.aload_n 0, 1) := by decide +kernel
theorem dX2_seekTwoLooks_9 : decode cX2_seekTwoLooks 9 = .ok (.getfield 28, 3) := by decide +kernel
theorem dX2_seekTwoLooks_12 : decode cX2_seekTwoLooks 12 = .ok (.iconst 1, 1) := by decide +kernel
theorem dX2_seekTwoLooks_13 : decode cX2_seekTwoLooks 13 = .ok (.bipush 59, 2) := by decide +kernel
theorem dX2_seekTwoLooks_15 : decode cX2_seekTwoLooks 15 = .ok (.iconst 0, 1) := by decide +kernel
theorem dX2_seekTwoLooks_16 : decode cX2_seekTwoLooks 16 = .ok (.invokevirtual 44, 3) := by decide +kernel
theorem dX2_seekTwoLooks_19 : decode cX2_seekTwoLooks 19 = .ok (.aload_n 0, 1) := by decide +kernel
theorem dX2_seekTwoLooks_20 : decode cX2_seekTwoLooks 20 = .ok (.getfield 35, 3) := by decide +kernel
theorem dX2_seekTwoLooks_23 : decode cX2_seekTwoLooks 23 = .ok (.iconst 0, 1) := by decide +kernel
theorem dX2_seekTwoLooks_24 : decode cX2_seekTwoLooks 24 = .ok (.invokevirtual 98, 3) := by decide +kernel
theorem dX2_seekTwoLooks_27 : decode cX2_seekTwoLooks 27 = .ok (.aload_n 0, 1) := by decide +kernel
theorem dX2_seekTwoLooks_28 : decode cX2_seekTwoLooks 28 = .ok (.iconst (-1), 1) := by decide +kernel
theorem dX2_seekTwoLooks_29 : decode cX2_seekTwoLooks 29 = .ok (.putfield 102, 3) := by decide +kernel
theorem dX2_seekTwoLooks_32 : decode cX2_seekTwoLooks 32 = .ok (.iconst 0, 1) := by decide +kernel
theorem dX2_seekTwoLooks_33 : decode cX2_seekTwoLooks 33 = .ok (.istore_n 2, 1) := by decide +kernel
theorem dX2_seekTwoLooks_34 : decode cX2_seekTwoLooks 34 = .ok (.iload_n 2, 1) := by decide +kernel
theorem dX2_seekTwoLooks_35 : decode cX2_seekTwoLooks 35 = .ok (.bipush 59, 2) := by decide +kernel
theorem dX2_seekTwoLooks_37 : decode cX2_seekTwoLooks 37 = .ok (.if_icmp .ge 49, 3) := by decide +kernel
theorem dX2_seekTwoLooks_40 : decode cX2_seekTwoLooks 40 = .ok (.aload_n 0, 1) := by decide +kernel
theorem dX2_seekTwoLooks_41 : decode cX2_seekTwoLooks 41 = .ok (.getfield 35, 3) := by decide +kernel
theorem dX2_seekTwoLooks_44 : decode cX2_seekTwoLooks 44 = .ok (.iload_n 2, 1) := by decide +kernel
theorem dX2_seekTwoLooks_45 : decode cX2_seekTwoLooks 45 = .ok (.invokevirtual 105, 3) := by decide +kernel
theorem dX2_seekTwoLooks_48 : decode cX2_seekTwoLooks 48 = .ok (.aload_n 0, 1) := by decide +kernel
theorem dX2_seekTwoLooks_49 : decode cX2_seekTwoLooks 49 = .ok (.getfield 35, 3) := by decide +kernel
theorem dX2_seekTwoLooks_52 : decode cX2_seekTwoLooks 52 = .ok (.iload_n 2, 1) := by decide +kernel
theorem dX2_seekTwoLooks_53 : decode cX2_seekTwoLooks 53 = .ok (.invokevirtual 108, 3) := by decide +kernel
theorem dX2_seekTwoLooks_56 : decode cX2_seekTwoLooks 56 = .ok (.aload_n 0, 1) := by decide +kernel
theorem dX2_seekTwoLooks_57 : decode cX2_seekTwoLooks 57 = .ok (.getfield 32, 3) := by decide +kernel
theorem dX2_seekTwoLooks_60 : decode cX2_seekTwoLooks 60 = .ok (.aload_n 0, 1) := by decide +kernel
theorem dX2_seekTwoLooks_61 : decode cX2_seekTwoLooks 61 = .ok (.getfield 35, 3) := by decide +kernel
theorem dX2_seekTwoLooks_64 : decode cX2_seekTwoLooks 64 = .ok (.invokevirtual 111, 3) := by decide +kernel
theorem dX2_seekTwoLooks_67 : decode cX2_seekTwoLooks 67 = .ok (.aload_n 0, 1) := by decide +kernel
theorem dX2_seekTwoLooks_68 : decode cX2_seekTwoLooks 68 = .ok (.getfield 32, 3) := by decide +kernel
theorem dX2_seekTwoLooks_71 : decode cX2_seekTwoLooks 71 = .ok (.iload_n 2, 1) := by decide +kernel
theorem dX2_seekTwoLooks_72 : decode cX2_seekTwoLooks 72 = .ok (.invokevirtual 115, 3) := by decide +kernel
theorem dX2_seekTwoLooks_75 : decode cX2_seekTwoLooks 75 = .ok (.aload_n 0, 1) := by decide +kernel
theorem dX2_seekTwoLooks_76 : decode cX2_seekTwoLooks 76 = .ok (.iload_n 2, 1) := by decide +kernel
theorem dX2_seekTwoLooks_77 : decode cX2_seekTwoLooks 77 = .ok (.invokevirtual 118, 3) := by decide +kernel
theorem dX2_seekTwoLooks_80 : decode cX2_seekTwoLooks 80 = .ok (.iinc 2 1, 3) := by decide +kernel
theorem dX2_seekTwoLooks_83 : decode cX2_seekTwoLooks 83 = .ok (.goto (-49), 3) := by decide +kernel
theorem dX2_seekTwoLooks_86 : decode cX2_seekTwoLooks 86 = .ok (.return_, 1) := by decide +kernel
def bX2_seekTwoLooks_34   (r34 : Int32 → Hp → Option (Hp)) (x2 : Int32) (h : Hp) : Option (Hp) := (if 59 ≤ x2 then some h else bv (fX1_takeFacts 198 x2 h) (fun h1 => bv (fX1_payFees 198 x2 h1) (fun h2 => bv (fX1_become 190 198 h2) (fun h3 => bv (fX1_lookUp 190 x2 h3) (fun h4 => bv (fX2_trySecondLooks x2 h4) (fun h5 => lt (x2 + 1) (fun v6 => r34 v6 h5)))))))
def lX2_seekTwoLooks_34   : Nat → Int32 → Hp → Option (Hp)
  | 0 => fun _ _ => none
  | n + 1 => bX2_seekTwoLooks_34   (lX2_seekTwoLooks_34   n)
set_option maxRecDepth 20000 in
theorem BX2_seekTwoLooks_34 {Z : ZT} {G : GT} {hr : Hp} (X : CX Z G cX2_seekTwoLooks RX2 3 6) (E : RX Z G none (none) hr) (hz : HZ Z)  (r34 : Int32 → Hp → Option (Hp)) (hr34 : ∀ (x2 : Int32) (h : Hp), r34 x2 h = some hr → J Z G 3 h 34 [(0, .ref (Z.2.1 181)), (2, .int x2)] []) (x2 : Int32) (h : Hp) (hF : bX2_seekTwoLooks_34   r34 x2 h = some hr) : J Z G 3 h 34 [(0, .ref (Z.2.1 181)), (2, .int x2)] [] := by
  unfold bX2_seekTwoLooks_34 at hF
  refine j_iload_n (pc := 34) 1 X dX2_seekTwoLooks_34 rfl ?_
  refine j_bipush (pc := 35) 59 X dX2_seekTwoLooks_35 rfl ?_
  refine j_icmp_ge (pc := 37) 86 X dX2_seekTwoLooks_37 rfl hF (fun hF => ?_) (fun hF => ?_)
  · exact j_vret (pc := 86) X E dX2_seekTwoLooks_86 hF
  · refine j_aload_n (pc := 40) 0 X dX2_seekTwoLooks_40 rfl ?_
    refine j_getr (pc := 41) X dX2_seekTwoLooks_41 (hz _ sh_181) fl_X2_35 rfl ?_
    refine j_iload_n (pc := 44) 1 X dX2_seekTwoLooks_44 rfl ?_
    refine j_cVv (pc := 45) (As := [.int x2]) (rest := []) X dX2_seekTwoLooks_45 ml_X2_105 ck_X1_takeFacts cv_X1_takeFacts (hz _ sh_198) rfl (Nat.le_of_ble_eq_true rfl) rfl (Nat.le_of_ble_eq_true rfl) rfl hF (tX1_takeFacts Z 198 isC_198 x2 hz h) (fun h1 hF => ?_)
    refine j_aload_n (pc := 48) 0 X dX2_seekTwoLooks_48 rfl ?_
    refine j_getr (pc := 49) X dX2_seekTwoLooks_49 (hz _ sh_181) fl_X2_35 rfl ?_
    refine j_iload_n (pc := 52) 1 X dX2_seekTwoLooks_52 rfl ?_
    refine j_cVv (pc := 53) (As := [.int x2]) (rest := []) X dX2_seekTwoLooks_53 ml_X2_108 ck_X1_payFees cv_X1_payFees (hz _ sh_198) rfl (Nat.le_of_ble_eq_true rfl) rfl (Nat.le_of_ble_eq_true rfl) rfl hF (tX1_payFees Z 198 isC_198 x2 hz h1) (fun h2 hF => ?_)
    refine j_aload_n (pc := 56) 0 X dX2_seekTwoLooks_56 rfl ?_
    refine j_getr (pc := 57) X dX2_seekTwoLooks_57 (hz _ sh_181) fl_X2_32 rfl ?_
    refine j_aload_n (pc := 60) 0 X dX2_seekTwoLooks_60 rfl ?_
    refine j_getr (pc := 61) X dX2_seekTwoLooks_61 (hz _ sh_181) fl_X2_35 rfl ?_
    refine j_cVv (pc := 64) (As := [.ref (Z.2.1 198)]) (rest := []) X dX2_seekTwoLooks_64 ml_X2_111 ck_X1_become cv_X1_become (hz _ sh_190) rfl (Nat.le_of_ble_eq_true rfl) rfl (Nat.le_of_ble_eq_true rfl) rfl hF (tX1_become Z 190 isC_190 198 isC_198 hz h2) (fun h3 hF => ?_)
    refine j_aload_n (pc := 67) 0 X dX2_seekTwoLooks_67 rfl ?_
    refine j_getr (pc := 68) X dX2_seekTwoLooks_68 (hz _ sh_181) fl_X2_32 rfl ?_
    refine j_iload_n (pc := 71) 1 X dX2_seekTwoLooks_71 rfl ?_
    refine j_cVv (pc := 72) (As := [.int x2]) (rest := []) X dX2_seekTwoLooks_72 ml_X2_115 ck_X1_lookUp cv_X1_lookUp (hz _ sh_190) rfl (Nat.le_of_ble_eq_true rfl) rfl (Nat.le_of_ble_eq_true rfl) rfl hF (tX1_lookUp Z 190 isC_190 x2 hz h3) (fun h4 hF => ?_)
    refine j_aload_n (pc := 75) 0 X dX2_seekTwoLooks_75 rfl ?_
    refine j_iload_n (pc := 76) 1 X dX2_seekTwoLooks_76 rfl ?_
    refine j_cVv (pc := 77) (As := [.int x2]) (rest := []) X dX2_seekTwoLooks_77 ml_X2_118 ck_X2_trySecondLooks cv_X2_trySecondLooks (hz _ sh_181) rfl (Nat.le_of_ble_eq_true rfl) rfl (Nat.le_of_ble_eq_true rfl) rfl hF (tX2_trySecondLooks Z x2 hz h4) (fun h5 hF => ?_)
    refine j_iinc (pc := 80) 1 (x2 + 1) (fun y => [(2, .int y), (0, .ref (Z.2.1 181))]) X dX2_seekTwoLooks_80 rfl rfl (by decide) (fun _ => rfl) hF (fun v6 hF => ?_)
    refine j_goto (pc := 83) 34 X dX2_seekTwoLooks_83 rfl ?_
    refine j_lv [(0, .ref (Z.2.1 181)), (2, .int v6)] [1, 0] rfl ?_
    exact hr34 v6 h5 hF
theorem LX2_seekTwoLooks_34 {Z : ZT} {G : GT} {hr : Hp} (X : CX Z G cX2_seekTwoLooks RX2 3 6) (E : RX Z G none (none) hr) (hz : HZ Z)  : ∀ (n : Nat) (x2 : Int32) (h : Hp), lX2_seekTwoLooks_34   n x2 h = some hr → J Z G 3 h 34 [(0, .ref (Z.2.1 181)), (2, .int x2)] [] := by
  intro n
  induction n with
  | zero => intro x2 h hF; cases hF
  | succ n ih => intro x2 h hF; exact BX2_seekTwoLooks_34 X E hz  (lX2_seekTwoLooks_34   n) ih x2 h hF
def fX2_seekTwoLooks (a1 : Int32) (h : Hp) : Option (Hp) := bv (fX3_arrange a1 h) (fun h1 => bv (fX1_walk 182 1 59 0 h1) (fun h2 => bv (fX1_begin 198 0 h2) (fun h3 => lt (wI h3 181 8 (-1)) (fun h4 => lt 0 (fun v5 => lX2_seekTwoLooks_34 FU v5 h4)))))
set_option maxRecDepth 20000 in
theorem tX2_seekTwoLooks (Z : ZT) (a1 : Int32) (hz : HZ Z) (h : Hp) (hr : Hp) (hF : fX2_seekTwoLooks a1 h = some hr) : MC Z yX2_seekTwoLooks cX2_seekTwoLooks 3 none 6 [.ref (Z.2.1 181), .int a1] h (none) hr := by
  unfold fX2_seekTwoLooks at hF
  refine mc_start (by decide) (Nat.le_of_ble_eq_true rfl) (fun G X E => ?_)
  refine j_aload_n (pc := 0) 0 X dX2_seekTwoLooks_0 rfl ?_
  refine j_getr (pc := 1) X dX2_seekTwoLooks_1 (hz _ sh_181) fl_X2_15 rfl ?_
  refine j_iload_n (pc := 4) 1 X dX2_seekTwoLooks_4 rfl ?_
  refine j_cVv (pc := 5) (As := [.int a1]) (rest := []) X dX2_seekTwoLooks_5 ml_X2_38 ck_X3_arrange cv_X3_arrange (hz _ sh_152) rfl (Nat.le_of_ble_eq_true rfl) rfl (Nat.le_of_ble_eq_true rfl) rfl hF (tX3_arrange Z a1 hz h) (fun h1 hF => ?_)
  refine j_aload_n (pc := 8) 0 X dX2_seekTwoLooks_8 rfl ?_
  refine j_getr (pc := 9) X dX2_seekTwoLooks_9 (hz _ sh_181) fl_X2_28 rfl ?_
  refine j_iconst (pc := 12) 1 X dX2_seekTwoLooks_12 rfl ?_
  refine j_bipush (pc := 13) 59 X dX2_seekTwoLooks_13 rfl ?_
  refine j_iconst (pc := 15) 0 X dX2_seekTwoLooks_15 rfl ?_
  refine j_cVv (pc := 16) (As := [.int 1, .int 59, .int 0]) (rest := []) X dX2_seekTwoLooks_16 ml_X2_44 ck_X1_walk cv_X1_walk (hz _ sh_182) rfl (Nat.le_of_ble_eq_true rfl) rfl (Nat.le_of_ble_eq_true rfl) rfl hF (tX1_walk Z 182 isC_182 1 59 0 hz h1) (fun h2 hF => ?_)
  refine j_aload_n (pc := 19) 0 X dX2_seekTwoLooks_19 rfl ?_
  refine j_getr (pc := 20) X dX2_seekTwoLooks_20 (hz _ sh_181) fl_X2_35 rfl ?_
  refine j_iconst (pc := 23) 0 X dX2_seekTwoLooks_23 rfl ?_
  refine j_cVv (pc := 24) (As := [.int 0]) (rest := []) X dX2_seekTwoLooks_24 ml_X2_98 ck_X1_begin cv_X1_begin (hz _ sh_198) rfl (Nat.le_of_ble_eq_true rfl) rfl (Nat.le_of_ble_eq_true rfl) rfl hF (tX1_begin Z 198 isC_198 0 hz h2) (fun h3 hF => ?_)
  refine j_aload_n (pc := 27) 0 X dX2_seekTwoLooks_27 rfl ?_
  refine j_iconst (pc := 28) (-1) X dX2_seekTwoLooks_28 rfl ?_
  refine j_puti (pc := 29) X dX2_seekTwoLooks_29 (hz _ sh_181) fp_X2_102 rfl hF (fun h4 hF => ?_)
  refine j_iconst (pc := 32) 0 X dX2_seekTwoLooks_32 rfl ?_
  refine j_istore_n (pc := 33) (fun y => [(2, .int y), (0, .ref (Z.2.1 181)), (1, .int a1)]) X dX2_seekTwoLooks_33 (by decide) (fun _ => rfl) hF (fun v5 hF => ?_)
  refine j_lv [(0, .ref (Z.2.1 181)), (2, .int v5)] [1, 0] rfl ?_
  exact LX2_seekTwoLooks_34 X E hz FU v5 h4 hF
theorem dX3_add_0 : decode cX3_add 0 = .ok (.aload_n 0, 1) := by decide +kernel
theorem dX3_add_1 : decode cX3_add 1 = .ok (.getfield 30, 3) := by decide +kernel
theorem dX3_add_4 : decode cX3_add 4 = .ok (.bipush 60, 2) := by decide +kernel
theorem dX3_add_6 : decode cX3_add 6 = .ok (.if_icmp .lt 5, 3) := by decide +kernel
theorem dX3_add_9 : decode cX3_add 9 = .ok (.iconst (-1), 1) := by decide +kernel
theorem dX3_add_10 : decode cX3_add 10 = .ok (.ireturn, 1) := by decide +kernel
theorem dX3_add_11 : decode cX3_add 11 = .ok (.aload_n 0, 1) := by decide +kernel
theorem dX3_add_12 : decode cX3_add 12 = .ok (.getfield 9, 3) := by decide +kernel
theorem dX3_add_15 : decode cX3_add 15 = .ok (.aload_n 0, 1) := by decide +kernel
theorem dX3_add_16 : decode cX3_add 16 = .ok (.getfield 30, 3) := by decide +kernel
theorem dX3_add_19 : decode cX3_add 19 = .ok (.iload_n 1, 1) := by decide +kernel
theorem dX3_add_20 : decode cX3_add 20 = .ok (.iastore, 1) := by decide +kernel
theorem dX3_add_21 : decode cX3_add 21 = .ok (.aload_n 0, 1) := by decide +kernel
theorem dX3_add_22 : decode cX3_add 22 = .ok (.getfield 15, 3) := by decide +kernel
theorem dX3_add_25 : decode cX3_add 25 = .ok (.aload_n 0, 1) := by decide +kernel
theorem dX3_add_26 : decode cX3_add 26 = .ok (.getfield 30, 3) := by decide +kernel
theorem dX3_add_29 : decode cX3_add 29 = .ok (.iload_n 2, 1) := by decide +kernel
theorem dX3_add_30 : decode cX3_add 30 = .ok (.iastore, 1) := by decide +kernel
theorem dX3_add_31 : decode cX3_add 31 = .ok (.aload_n 0, 1) := by decide +kernel
theorem dX3_add_32 : decode cX3_add 32 = .ok (.getfield 18, 3) := by decide +kernel
theorem dX3_add_35 : decode cX3_add 35 = .ok (.aload_n 0, 1) := by decide +kernel
theorem dX3_add_36 : decode cX3_add 36 = .ok (.getfield 30, 3) := by decide +kernel
theorem dX3_add_39 : decode cX3_add 39 = .ok (.iload_n 3, 1) := by decide +kernel
theorem dX3_add_40 : decode cX3_add 40 = .ok (.iastore, 1) := by decide +kernel
theorem dX3_add_41 : decode cX3_add 41 = .ok (.aload_n 0, 1) := by decide +kernel
theorem dX3_add_42 : decode cX3_add 42 = .ok (.getfield 21, 3) := by decide +kernel
theorem dX3_add_45 : decode cX3_add 45 = .ok (.aload_n 0, 1) := by decide +kernel
theorem dX3_add_46 : decode cX3_add 46 = .ok (.getfield 30, 3) := by decide +kernel
theorem dX3_add_49 : decode cX3_add 49 = .ok (.iload 4, 2) := by decide +kernel
theorem dX3_add_51 : decode cX3_add 51 = .ok (.iastore, 1) := by decide +kernel
theorem dX3_add_52 : decode cX3_add 52 = .ok (.aload_n 0, 1) := by decide +kernel
theorem dX3_add_53 : decode cX3_add 53 = .ok (.dup, 1) := by decide +kernel
theorem dX3_add_54 : decode cX3_add 54 = .ok (.getfield 30, 3) := by decide +kernel
theorem dX3_add_57 : decode cX3_add 57 = .ok (.iconst 1, 1) := by decide +kernel
theorem dX3_add_58 : decode cX3_add 58 = .ok (.iadd, 1) := by decide +kernel
theorem dX3_add_59 : decode cX3_add 59 = .ok (.putfield 30, 3) := by decide +kernel
theorem dX3_add_62 : decode cX3_add 62 = .ok (.aload_n 0, 1) := by decide +kernel
theorem dX3_add_63 : decode cX3_add 63 = .ok (.getfield 30, 3) := by decide +kernel
theorem dX3_add_66 : decode cX3_add 66 = .ok (.iconst 1, 1) := by decide +kernel
theorem dX3_add_67 : decode cX3_add 67 = .ok (.isub, 1) := by decide +kernel
theorem dX3_add_68 : decode cX3_add 68 = .ok (.ireturn, 1) := by decide +kernel
def fX3_add (a1 : Int32) (a2 : Int32) (a3 : Int32) (a4 : Int32) (h : Hp) : Option (Int32 × Hp) := (if (h.1 152 6) < 60 then ck (inb (h.1 152 6) 60) (lt (wI h 153 (ix (h.1 152 6)) a1) (fun h1 => ck (inb (h1.1 152 6) 60) (lt (wI h1 154 (ix (h1.1 152 6)) a2) (fun h2 => ck (inb (h2.1 152 6) 60) (lt (wI h2 155 (ix (h2.1 152 6)) a3) (fun h3 => ck (inb (h3.1 152 6) 60) (lt (wI h3 156 (ix (h3.1 152 6)) a4) (fun h4 => lt (wI h4 152 6 ((h4.1 152 6) + 1)) (fun h5 => some (((h5.1 152 6) - 1), h5)))))))))) else some ((-1), h))
set_option maxRecDepth 20000 in
theorem tX3_add (Z : ZT) (a1 : Int32) (a2 : Int32) (a3 : Int32) (a4 : Int32) (hz : HZ Z) (h : Hp) (r : Int32) (hr : Hp) (hF : fX3_add a1 a2 a3 a4 h = some (r, hr)) : MC Z yX3_add cX3_add 5 (some .int) 0 [.ref (Z.2.1 152), .int a1, .int a2, .int a3, .int a4] h (some (.int r)) hr := by
  unfold fX3_add at hF
  refine mc_start (by decide) (Nat.le_of_ble_eq_true rfl) (fun G X E => ?_)
  refine j_aload_n (pc := 0) 0 X dX3_add_0 rfl ?_
  refine j_geti (pc := 1) X dX3_add_1 (hz _ sh_152) fl_X3_30 rfl ?_
  refine j_bipush (pc := 4) 60 X dX3_add_4 rfl ?_
  refine j_icmp_lt (pc := 6) 11 X dX3_add_6 rfl hF (fun hF => ?_) (fun hF => ?_)
  · refine j_aload_n (pc := 11) 0 X dX3_add_11 rfl ?_
    refine j_getr (pc := 12) X dX3_add_12 (hz _ sh_152) fl_X3_9 rfl ?_
    refine j_aload_n (pc := 15) 0 X dX3_add_15 rfl ?_
    refine j_geti (pc := 16) X dX3_add_16 (hz _ sh_152) fl_X3_30 rfl ?_
    refine j_iload_n (pc := 19) 1 X dX3_add_19 rfl ?_
    refine j_iast (pc := 20) X dX3_add_20 (hz _ sh_153) hF (fun h1 hF => ?_)
    refine j_aload_n (pc := 21) 0 X dX3_add_21 rfl ?_
    refine j_getr (pc := 22) X dX3_add_22 (hz _ sh_152) fl_X3_15 rfl ?_
    refine j_aload_n (pc := 25) 0 X dX3_add_25 rfl ?_
    refine j_geti (pc := 26) X dX3_add_26 (hz _ sh_152) fl_X3_30 rfl ?_
    refine j_iload_n (pc := 29) 2 X dX3_add_29 rfl ?_
    refine j_iast (pc := 30) X dX3_add_30 (hz _ sh_154) hF (fun h2 hF => ?_)
    refine j_aload_n (pc := 31) 0 X dX3_add_31 rfl ?_
    refine j_getr (pc := 32) X dX3_add_32 (hz _ sh_152) fl_X3_18 rfl ?_
    refine j_aload_n (pc := 35) 0 X dX3_add_35 rfl ?_
    refine j_geti (pc := 36) X dX3_add_36 (hz _ sh_152) fl_X3_30 rfl ?_
    refine j_iload_n (pc := 39) 3 X dX3_add_39 rfl ?_
    refine j_iast (pc := 40) X dX3_add_40 (hz _ sh_155) hF (fun h3 hF => ?_)
    refine j_aload_n (pc := 41) 0 X dX3_add_41 rfl ?_
    refine j_getr (pc := 42) X dX3_add_42 (hz _ sh_152) fl_X3_21 rfl ?_
    refine j_aload_n (pc := 45) 0 X dX3_add_45 rfl ?_
    refine j_geti (pc := 46) X dX3_add_46 (hz _ sh_152) fl_X3_30 rfl ?_
    refine j_iload (pc := 49) 4 X dX3_add_49 rfl ?_
    refine j_iast (pc := 51) X dX3_add_51 (hz _ sh_156) hF (fun h4 hF => ?_)
    refine j_aload_n (pc := 52) 0 X dX3_add_52 rfl ?_
    refine j_dup (pc := 53) X dX3_add_53 rfl ?_
    refine j_geti (pc := 54) X dX3_add_54 (hz _ sh_152) fl_X3_30 rfl ?_
    refine j_iconst (pc := 57) 1 X dX3_add_57 rfl ?_
    refine j_iadd (pc := 58) X dX3_add_58 ?_
    refine j_puti (pc := 59) X dX3_add_59 (hz _ sh_152) fp_X3_30 rfl hF (fun h5 hF => ?_)
    refine j_aload_n (pc := 62) 0 X dX3_add_62 rfl ?_
    refine j_geti (pc := 63) X dX3_add_63 (hz _ sh_152) fl_X3_30 rfl ?_
    refine j_iconst (pc := 66) 1 X dX3_add_66 rfl ?_
    refine j_isub (pc := 67) X dX3_add_67 ?_
    exact j_iret (pc := 68) X E dX3_add_68 hF
  · refine j_iconst (pc := 9) (-1) X dX3_add_9 rfl ?_
    exact j_iret (pc := 10) X E dX3_add_10 hF
theorem dX3_become_0 : decode cX3_become 0 = .ok (.aload_n 0, 1) := by decide +kernel
theorem dX3_become_1 : decode cX3_become 1 = .ok (.aload_n 1, 1) := by decide +kernel
theorem dX3_become_2 : decode cX3_become 2 = .ok (.getfield 30, 3) := by decide +kernel
theorem dX3_become_5 : decode cX3_become 5 = .ok (.putfield 30, 3) := by decide +kernel
theorem dX3_become_8 : decode cX3_become 8 = .ok (.aload_n 1, 1) := by decide +kernel
theorem dX3_become_9 : decode cX3_become 9 = .ok (.getfield 9, 3) := by decide +kernel
theorem dX3_become_12 : decode cX3_become 12 = .ok (.iconst 0, 1) := by decide +kernel
theorem dX3_become_13 : decode cX3_become 13 = .ok (.aload_n 0, 1) := by decide +kernel
theorem dX3_become_14 : decode cX3_become 14 = .ok (.getfield 9, 3) := by decide +kernel
theorem dX3_become_17 : decode cX3_become 17 = .ok (.iconst 0, 1) := by decide +kernel
theorem dX3_become_18 : decode cX3_become 18 = .ok (.aload_n 0, 1) := by decide +kernel
theorem dX3_become_19 : decode cX3_become 19 = .ok (.getfield 30, 3) := by decide +kernel
theorem dX3_become_22 : decode cX3_become 22 = .ok (.invokestatic 34, 3) := by decide +kernel
theorem dX3_become_25 : decode cX3_become 25 = .ok (.aload_n 1, 1) := by decide +kernel
theorem dX3_become_26 : decode cX3_become 26 = .ok (.getfield 15, 3) := by decide +kernel
theorem dX3_become_29 : decode cX3_become 29 = .ok (.iconst 0, 1) := by decide +kernel
theorem dX3_become_30 : decode cX3_become 30 = .ok (.aload_n 0, 1) := by decide +kernel
theorem dX3_become_31 : decode cX3_become 31 = .ok (.getfield 15, 3) := by decide +kernel
theorem dX3_become_34 : decode cX3_become 34 = .ok (.iconst 0, 1) := by decide +kernel
theorem dX3_become_35 : decode cX3_become 35 = .ok (.aload_n 0, 1) := by decide +kernel
theorem dX3_become_36 : decode cX3_become 36 = .ok (.getfield 30, 3) := by decide +kernel
theorem dX3_become_39 : decode cX3_become 39 = .ok (.invokestatic 34, 3) := by decide +kernel
theorem dX3_become_42 : decode cX3_become 42 = .ok (.aload_n 1, 1) := by decide +kernel
theorem dX3_become_43 : decode cX3_become 43 = .ok (.getfield 18, 3) := by decide +kernel
theorem dX3_become_46 : decode cX3_become 46 = .ok (.iconst 0, 1) := by decide +kernel
theorem dX3_become_47 : decode cX3_become 47 = .ok (.aload_n 0, 1) := by decide +kernel
theorem dX3_become_48 : decode cX3_become 48 = .ok (.getfield 18, 3) := by decide +kernel
theorem dX3_become_51 : decode cX3_become 51 = .ok (.iconst 0, 1) := by decide +kernel
theorem dX3_become_52 : decode cX3_become 52 = .ok (.aload_n 0, 1) := by decide +kernel
theorem dX3_become_53 : decode cX3_become 53 = .ok (.getfield 30, 3) := by decide +kernel
theorem dX3_become_56 : decode cX3_become 56 = .ok (.invokestatic 34, 3) := by decide +kernel
theorem dX3_become_59 : decode cX3_become 59 = .ok (.aload_n 1, 1) := by decide +kernel
theorem dX3_become_60 : decode cX3_become 60 = .ok (.getfield 21, 3) := by decide +kernel
theorem dX3_become_63 : decode cX3_become 63 = .ok (.iconst 0, 1) := by decide +kernel
theorem dX3_become_64 : decode cX3_become 64 = .ok (.aload_n 0, 1) := by decide +kernel
theorem dX3_become_65 : decode cX3_become 65 = .ok (.getfield 21, 3) := by decide +kernel
theorem dX3_become_68 : decode cX3_become 68 = .ok (.iconst 0, 1) := by decide +kernel
theorem dX3_become_69 : decode cX3_become 69 = .ok (.aload_n 0, 1) := by decide +kernel
theorem dX3_become_70 : decode cX3_become 70 = .ok (.getfield 30, 3) := by decide +kernel
theorem dX3_become_73 : decode cX3_become 73 = .ok (.invokestatic 34, 3) := by decide +kernel
theorem dX3_become_76 : decode cX3_become 76 = .ok (.return_, 1) := by decide +kernel
def fX3_become (o : Nat) (u1 : Nat) (h : Hp) : Option (Hp) := lt (wI h o 6 (h.1 u1 6)) (fun h1 => ck (cpb 0 0 (h1.1 o 6) 60 60) (lt (cpI h1 (u1 + 1) (o + 1) (ix 0) (ix 0) (ix (h1.1 o 6))) (fun h2 => ck (cpb 0 0 (h2.1 o 6) 60 60) (lt (cpI h2 (u1 + 2) (o + 2) (ix 0) (ix 0) (ix (h2.1 o 6))) (fun h3 => ck (cpb 0 0 (h3.1 o 6) 60 60) (lt (cpI h3 (u1 + 3) (o + 3) (ix 0) (ix 0) (ix (h3.1 o 6))) (fun h4 => ck (cpb 0 0 (h4.1 o 6) 60 60) (lt (cpI h4 (u1 + 4) (o + 4) (ix 0) (ix 0) (ix (h4.1 o 6))) (fun h5 => some h5)))))))))
set_option maxRecDepth 20000 in
theorem tX3_become (Z : ZT) (o : Nat) (ho : isF o) (u1 : Nat) (hu1 : isF u1) (hz : HZ Z) (h : Hp) (hr : Hp) (hF : fX3_become o u1 h = some hr) : MC Z yX3_become cX3_become 2 none 1 [.ref (Z.2.1 o), .ref (Z.2.1 u1)] h (none) hr := by
  unfold fX3_become at hF
  refine mc_start (by decide) (Nat.le_of_ble_eq_true rfl) (fun G X E => ?_)
  refine j_aload_n (pc := 0) 0 X dX3_become_0 rfl ?_
  refine j_aload_n (pc := 1) 1 X dX3_become_1 rfl ?_
  refine j_geti (pc := 2) X dX3_become_2 (hz _ (shF hu1)) fl_X3_30 rfl ?_
  refine j_puti (pc := 5) X dX3_become_5 (hz _ (shF ho)) fp_X3_30 rfl hF (fun h1 hF => ?_)
  refine j_aload_n (pc := 8) 1 X dX3_become_8 rfl ?_
  refine j_getr (pc := 9) X dX3_become_9 (hz _ (shF hu1)) fl_X3_9 rfl ?_
  refine j_iconst (pc := 12) 0 X dX3_become_12 rfl ?_
  refine j_aload_n (pc := 13) 0 X dX3_become_13 rfl ?_
  refine j_getr (pc := 14) X dX3_become_14 (hz _ (shF ho)) fl_X3_9 rfl ?_
  refine j_iconst (pc := 17) 0 X dX3_become_17 rfl ?_
  refine j_aload_n (pc := 18) 0 X dX3_become_18 rfl ?_
  refine j_geti (pc := 19) X dX3_become_19 (hz _ (shF ho)) fl_X3_30 rfl ?_
  refine j_acp (pc := 22) X dX3_become_22 ml_X3_34 ac_nat ac_stat ac_ini (Nat.le_of_ble_eq_true rfl) (hz _ (shF_1 hu1)) (hz _ (shF_1 ho)) (Nat.le_of_ble_eq_true rfl) hF (fun h2 hF => ?_)
  refine j_aload_n (pc := 25) 1 X dX3_become_25 rfl ?_
  refine j_getr (pc := 26) X dX3_become_26 (hz _ (shF hu1)) fl_X3_15 rfl ?_
  refine j_iconst (pc := 29) 0 X dX3_become_29 rfl ?_
  refine j_aload_n (pc := 30) 0 X dX3_become_30 rfl ?_
  refine j_getr (pc := 31) X dX3_become_31 (hz _ (shF ho)) fl_X3_15 rfl ?_
  refine j_iconst (pc := 34) 0 X dX3_become_34 rfl ?_
  refine j_aload_n (pc := 35) 0 X dX3_become_35 rfl ?_
  refine j_geti (pc := 36) X dX3_become_36 (hz _ (shF ho)) fl_X3_30 rfl ?_
  refine j_acp (pc := 39) X dX3_become_39 ml_X3_34 ac_nat ac_stat ac_ini (Nat.le_of_ble_eq_true rfl) (hz _ (shF_2 hu1)) (hz _ (shF_2 ho)) (Nat.le_of_ble_eq_true rfl) hF (fun h3 hF => ?_)
  refine j_aload_n (pc := 42) 1 X dX3_become_42 rfl ?_
  refine j_getr (pc := 43) X dX3_become_43 (hz _ (shF hu1)) fl_X3_18 rfl ?_
  refine j_iconst (pc := 46) 0 X dX3_become_46 rfl ?_
  refine j_aload_n (pc := 47) 0 X dX3_become_47 rfl ?_
  refine j_getr (pc := 48) X dX3_become_48 (hz _ (shF ho)) fl_X3_18 rfl ?_
  refine j_iconst (pc := 51) 0 X dX3_become_51 rfl ?_
  refine j_aload_n (pc := 52) 0 X dX3_become_52 rfl ?_
  refine j_geti (pc := 53) X dX3_become_53 (hz _ (shF ho)) fl_X3_30 rfl ?_
  refine j_acp (pc := 56) X dX3_become_56 ml_X3_34 ac_nat ac_stat ac_ini (Nat.le_of_ble_eq_true rfl) (hz _ (shF_3 hu1)) (hz _ (shF_3 ho)) (Nat.le_of_ble_eq_true rfl) hF (fun h4 hF => ?_)
  refine j_aload_n (pc := 59) 1 X dX3_become_59 rfl ?_
  refine j_getr (pc := 60) X dX3_become_60 (hz _ (shF hu1)) fl_X3_21 rfl ?_
  refine j_iconst (pc := 63) 0 X dX3_become_63 rfl ?_
  refine j_aload_n (pc := 64) 0 X dX3_become_64 rfl ?_
  refine j_getr (pc := 65) X dX3_become_65 (hz _ (shF ho)) fl_X3_21 rfl ?_
  refine j_iconst (pc := 68) 0 X dX3_become_68 rfl ?_
  refine j_aload_n (pc := 69) 0 X dX3_become_69 rfl ?_
  refine j_geti (pc := 70) X dX3_become_70 (hz _ (shF ho)) fl_X3_30 rfl ?_
  refine j_acp (pc := 73) X dX3_become_73 ml_X3_34 ac_nat ac_stat ac_ini (Nat.le_of_ble_eq_true rfl) (hz _ (shF_4 hu1)) (hz _ (shF_4 ho)) (Nat.le_of_ble_eq_true rfl) hF (fun h5 hF => ?_)
  exact j_vret (pc := 76) X E dX3_become_76 hF
theorem dX3_weightOf_0 : decode cX3_weightOf 0 = .ok (.aload_n 0, 1) := by decide +kernel
theorem dX3_weightOf_1 : decode cX3_weightOf 1 = .ok (.iload_n 3, 1) := by decide +kernel
theorem dX3_weightOf_2 : decode cX3_weightOf 2 = .ok (.invokevirtual 44, 3) := by decide +kernel
theorem dX3_weightOf_5 : decode cX3_weightOf 5 = .ok (.lstore 4, 2) := by decide +kernel
theorem dX3_weightOf_7 : decode cX3_weightOf 7 = .ok (.iconst 0, 1) := by decide +kernel
theorem dX3_weightOf_8 : decode cX3_weightOf 8 = .ok (.istore 6, 2) := by decide +kernel
theorem dX3_weightOf_10 : decode cX3_weightOf 10 = .ok (.iconst 0, 1) := by decide +kernel
theorem dX3_weightOf_11 : decode cX3_weightOf 11 = .ok (.istore 7, 2) := by decide +kernel
theorem dX3_weightOf_13 : decode cX3_weightOf 13 = .ok (.iload 7, 2) := by decide +kernel
theorem dX3_weightOf_15 : decode cX3_weightOf 15 = .ok (.iload_n 3, 1) := by decide +kernel
theorem dX3_weightOf_16 : decode cX3_weightOf 16 = .ok (.if_icmp .ge 64, 3) := by decide +kernel
theorem dX3_weightOf_19 : decode cX3_weightOf 19 = .ok (.aload_n 0, 1) := by decide +kernel
theorem dX3_weightOf_20 : decode cX3_weightOf 20 = .ok (.getfield 9, 3) := by decide +kernel
theorem dX3_weightOf_23 : decode cX3_weightOf 23 = .ok (.iload 7, 2) := by decide +kernel
theorem dX3_weightOf_25 : decode cX3_weightOf 25 = .ok (.iaload, 1) := by decide +kernel
theorem dX3_weightOf_26 : decode cX3_weightOf 26 = .ok (.ifCond .ne 48, 3) := by decide +kernel
theorem dX3_weightOf_29 : decode cX3_weightOf 29 = .ok (.aload_n 0, 1) := by decide +kernel
theorem dX3_weightOf_30 : decode cX3_weightOf 30 = .ok (.getfield 18, 3) := by decide +kernel
theorem dX3_weightOf_33 : decode cX3_weightOf 33 = .ok (.iload 7, 2) := by decide +kernel
theorem dX3_weightOf_35 : decode cX3_weightOf 35 = .ok (.iaload, 1) := by decide +kernel
theorem dX3_weightOf_36 : decode cX3_weightOf 36 = .ok (.iload_n 1, 1) := by decide +kernel
theorem dX3_weightOf_37 : decode cX3_weightOf 37 = .ok (.if_icmp .ne 37, 3) := by decide +kernel
theorem dX3_weightOf_40 : decode cX3_weightOf 40 = .ok (.aload_n 0, 1) := by decide +kernel
theorem dX3_weightOf_41 : decode cX3_weightOf 41 = .ok (.getfield 15, 3) := by decide +kernel
theorem dX3_weightOf_44 : decode cX3_weightOf 44 = .ok (.iload 7, 2) := by decide +kernel
theorem dX3_weightOf_46 : decode cX3_weightOf 46 = .ok (.iaload, 1) := by decide +kernel
theorem dX3_weightOf_47 : decode cX3_weightOf 47 = .ok (.iload_n 2, 1) := by decide +kernel
theorem dX3_weightOf_48 : decode cX3_weightOf 48 = .ok (.if_icmp .gt 26, 3) := by decide +kernel
theorem dX3_weightOf_51 : decode cX3_weightOf 51 = .ok (.aload_n 0, 1) := by decide +kernel
theorem dX3_weightOf_52 : decode cX3_weightOf 52 = .ok (.iload 7, 2) := by decide +kernel
theorem dX3_weightOf_54 : decode cX3_weightOf 54 = .ok (.lload 4, 2) := by decide +kernel
theorem dX3_weightOf_56 : decode cX3_weightOf 56 = .ok (.invokevirtual 54, 3) := by decide +kernel
theorem dX3_weightOf_59 : decode cX3_weightOf 59 = .ok (.ifCond .eq 15, 3) := by decide +kernel
theorem dX3_weightOf_62 : decode cX3_weightOf 62 = .ok (.iload 6, 2) := by decide +kernel
theorem dX3_weightOf_64 : decode cX3_weightOf 64 = .ok (.aload_n 0, 1) := by decide +kernel
theorem dX3_weightOf_65 : decode cX3_weightOf 65 = .ok (.getfield 21, 3) := by decide +kernel
theorem dX3_weightOf_68 : decode cX3_weightOf 68 = .ok (.iload 7, 2) := by decide +kernel
theorem dX3_weightOf_70 : decode cX3_weightOf 70 = .ok (.iaload, 1) := by decide +kernel
theorem dX3_weightOf_71 : decode cX3_weightOf 71 = .ok (.iadd, 1) := by decide +kernel
theorem dX3_weightOf_72 : decode cX3_weightOf 72 = .ok (.istore 6, 2) := by decide +kernel
theorem dX3_weightOf_74 : decode cX3_weightOf 74 = .ok (.iinc 7 1, 3) := by decide +kernel
theorem dX3_weightOf_77 : decode cX3_weightOf 77 = .ok (.goto (-64), 3) := by decide +kernel
theorem dX3_weightOf_80 : decode cX3_weightOf 80 = .ok (.iload 6, 2) := by decide +kernel
theorem dX3_weightOf_82 : decode cX3_weightOf 82 = .ok (.ireturn, 1) := by decide +kernel
def bX3_weightOf_74  (r13 : Int32 → Int32 → Int32 → Int64 → Int32 → Int32 → Hp → Option (Int32 × Hp)) (x1 : Int32) (x2 : Int32) (x3 : Int32) (x4 : Int64) (x6 : Int32) (x7 : Int32) (h : Hp) : Option (Int32 × Hp) := lt (x7 + 1) (fun v1 => r13 x1 x2 x3 x4 x6 v1 h)
set_option maxRecDepth 20000 in
theorem BX3_weightOf_74 {Z : ZT} {G : GT} {r : Int32} {hr : Hp} (X : CX Z G cX3_weightOf RX3 8 2) (E : RX Z G (some .int) (some (.int r)) hr) (hz : HZ Z) (r13 : Int32 → Int32 → Int32 → Int64 → Int32 → Int32 → Hp → Option (Int32 × Hp)) (hr13 : ∀ (x1 : Int32) (x2 : Int32) (x3 : Int32) (x4 : Int64) (x6 : Int32) (x7 : Int32) (h : Hp), r13 x1 x2 x3 x4 x6 x7 h = some (r, hr) → J Z G 8 h 13 [(0, .ref (Z.2.1 152)), (1, .int x1), (2, .int x2), (3, .int x3), (4, .long x4), (6, .int x6), (7, .int x7)] []) (x1 : Int32) (x2 : Int32) (x3 : Int32) (x4 : Int64) (x6 : Int32) (x7 : Int32) (h : Hp) (hF : bX3_weightOf_74  r13 x1 x2 x3 x4 x6 x7 h = some (r, hr)) : J Z G 8 h 74 [(0, .ref (Z.2.1 152)), (1, .int x1), (2, .int x2), (3, .int x3), (4, .long x4), (6, .int x6), (7, .int x7)] [] := by
  unfold bX3_weightOf_74 at hF
  refine j_iinc (pc := 74) 6 (x7 + 1) (fun y => [(7, .int y), (0, .ref (Z.2.1 152)), (1, .int x1), (2, .int x2), (3, .int x3), (4, .long x4), (6, .int x6)]) X dX3_weightOf_74 rfl rfl (by decide) (fun _ => rfl) hF (fun v1 hF => ?_)
  refine j_goto (pc := 77) 13 X dX3_weightOf_77 rfl ?_
  refine j_lv [(0, .ref (Z.2.1 152)), (1, .int x1), (2, .int x2), (3, .int x3), (4, .long x4), (6, .int x6), (7, .int v1)] [1, 2, 3, 4, 5, 6, 0] rfl ?_
  exact hr13 x1 x2 x3 x4 x6 v1 h hF
def bX3_weightOf_13   (r13 : Int32 → Int32 → Int32 → Int64 → Int32 → Int32 → Hp → Option (Int32 × Hp)) (x1 : Int32) (x2 : Int32) (x3 : Int32) (x4 : Int64) (x6 : Int32) (x7 : Int32) (h : Hp) : Option (Int32 × Hp) := (if x3 ≤ x7 then some (x6, h) else ck (inb x7 60) ((if (h.1 153 (ix x7)) = 0 then ck (inb x7 60) ((if (h.1 155 (ix x7)) = x1 then ck (inb x7 60) ((if x2 < (h.1 154 (ix x7)) then bX3_weightOf_74 r13 x1 x2 x3 x4 x6 x7 h else bi (fX3_counts x7 x4 h) (fun w2 h1 => (if w2 = 0 then bX3_weightOf_74 r13 x1 x2 x3 x4 x6 x7 h1 else ck (inb x7 60) (lt (x6 + (h1.1 156 (ix x7))) (fun v3 => bX3_weightOf_74 r13 x1 x2 x3 x4 v3 x7 h1)))))) else bX3_weightOf_74 r13 x1 x2 x3 x4 x6 x7 h)) else bX3_weightOf_74 r13 x1 x2 x3 x4 x6 x7 h)))
def lX3_weightOf_13   : Nat → Int32 → Int32 → Int32 → Int64 → Int32 → Int32 → Hp → Option (Int32 × Hp)
  | 0 => fun _ _ _ _ _ _ _ => none
  | n + 1 => bX3_weightOf_13   (lX3_weightOf_13   n)
set_option maxRecDepth 20000 in
theorem BX3_weightOf_13 {Z : ZT} {G : GT} {r : Int32} {hr : Hp} (X : CX Z G cX3_weightOf RX3 8 2) (E : RX Z G (some .int) (some (.int r)) hr) (hz : HZ Z)  (r13 : Int32 → Int32 → Int32 → Int64 → Int32 → Int32 → Hp → Option (Int32 × Hp)) (hr13 : ∀ (x1 : Int32) (x2 : Int32) (x3 : Int32) (x4 : Int64) (x6 : Int32) (x7 : Int32) (h : Hp), r13 x1 x2 x3 x4 x6 x7 h = some (r, hr) → J Z G 8 h 13 [(0, .ref (Z.2.1 152)), (1, .int x1), (2, .int x2), (3, .int x3), (4, .long x4), (6, .int x6), (7, .int x7)] []) (x1 : Int32) (x2 : Int32) (x3 : Int32) (x4 : Int64) (x6 : Int32) (x7 : Int32) (h : Hp) (hF : bX3_weightOf_13   r13 x1 x2 x3 x4 x6 x7 h = some (r, hr)) : J Z G 8 h 13 [(0, .ref (Z.2.1 152)), (1, .int x1), (2, .int x2), (3, .int x3), (4, .long x4), (6, .int x6), (7, .int x7)] [] := by
  unfold bX3_weightOf_13 at hF
  refine j_iload (pc := 13) 6 X dX3_weightOf_13 rfl ?_
  refine j_iload_n (pc := 15) 3 X dX3_weightOf_15 rfl ?_
  refine j_icmp_ge (pc := 16) 80 X dX3_weightOf_16 rfl hF (fun hF => ?_) (fun hF => ?_)
  · refine j_iload (pc := 80) 5 X dX3_weightOf_80 rfl ?_
    exact j_iret (pc := 82) X E dX3_weightOf_82 hF
  · refine j_aload_n (pc := 19) 0 X dX3_weightOf_19 rfl ?_
    refine j_getr (pc := 20) X dX3_weightOf_20 (hz _ sh_152) fl_X3_9 rfl ?_
    refine j_iload (pc := 23) 6 X dX3_weightOf_23 rfl ?_
    refine j_iald (pc := 25) X dX3_weightOf_25 (hz _ sh_153) hF (fun hF => ?_)
    refine j_if_ne (pc := 26) 74 X dX3_weightOf_26 rfl hF (fun hF => ?_) (fun hF => ?_)
    · exact BX3_weightOf_74 X E hz r13 hr13 x1 x2 x3 x4 x6 x7 h hF
    · refine j_aload_n (pc := 29) 0 X dX3_weightOf_29 rfl ?_
      refine j_getr (pc := 30) X dX3_weightOf_30 (hz _ sh_152) fl_X3_18 rfl ?_
      refine j_iload (pc := 33) 6 X dX3_weightOf_33 rfl ?_
      refine j_iald (pc := 35) X dX3_weightOf_35 (hz _ sh_155) hF (fun hF => ?_)
      refine j_iload_n (pc := 36) 1 X dX3_weightOf_36 rfl ?_
      refine j_icmp_ne (pc := 37) 74 X dX3_weightOf_37 rfl hF (fun hF => ?_) (fun hF => ?_)
      · exact BX3_weightOf_74 X E hz r13 hr13 x1 x2 x3 x4 x6 x7 h hF
      · refine j_aload_n (pc := 40) 0 X dX3_weightOf_40 rfl ?_
        refine j_getr (pc := 41) X dX3_weightOf_41 (hz _ sh_152) fl_X3_15 rfl ?_
        refine j_iload (pc := 44) 6 X dX3_weightOf_44 rfl ?_
        refine j_iald (pc := 46) X dX3_weightOf_46 (hz _ sh_154) hF (fun hF => ?_)
        refine j_iload_n (pc := 47) 2 X dX3_weightOf_47 rfl ?_
        refine j_icmp_gt (pc := 48) 74 X dX3_weightOf_48 rfl hF (fun hF => ?_) (fun hF => ?_)
        · exact BX3_weightOf_74 X E hz r13 hr13 x1 x2 x3 x4 x6 x7 h hF
        · refine j_aload_n (pc := 51) 0 X dX3_weightOf_51 rfl ?_
          refine j_iload (pc := 52) 6 X dX3_weightOf_52 rfl ?_
          refine j_lload (pc := 54) 4 X dX3_weightOf_54 rfl ?_
          refine j_cVi (pc := 56) (As := [.int x7, .long x4]) (rest := []) X dX3_weightOf_56 ml_X3_54 ck_X3_counts cv_X3_counts (hz _ sh_152) rfl (Nat.le_of_ble_eq_true rfl) rfl (Nat.le_of_ble_eq_true rfl) rfl hF (tX3_counts Z x7 x4 hz h) (fun w2 h1 hF => ?_)
          refine j_if_eq (pc := 59) 74 X dX3_weightOf_59 rfl hF (fun hF => ?_) (fun hF => ?_)
          · exact BX3_weightOf_74 X E hz r13 hr13 x1 x2 x3 x4 x6 x7 h1 hF
          · refine j_iload (pc := 62) 5 X dX3_weightOf_62 rfl ?_
            refine j_aload_n (pc := 64) 0 X dX3_weightOf_64 rfl ?_
            refine j_getr (pc := 65) X dX3_weightOf_65 (hz _ sh_152) fl_X3_21 rfl ?_
            refine j_iload (pc := 68) 6 X dX3_weightOf_68 rfl ?_
            refine j_iald (pc := 70) X dX3_weightOf_70 (hz _ sh_156) hF (fun hF => ?_)
            refine j_iadd (pc := 71) X dX3_weightOf_71 ?_
            refine j_istore (pc := 72) (fun y => [(6, .int y), (0, .ref (Z.2.1 152)), (1, .int x1), (2, .int x2), (3, .int x3), (4, .long x4), (7, .int x7)]) X dX3_weightOf_72 (by decide) (fun _ => rfl) hF (fun v3 hF => ?_)
            refine j_lv [(0, .ref (Z.2.1 152)), (1, .int x1), (2, .int x2), (3, .int x3), (4, .long x4), (6, .int v3), (7, .int x7)] [1, 2, 3, 4, 5, 0, 6] rfl ?_
            exact BX3_weightOf_74 X E hz r13 hr13 x1 x2 x3 x4 v3 x7 h1 hF
theorem LX3_weightOf_13 {Z : ZT} {G : GT} {r : Int32} {hr : Hp} (X : CX Z G cX3_weightOf RX3 8 2) (E : RX Z G (some .int) (some (.int r)) hr) (hz : HZ Z)  : ∀ (n : Nat) (x1 : Int32) (x2 : Int32) (x3 : Int32) (x4 : Int64) (x6 : Int32) (x7 : Int32) (h : Hp), lX3_weightOf_13   n x1 x2 x3 x4 x6 x7 h = some (r, hr) → J Z G 8 h 13 [(0, .ref (Z.2.1 152)), (1, .int x1), (2, .int x2), (3, .int x3), (4, .long x4), (6, .int x6), (7, .int x7)] [] := by
  intro n
  induction n with
  | zero => intro x1 x2 x3 x4 x6 x7 h hF; cases hF
  | succ n ih => intro x1 x2 x3 x4 x6 x7 h hF; exact BX3_weightOf_13 X E hz  (lX3_weightOf_13   n) ih x1 x2 x3 x4 x6 x7 h hF
def fX3_weightOf (a1 : Int32) (a2 : Int32) (a3 : Int32) (h : Hp) : Option (Int32 × Hp) := bi (fX3_annulledBy a3 h) (fun w2 h1 => lt w2 (fun v3 => lt 0 (fun v4 => lt 0 (fun v5 => lX3_weightOf_13 FU a1 a2 a3 v3 v4 v5 h1))))
set_option maxRecDepth 20000 in
theorem tX3_weightOf (Z : ZT) (a1 : Int32) (a2 : Int32) (a3 : Int32) (hz : HZ Z) (h : Hp) (r : Int32) (hr : Hp) (hF : fX3_weightOf a1 a2 a3 h = some (r, hr)) : MC Z yX3_weightOf cX3_weightOf 8 (some .int) 2 [.ref (Z.2.1 152), .int a1, .int a2, .int a3] h (some (.int r)) hr := by
  unfold fX3_weightOf at hF
  refine mc_start (by decide) (Nat.le_of_ble_eq_true rfl) (fun G X E => ?_)
  refine j_aload_n (pc := 0) 0 X dX3_weightOf_0 rfl ?_
  refine j_iload_n (pc := 1) 3 X dX3_weightOf_1 rfl ?_
  refine j_cVl (pc := 2) (As := [.int a3]) (rest := []) X dX3_weightOf_2 ml_X3_44 ck_X3_annulledBy cv_X3_annulledBy (hz _ sh_152) rfl (Nat.le_of_ble_eq_true rfl) rfl (Nat.le_of_ble_eq_true rfl) rfl hF (tX3_annulledBy Z a3 hz h) (fun w2 h1 hF => ?_)
  refine j_lstore (pc := 5) (fun y => [(4, .long y), (0, .ref (Z.2.1 152)), (1, .int a1), (2, .int a2), (3, .int a3)]) X dX3_weightOf_5 (by decide) (fun _ => rfl) hF (fun v3 hF => ?_)
  refine j_iconst (pc := 7) 0 X dX3_weightOf_7 rfl ?_
  refine j_istore (pc := 8) (fun y => [(6, .int y), (4, .long v3), (0, .ref (Z.2.1 152)), (1, .int a1), (2, .int a2), (3, .int a3)]) X dX3_weightOf_8 (by decide) (fun _ => rfl) hF (fun v4 hF => ?_)
  refine j_iconst (pc := 10) 0 X dX3_weightOf_10 rfl ?_
  refine j_istore (pc := 11) (fun y => [(7, .int y), (6, .int v4), (4, .long v3), (0, .ref (Z.2.1 152)), (1, .int a1), (2, .int a2), (3, .int a3)]) X dX3_weightOf_11 (by decide) (fun _ => rfl) hF (fun v5 hF => ?_)
  refine j_lv [(0, .ref (Z.2.1 152)), (1, .int a1), (2, .int a2), (3, .int a3), (4, .long v3), (6, .int v4), (7, .int v5)] [3, 4, 5, 6, 2, 1, 0] rfl ?_
  exact LX3_weightOf_13 X E hz FU a1 a2 a3 v3 v4 v5 h1 hF
theorem dX3_diedBy_0 : decode cX3_diedBy 0 = .ok (.aload_n 0, 1) := by decide +kernel
theorem dX3_diedBy_1 : decode cX3_diedBy 1 = .ok (.iload_n 2, 1) := by decide +kernel
theorem dX3_diedBy_2 : decode cX3_diedBy 2 = .ok (.invokevirtual 44, 3) := by decide +kernel
theorem dX3_diedBy_5 : decode cX3_diedBy 5 = .ok (.lstore_n 3, 1) := by decide +kernel
theorem dX3_diedBy_6 : decode cX3_diedBy 6 = .ok (.iconst 0, 1) := by decide +kernel
theorem dX3_diedBy_7 : decode cX3_diedBy 7 = .ok (.istore 5, 2) := by decide +kernel
theorem dX3_diedBy_9 : decode cX3_diedBy 9 = .ok (.iconst 0, 1) := by decide +kernel
theorem dX3_diedBy_10 : decode cX3_diedBy 10 = .ok (.istore 6, 2) := by decide +kernel
theorem dX3_diedBy_12 : decode cX3_diedBy 12 = .ok (.iload 6, 2) := by decide +kernel
theorem dX3_diedBy_14 : decode cX3_diedBy 14 = .ok (.iload_n 2, 1) := by decide +kernel
theorem dX3_diedBy_15 : decode cX3_diedBy 15 = .ok (.if_icmp .ge 55, 3) := by decide +kernel
theorem dX3_diedBy_18 : decode cX3_diedBy 18 = .ok (.aload_n 0, 1) := by decide +kernel
theorem dX3_diedBy_19 : decode cX3_diedBy 19 = .ok (.getfield 9, 3) := by decide +kernel
theorem dX3_diedBy_22 : decode cX3_diedBy 22 = .ok (.iload 6, 2) := by decide +kernel
theorem dX3_diedBy_24 : decode cX3_diedBy 24 = .ok (.iaload, 1) := by decide +kernel
theorem dX3_diedBy_25 : decode cX3_diedBy 25 = .ok (.iconst 1, 1) := by decide +kernel
theorem dX3_diedBy_26 : decode cX3_diedBy 26 = .ok (.if_icmp .ne 38, 3) := by decide +kernel
theorem dX3_diedBy_29 : decode cX3_diedBy 29 = .ok (.aload_n 0, 1) := by decide +kernel
theorem dX3_diedBy_30 : decode cX3_diedBy 30 = .ok (.getfield 15, 3) := by decide +kernel
theorem dX3_diedBy_33 : decode cX3_diedBy 33 = .ok (.iload 6, 2) := by decide +kernel
theorem dX3_diedBy_35 : decode cX3_diedBy 35 = .ok (.iaload, 1) := by decide +kernel
theorem dX3_diedBy_36 : decode cX3_diedBy 36 = .ok (.iload_n 1, 1) := by decide +kernel
theorem dX3_diedBy_37 : decode cX3_diedBy 37 = .ok (.if_icmp .gt 27, 3) := by decide +kernel
theorem dX3_diedBy_40 : decode cX3_diedBy 40 = .ok (.aload_n 0, 1) := by decide +kernel
theorem dX3_diedBy_41 : decode cX3_diedBy 41 = .ok (.iload 6, 2) := by decide +kernel
theorem dX3_diedBy_43 : decode cX3_diedBy 43 = .ok (.lload_n 3, 1) := by decide +kernel
theorem dX3_diedBy_44 : decode cX3_diedBy 44 = .ok (.invokevirtual 54, 3) := by decide +kernel
theorem dX3_diedBy_47 : decode cX3_diedBy 47 = .ok (.ifCond .eq 17, 3) := by decide +kernel
theorem dX3_diedBy_50 : decode cX3_diedBy 50 = .ok (.iload 5, 2) := by decide +kernel
theorem dX3_diedBy_52 : decode cX3_diedBy 52 = .ok (.iconst 1, 1) := by decide +kernel
theorem dX3_diedBy_53 : decode cX3_diedBy 53 = .ok (.aload_n 0, 1) := by decide +kernel
theorem dX3_diedBy_54 : decode cX3_diedBy 54 = .ok (.getfield 18, 3) := by decide +kernel
theorem dX3_diedBy_57 : decode cX3_diedBy 57 = .ok (.iload 6, 2) := by decide +kernel
theorem dX3_diedBy_59 : decode cX3_diedBy 59 = .ok (.iaload, 1) := by decide +kernel
theorem dX3_diedBy_60 : decode cX3_diedBy 60 = .ok (.ishl, 1) := by decide +kernel
theorem dX3_diedBy_61 : decode cX3_diedBy 61 = .ok (.ior, 1) := by decide +kernel
theorem dX3_diedBy_62 : decode cX3_diedBy 62 = .ok (.istore 5, 2) := by decide +kernel
theorem dX3_diedBy_64 : decode cX3_diedBy 64 = .ok (.iinc 6 1, 3) := by decide +kernel
theorem dX3_diedBy_67 : decode cX3_diedBy 67 = .ok (.goto (-55), 3) := by decide +kernel
theorem dX3_diedBy_70 : decode cX3_diedBy 70 = .ok (.iload 5, 2) := by decide +kernel
theorem dX3_diedBy_72 : decode cX3_diedBy 72 = .ok (.ireturn, 1) := by decide +kernel
def bX3_diedBy_64  (r12 : Int32 → Int32 → Int64 → Int32 → Int32 → Hp → Option (Int32 × Hp)) (x1 : Int32) (x2 : Int32) (x3 : Int64) (x5 : Int32) (x6 : Int32) (h : Hp) : Option (Int32 × Hp) := lt (x6 + 1) (fun v1 => r12 x1 x2 x3 x5 v1 h)
set_option maxRecDepth 20000 in
theorem BX3_diedBy_64 {Z : ZT} {G : GT} {r : Int32} {hr : Hp} (X : CX Z G cX3_diedBy RX3 7 2) (E : RX Z G (some .int) (some (.int r)) hr) (hz : HZ Z) (r12 : Int32 → Int32 → Int64 → Int32 → Int32 → Hp → Option (Int32 × Hp)) (hr12 : ∀ (x1 : Int32) (x2 : Int32) (x3 : Int64) (x5 : Int32) (x6 : Int32) (h : Hp), r12 x1 x2 x3 x5 x6 h = some (r, hr) → J Z G 7 h 12 [(0, .ref (Z.2.1 152)), (1, .int x1), (2, .int x2), (3, .long x3), (5, .int x5), (6, .int x6)] []) (x1 : Int32) (x2 : Int32) (x3 : Int64) (x5 : Int32) (x6 : Int32) (h : Hp) (hF : bX3_diedBy_64  r12 x1 x2 x3 x5 x6 h = some (r, hr)) : J Z G 7 h 64 [(0, .ref (Z.2.1 152)), (1, .int x1), (2, .int x2), (3, .long x3), (5, .int x5), (6, .int x6)] [] := by
  unfold bX3_diedBy_64 at hF
  refine j_iinc (pc := 64) 5 (x6 + 1) (fun y => [(6, .int y), (0, .ref (Z.2.1 152)), (1, .int x1), (2, .int x2), (3, .long x3), (5, .int x5)]) X dX3_diedBy_64 rfl rfl (by decide) (fun _ => rfl) hF (fun v1 hF => ?_)
  refine j_goto (pc := 67) 12 X dX3_diedBy_67 rfl ?_
  refine j_lv [(0, .ref (Z.2.1 152)), (1, .int x1), (2, .int x2), (3, .long x3), (5, .int x5), (6, .int v1)] [1, 2, 3, 4, 5, 0] rfl ?_
  exact hr12 x1 x2 x3 x5 v1 h hF
def bX3_diedBy_12   (r12 : Int32 → Int32 → Int64 → Int32 → Int32 → Hp → Option (Int32 × Hp)) (x1 : Int32) (x2 : Int32) (x3 : Int64) (x5 : Int32) (x6 : Int32) (h : Hp) : Option (Int32 × Hp) := (if x2 ≤ x6 then some (x5, h) else ck (inb x6 60) ((if (h.1 153 (ix x6)) = 1 then ck (inb x6 60) ((if x1 < (h.1 154 (ix x6)) then bX3_diedBy_64 r12 x1 x2 x3 x5 x6 h else bi (fX3_counts x6 x3 h) (fun w2 h1 => (if w2 = 0 then bX3_diedBy_64 r12 x1 x2 x3 x5 x6 h1 else ck (inb x6 60) (lt (x5 ||| ((1 : Int32) <<< ((h1.1 155 (ix x6)) &&& 31))) (fun v3 => bX3_diedBy_64 r12 x1 x2 x3 v3 x6 h1)))))) else bX3_diedBy_64 r12 x1 x2 x3 x5 x6 h)))
def lX3_diedBy_12   : Nat → Int32 → Int32 → Int64 → Int32 → Int32 → Hp → Option (Int32 × Hp)
  | 0 => fun _ _ _ _ _ _ => none
  | n + 1 => bX3_diedBy_12   (lX3_diedBy_12   n)
set_option maxRecDepth 20000 in
theorem BX3_diedBy_12 {Z : ZT} {G : GT} {r : Int32} {hr : Hp} (X : CX Z G cX3_diedBy RX3 7 2) (E : RX Z G (some .int) (some (.int r)) hr) (hz : HZ Z)  (r12 : Int32 → Int32 → Int64 → Int32 → Int32 → Hp → Option (Int32 × Hp)) (hr12 : ∀ (x1 : Int32) (x2 : Int32) (x3 : Int64) (x5 : Int32) (x6 : Int32) (h : Hp), r12 x1 x2 x3 x5 x6 h = some (r, hr) → J Z G 7 h 12 [(0, .ref (Z.2.1 152)), (1, .int x1), (2, .int x2), (3, .long x3), (5, .int x5), (6, .int x6)] []) (x1 : Int32) (x2 : Int32) (x3 : Int64) (x5 : Int32) (x6 : Int32) (h : Hp) (hF : bX3_diedBy_12   r12 x1 x2 x3 x5 x6 h = some (r, hr)) : J Z G 7 h 12 [(0, .ref (Z.2.1 152)), (1, .int x1), (2, .int x2), (3, .long x3), (5, .int x5), (6, .int x6)] [] := by
  unfold bX3_diedBy_12 at hF
  refine j_iload (pc := 12) 5 X dX3_diedBy_12 rfl ?_
  refine j_iload_n (pc := 14) 2 X dX3_diedBy_14 rfl ?_
  refine j_icmp_ge (pc := 15) 70 X dX3_diedBy_15 rfl hF (fun hF => ?_) (fun hF => ?_)
  · refine j_iload (pc := 70) 4 X dX3_diedBy_70 rfl ?_
    exact j_iret (pc := 72) X E dX3_diedBy_72 hF
  · refine j_aload_n (pc := 18) 0 X dX3_diedBy_18 rfl ?_
    refine j_getr (pc := 19) X dX3_diedBy_19 (hz _ sh_152) fl_X3_9 rfl ?_
    refine j_iload (pc := 22) 5 X dX3_diedBy_22 rfl ?_
    refine j_iald (pc := 24) X dX3_diedBy_24 (hz _ sh_153) hF (fun hF => ?_)
    refine j_iconst (pc := 25) 1 X dX3_diedBy_25 rfl ?_
    refine j_icmp_ne (pc := 26) 64 X dX3_diedBy_26 rfl hF (fun hF => ?_) (fun hF => ?_)
    · exact BX3_diedBy_64 X E hz r12 hr12 x1 x2 x3 x5 x6 h hF
    · refine j_aload_n (pc := 29) 0 X dX3_diedBy_29 rfl ?_
      refine j_getr (pc := 30) X dX3_diedBy_30 (hz _ sh_152) fl_X3_15 rfl ?_
      refine j_iload (pc := 33) 5 X dX3_diedBy_33 rfl ?_
      refine j_iald (pc := 35) X dX3_diedBy_35 (hz _ sh_154) hF (fun hF => ?_)
      refine j_iload_n (pc := 36) 1 X dX3_diedBy_36 rfl ?_
      refine j_icmp_gt (pc := 37) 64 X dX3_diedBy_37 rfl hF (fun hF => ?_) (fun hF => ?_)
      · exact BX3_diedBy_64 X E hz r12 hr12 x1 x2 x3 x5 x6 h hF
      · refine j_aload_n (pc := 40) 0 X dX3_diedBy_40 rfl ?_
        refine j_iload (pc := 41) 5 X dX3_diedBy_41 rfl ?_
        refine j_lload_n (pc := 43) 3 X dX3_diedBy_43 rfl ?_
        refine j_cVi (pc := 44) (As := [.int x6, .long x3]) (rest := []) X dX3_diedBy_44 ml_X3_54 ck_X3_counts cv_X3_counts (hz _ sh_152) rfl (Nat.le_of_ble_eq_true rfl) rfl (Nat.le_of_ble_eq_true rfl) rfl hF (tX3_counts Z x6 x3 hz h) (fun w2 h1 hF => ?_)
        refine j_if_eq (pc := 47) 64 X dX3_diedBy_47 rfl hF (fun hF => ?_) (fun hF => ?_)
        · exact BX3_diedBy_64 X E hz r12 hr12 x1 x2 x3 x5 x6 h1 hF
        · refine j_iload (pc := 50) 4 X dX3_diedBy_50 rfl ?_
          refine j_iconst (pc := 52) 1 X dX3_diedBy_52 rfl ?_
          refine j_aload_n (pc := 53) 0 X dX3_diedBy_53 rfl ?_
          refine j_getr (pc := 54) X dX3_diedBy_54 (hz _ sh_152) fl_X3_18 rfl ?_
          refine j_iload (pc := 57) 5 X dX3_diedBy_57 rfl ?_
          refine j_iald (pc := 59) X dX3_diedBy_59 (hz _ sh_155) hF (fun hF => ?_)
          refine j_ishl (pc := 60) X dX3_diedBy_60 ?_
          refine j_ior (pc := 61) X dX3_diedBy_61 ?_
          refine j_istore (pc := 62) (fun y => [(5, .int y), (0, .ref (Z.2.1 152)), (1, .int x1), (2, .int x2), (3, .long x3), (6, .int x6)]) X dX3_diedBy_62 (by decide) (fun _ => rfl) hF (fun v3 hF => ?_)
          refine j_lv [(0, .ref (Z.2.1 152)), (1, .int x1), (2, .int x2), (3, .long x3), (5, .int v3), (6, .int x6)] [1, 2, 3, 4, 0, 5] rfl ?_
          exact BX3_diedBy_64 X E hz r12 hr12 x1 x2 x3 v3 x6 h1 hF
theorem LX3_diedBy_12 {Z : ZT} {G : GT} {r : Int32} {hr : Hp} (X : CX Z G cX3_diedBy RX3 7 2) (E : RX Z G (some .int) (some (.int r)) hr) (hz : HZ Z)  : ∀ (n : Nat) (x1 : Int32) (x2 : Int32) (x3 : Int64) (x5 : Int32) (x6 : Int32) (h : Hp), lX3_diedBy_12   n x1 x2 x3 x5 x6 h = some (r, hr) → J Z G 7 h 12 [(0, .ref (Z.2.1 152)), (1, .int x1), (2, .int x2), (3, .long x3), (5, .int x5), (6, .int x6)] [] := by
  intro n
  induction n with
  | zero => intro x1 x2 x3 x5 x6 h hF; cases hF
  | succ n ih => intro x1 x2 x3 x5 x6 h hF; exact BX3_diedBy_12 X E hz  (lX3_diedBy_12   n) ih x1 x2 x3 x5 x6 h hF
def fX3_diedBy (a1 : Int32) (a2 : Int32) (h : Hp) : Option (Int32 × Hp) := bi (fX3_annulledBy a2 h) (fun w2 h1 => lt w2 (fun v3 => lt 0 (fun v4 => lt 0 (fun v5 => lX3_diedBy_12 FU a1 a2 v3 v4 v5 h1))))
set_option maxRecDepth 20000 in
theorem tX3_diedBy (Z : ZT) (a1 : Int32) (a2 : Int32) (hz : HZ Z) (h : Hp) (r : Int32) (hr : Hp) (hF : fX3_diedBy a1 a2 h = some (r, hr)) : MC Z yX3_diedBy cX3_diedBy 7 (some .int) 2 [.ref (Z.2.1 152), .int a1, .int a2] h (some (.int r)) hr := by
  unfold fX3_diedBy at hF
  refine mc_start (by decide) (Nat.le_of_ble_eq_true rfl) (fun G X E => ?_)
  refine j_aload_n (pc := 0) 0 X dX3_diedBy_0 rfl ?_
  refine j_iload_n (pc := 1) 2 X dX3_diedBy_1 rfl ?_
  refine j_cVl (pc := 2) (As := [.int a2]) (rest := []) X dX3_diedBy_2 ml_X3_44 ck_X3_annulledBy cv_X3_annulledBy (hz _ sh_152) rfl (Nat.le_of_ble_eq_true rfl) rfl (Nat.le_of_ble_eq_true rfl) rfl hF (tX3_annulledBy Z a2 hz h) (fun w2 h1 hF => ?_)
  refine j_lstore_n (pc := 5) (fun y => [(3, .long y), (0, .ref (Z.2.1 152)), (1, .int a1), (2, .int a2)]) X dX3_diedBy_5 (by decide) (fun _ => rfl) hF (fun v3 hF => ?_)
  refine j_iconst (pc := 6) 0 X dX3_diedBy_6 rfl ?_
  refine j_istore (pc := 7) (fun y => [(5, .int y), (3, .long v3), (0, .ref (Z.2.1 152)), (1, .int a1), (2, .int a2)]) X dX3_diedBy_7 (by decide) (fun _ => rfl) hF (fun v4 hF => ?_)
  refine j_iconst (pc := 9) 0 X dX3_diedBy_9 rfl ?_
  refine j_istore (pc := 10) (fun y => [(6, .int y), (5, .int v4), (3, .long v3), (0, .ref (Z.2.1 152)), (1, .int a1), (2, .int a2)]) X dX3_diedBy_10 (by decide) (fun _ => rfl) hF (fun v5 hF => ?_)
  refine j_lv [(0, .ref (Z.2.1 152)), (1, .int a1), (2, .int a2), (3, .long v3), (5, .int v4), (6, .int v5)] [3, 4, 5, 2, 1, 0] rfl ?_
  exact LX3_diedBy_12 X E hz FU a1 a2 v3 v4 v5 h1 hF
theorem dX5_begin_0 : decode cX5_begin 0 = .ok (.aload_n 0, 1) := by decide +kernel
theorem dX5_begin_1 : decode cX5_begin 1 = .ok (.getfield 29, 3) := by decide +kernel
theorem dX5_begin_4 : decode cX5_begin 4 = .ok (.invokevirtual 33, 3) := by decide +kernel
theorem dX5_begin_7 : decode cX5_begin 7 = .ok (.aload_n 0, 1) := by decide +kernel
theorem dX5_begin_8 : decode cX5_begin 8 = .ok (.iconst 0, 1) := by decide +kernel
theorem dX5_begin_9 : decode cX5_begin 9 = .ok (.putfield 38, 3) := by decide +kernel
theorem dX5_begin_12 : decode cX5_begin 12 = .ok (.aload_n 0, 1) := by decide +kernel
theorem dX5_begin_13 : decode cX5_begin 13 = .ok (.aload_n 0, 1) := by decide +kernel
theorem dX5_begin_14 : decode cX5_begin 14 = .ok (.getfield 25, 3) := by decide +kernel
theorem dX5_begin_17 : decode cX5_begin 17 = .ok (.getfield 42, 3) := by decide +kernel
theorem dX5_begin_20 : decode cX5_begin 20 = .ok (.iconst 0, 1) := by decide +kernel
theorem dX5_begin_21 : decode cX5_begin 21 = .ok (.iaload, 1) := by decide +kernel
theorem dX5_begin_22 : decode cX5_begin 22 = .ok (.putfield 47, 3) := by decide +kernel
theorem dX5_begin_25 : decode cX5_begin 25 = .ok (.aload_n 0, 1) := by decide +kernel
theorem dX5_begin_26 : decode cX5_begin 26 = .ok (.iconst 0, 1) := by decide +kernel
theorem dX5_begin_27 : decode cX5_begin 27 = .ok (.putfield 50, 3) := by decide +kernel
theorem dX5_begin_30 : decode cX5_begin 30 = .ok (.aload_n 0, 1) := by decide +kernel
theorem dX5_begin_31 : decode cX5_begin 31 = .ok (.iconst (-1), 1) := by decide +kernel
theorem dX5_begin_32 : decode cX5_begin 32 = .ok (.putfield 53, 3) := by decide +kernel
theorem dX5_begin_35 : decode cX5_begin 35 = .ok (.return_, 1) := by decide +kernel
def fX5_begin  (h : Hp) : Option (Hp) := bv (fX0_clear 125 h) (fun h1 => lt (wI h1 142 6 0) (fun h2 => ck (inb 0 401) (lt (wI h2 142 7 (h2.1 104 (ix 0))) (fun h3 => lt (wI h3 142 8 0) (fun h4 => lt (wI h4 142 9 (-1)) (fun h5 => some h5))))))
set_option maxRecDepth 20000 in
theorem tX5_begin (Z : ZT)  (hz : HZ Z) (h : Hp) (hr : Hp) (hF : fX5_begin  h = some hr) : MC Z yX5_begin cX5_begin 1 none 2 [.ref (Z.2.1 142)] h (none) hr := by
  unfold fX5_begin at hF
  refine mc_start (by decide) (Nat.le_of_ble_eq_true rfl) (fun G X E => ?_)
  refine j_aload_n (pc := 0) 0 X dX5_begin_0 rfl ?_
  refine j_getr (pc := 1) X dX5_begin_1 (hz _ sh_142) fl_X5_29 rfl ?_
  refine j_cVv (pc := 4) (As := []) (rest := []) X dX5_begin_4 ml_X5_33 ck_X0_clear cv_X0_clear (hz _ sh_125) rfl (Nat.le_of_ble_eq_true rfl) rfl (Nat.le_of_ble_eq_true rfl) rfl hF (tX0_clear Z 125 (HB_of hz isB_125) h) (fun h1 hF => ?_)
  refine j_aload_n (pc := 7) 0 X dX5_begin_7 rfl ?_
  refine j_iconst (pc := 8) 0 X dX5_begin_8 rfl ?_
  refine j_puti (pc := 9) X dX5_begin_9 (hz _ sh_142) fp_X5_38 rfl hF (fun h2 hF => ?_)
  refine j_aload_n (pc := 12) 0 X dX5_begin_12 rfl ?_
  refine j_aload_n (pc := 13) 0 X dX5_begin_13 rfl ?_
  refine j_getr (pc := 14) X dX5_begin_14 (hz _ sh_142) fl_X5_25 rfl ?_
  refine j_getr (pc := 17) X dX5_begin_17 (hz _ sh_103) fl_X5_42 rfl ?_
  refine j_iconst (pc := 20) 0 X dX5_begin_20 rfl ?_
  refine j_iald (pc := 21) X dX5_begin_21 (hz _ sh_104) hF (fun hF => ?_)
  refine j_puti (pc := 22) X dX5_begin_22 (hz _ sh_142) fp_X5_47 rfl hF (fun h3 hF => ?_)
  refine j_aload_n (pc := 25) 0 X dX5_begin_25 rfl ?_
  refine j_iconst (pc := 26) 0 X dX5_begin_26 rfl ?_
  refine j_puti (pc := 27) X dX5_begin_27 (hz _ sh_142) fp_X5_50 rfl hF (fun h4 hF => ?_)
  refine j_aload_n (pc := 30) 0 X dX5_begin_30 rfl ?_
  refine j_iconst (pc := 31) (-1) X dX5_begin_31 rfl ?_
  refine j_puti (pc := 32) X dX5_begin_32 (hz _ sh_142) fp_X5_53 rfl hF (fun h5 hF => ?_)
  exact j_vret (pc := 35) X E dX5_begin_35 hF
theorem dX5_stop_0 : decode cX5_stop 0 = .ok (.aload_n 0, 1) := by decide +kernel
theorem dX5_stop_1 : decode cX5_stop 1 = .ok (.iload_n 1, 1) := by decide +kernel
theorem dX5_stop_2 : decode cX5_stop 2 = .ok (.putfield 50, 3) := by decide +kernel
theorem dX5_stop_5 : decode cX5_stop 5 = .ok (.aload_n 0, 1) := by decide +kernel
theorem dX5_stop_6 : decode cX5_stop 6 = .ok (.aload_n 0, 1) := by decide +kernel
theorem dX5_stop_7 : decode cX5_stop 7 = .ok (.getfield 25, 3) := by decide +kernel
theorem dX5_stop_10 : decode cX5_stop 10 = .ok (.getfield 82, 3) := by decide +kernel
theorem dX5_stop_13 : decode cX5_stop 13 = .ok (.aload_n 0, 1) := by decide +kernel
theorem dX5_stop_14 : decode cX5_stop 14 = .ok (.getfield 38, 3) := by decide +kernel
theorem dX5_stop_17 : decode cX5_stop 17 = .ok (.iaload, 1) := by decide +kernel
theorem dX5_stop_18 : decode cX5_stop 18 = .ok (.putfield 53, 3) := by decide +kernel
theorem dX5_stop_21 : decode cX5_stop 21 = .ok (.iconst 0, 1) := by decide +kernel
theorem dX5_stop_22 : decode cX5_stop 22 = .ok (.ireturn, 1) := by decide +kernel
def fX5_stop (a1 : Int32) (h : Hp) : Option (Int32 × Hp) := lt (wI h 142 8 a1) (fun h1 => ck (inb (h1.1 142 6) 401) (lt (wI h1 142 9 (h1.1 105 (ix (h1.1 142 6)))) (fun h2 => ck (zb 0) (some (0, h2)))))
set_option maxRecDepth 20000 in
theorem tX5_stop (Z : ZT) (a1 : Int32) (hz : HZ Z) (h : Hp) (r : Int32) (hr : Hp) (hF : fX5_stop a1 h = some (r, hr)) : MC Z yX5_stop cX5_stop 2 (some .boolean) 0 [.ref (Z.2.1 142), .int a1] h (some (.int r)) hr := by
  unfold fX5_stop at hF
  refine mc_start (by decide) (Nat.le_of_ble_eq_true rfl) (fun G X E => ?_)
  refine j_aload_n (pc := 0) 0 X dX5_stop_0 rfl ?_
  refine j_iload_n (pc := 1) 1 X dX5_stop_1 rfl ?_
  refine j_puti (pc := 2) X dX5_stop_2 (hz _ sh_142) fp_X5_50 rfl hF (fun h1 hF => ?_)
  refine j_aload_n (pc := 5) 0 X dX5_stop_5 rfl ?_
  refine j_aload_n (pc := 6) 0 X dX5_stop_6 rfl ?_
  refine j_getr (pc := 7) X dX5_stop_7 (hz _ sh_142) fl_X5_25 rfl ?_
  refine j_getr (pc := 10) X dX5_stop_10 (hz _ sh_103) fl_X5_82 rfl ?_
  refine j_aload_n (pc := 13) 0 X dX5_stop_13 rfl ?_
  refine j_geti (pc := 14) X dX5_stop_14 (hz _ sh_142) fl_X5_38 rfl ?_
  refine j_iald (pc := 17) X dX5_stop_17 (hz _ sh_105) hF (fun hF => ?_)
  refine j_puti (pc := 18) X dX5_stop_18 (hz _ sh_142) fp_X5_53 rfl hF (fun h2 hF => ?_)
  refine j_iconst (pc := 21) 0 X dX5_stop_21 rfl ?_
  exact j_zret (pc := 22) X E dX5_stop_22 hF
theorem dX5_take_0 : decode cX5_take 0 = .ok (.aload_n 0, 1) := by decide +kernel
theorem dX5_take_1 : decode cX5_take 1 = .ok (.getfield 47, 3) := by decide +kernel
theorem dX5_take_4 : decode cX5_take 4 = .ok (.iload_n 1, 1) := by decide +kernel
theorem dX5_take_5 : decode cX5_take 5 = .ok (.if_icmp .ne 7, 3) := by decide +kernel
theorem dX5_take_8 : decode cX5_take 8 = .ok (.iconst 1, 1) := by decide +kernel
theorem dX5_take_9 : decode cX5_take 9 = .ok (.goto 4, 3) := by decide +kernel
theorem dX5_take_12 : decode cX5_take 12 = .ok (.iconst 0, 1) := by decide +kernel
theorem dX5_take_13 : decode cX5_take 13 = .ok (.istore_n 2, 1) := by decide +kernel
theorem dX5_take_14 : decode cX5_take 14 = .ok (.iload_n 2, 1) := by decide +kernel
theorem dX5_take_15 : decode cX5_take 15 = .ok (.ifCond .eq 13, 3) := by decide +kernel
theorem dX5_take_18 : decode cX5_take 18 = .ok (.aload_n 0, 1) := by decide +kernel
theorem dX5_take_19 : decode cX5_take 19 = .ok (.getfield 38, 3) := by decide +kernel
theorem dX5_take_22 : decode cX5_take 22 = .ok (.sipush 400, 3) := by decide +kernel
theorem dX5_take_25 : decode cX5_take 25 = .ok (.if_icmp .lt 34, 3) := by decide +kernel
theorem dX5_take_28 : decode cX5_take 28 = .ok (.aload_n 0, 1) := by decide +kernel
theorem dX5_take_29 : decode cX5_take 29 = .ok (.iload_n 2, 1) := by decide +kernel
theorem dX5_take_30 : decode cX5_take 30 = .ok (.ifCond .eq 7, 3) := by decide +kernel
theorem dX5_take_33 : decode cX5_take 33 = .ok (.iconst 2, 1) := by decide +kernel
theorem dX5_take_34 : decode cX5_take 34 = .ok (.goto 4, 3) := by decide +kernel
theorem dX5_take_37 : decode cX5_take 37 = .ok (.iconst 1, 1) := by decide +kernel
theorem dX5_take_38 : decode cX5_take 38 = .ok (.putfield 50, 3) := by decide +kernel
theorem dX5_take_41 : decode cX5_take 41 = .ok (.aload_n 0, 1) := by decide +kernel
theorem dX5_take_42 : decode cX5_take 42 = .ok (.aload_n 0, 1) := by decide +kernel
theorem dX5_take_43 : decode cX5_take 43 = .ok (.getfield 25, 3) := by decide +kernel
theorem dX5_take_46 : decode cX5_take 46 = .ok (.getfield 82, 3) := by decide +kernel
theorem dX5_take_49 : decode cX5_take 49 = .ok (.aload_n 0, 1) := by decide +kernel
theorem dX5_take_50 : decode cX5_take 50 = .ok (.getfield 38, 3) := by decide +kernel
theorem dX5_take_53 : decode cX5_take 53 = .ok (.iaload, 1) := by decide +kernel
theorem dX5_take_54 : decode cX5_take 54 = .ok (.putfield 53, 3) := by decide +kernel
theorem dX5_take_57 : decode cX5_take 57 = .ok (.iconst 0, 1) := by decide +kernel
theorem dX5_take_58 : decode cX5_take 58 = .ok (.ireturn, 1) := by decide +kernel
theorem dX5_take_59 : decode cX5_take 59 = .ok (.aload_n 0, 1) := by decide +kernel
theorem dX5_take_60 : decode cX5_take 60 = .ok (.dup, 1) := by decide +kernel
theorem dX5_take_61 : decode cX5_take 61 = .ok (.getfield 38, 3) := by decide +kernel
theorem dX5_take_64 : decode cX5_take 64 = .ok (.iconst 1, 1) := by decide +kernel
theorem dX5_take_65 : decode cX5_take 65 = .ok (.iadd, 1) := by decide +kernel
theorem dX5_take_66 : decode cX5_take 66 = .ok (.putfield 38, 3) := by decide +kernel
theorem dX5_take_69 : decode cX5_take 69 = .ok (.aload_n 0, 1) := by decide +kernel
theorem dX5_take_70 : decode cX5_take 70 = .ok (.aload_n 0, 1) := by decide +kernel
theorem dX5_take_71 : decode cX5_take 71 = .ok (.getfield 25, 3) := by decide +kernel
theorem dX5_take_74 : decode cX5_take 74 = .ok (.getfield 42, 3) := by decide +kernel
theorem dX5_take_77 : decode cX5_take 77 = .ok (.aload_n 0, 1) := by decide +kernel
theorem dX5_take_78 : decode cX5_take 78 = .ok (.getfield 38, 3) := by decide +kernel
theorem dX5_take_81 : decode cX5_take 81 = .ok (.iaload, 1) := by decide +kernel
theorem dX5_take_82 : decode cX5_take 82 = .ok (.putfield 47, 3) := by decide +kernel
theorem dX5_take_85 : decode cX5_take 85 = .ok (.iconst 1, 1) := by decide +kernel
theorem dX5_take_86 : decode cX5_take 86 = .ok (.ireturn, 1) := by decide +kernel
def bX5_take_38   (s0 : Int32) (h : Hp) : Option (Int32 × Hp) := lt (wI h 142 8 s0) (fun h1 => ck (inb (h1.1 142 6) 401) (lt (wI h1 142 9 (h1.1 105 (ix (h1.1 142 6)))) (fun h2 => ck (zb 0) (some (0, h2)))))
set_option maxRecDepth 20000 in
theorem BX5_take_38 {Z : ZT} {G : GT} {r : Int32} {hr : Hp} (X : CX Z G cX5_take RX5 3 0) (E : RX Z G (some .boolean) (some (.int r)) hr) (hz : HZ Z)  (s0 : Int32) (h : Hp) (hF : bX5_take_38   s0 h = some (r, hr)) : J Z G 3 h 38 [(0, .ref (Z.2.1 142))] [.int s0, .ref (Z.2.1 142)] := by
  unfold bX5_take_38 at hF
  refine j_puti (pc := 38) X dX5_take_38 (hz _ sh_142) fp_X5_50 rfl hF (fun h1 hF => ?_)
  refine j_aload_n (pc := 41) 0 X dX5_take_41 rfl ?_
  refine j_aload_n (pc := 42) 0 X dX5_take_42 rfl ?_
  refine j_getr (pc := 43) X dX5_take_43 (hz _ sh_142) fl_X5_25 rfl ?_
  refine j_getr (pc := 46) X dX5_take_46 (hz _ sh_103) fl_X5_82 rfl ?_
  refine j_aload_n (pc := 49) 0 X dX5_take_49 rfl ?_
  refine j_geti (pc := 50) X dX5_take_50 (hz _ sh_142) fl_X5_38 rfl ?_
  refine j_iald (pc := 53) X dX5_take_53 (hz _ sh_105) hF (fun hF => ?_)
  refine j_puti (pc := 54) X dX5_take_54 (hz _ sh_142) fp_X5_53 rfl hF (fun h2 hF => ?_)
  refine j_iconst (pc := 57) 0 X dX5_take_57 rfl ?_
  exact j_zret (pc := 58) X E dX5_take_58 hF
def bX5_take_28   (x2 : Int32) (h : Hp) : Option (Int32 × Hp) := (if x2 = 0 then bX5_take_38 1 h else bX5_take_38 2 h)
set_option maxRecDepth 20000 in
theorem BX5_take_28 {Z : ZT} {G : GT} {r : Int32} {hr : Hp} (X : CX Z G cX5_take RX5 3 0) (E : RX Z G (some .boolean) (some (.int r)) hr) (hz : HZ Z)  (x2 : Int32) (h : Hp) (hF : bX5_take_28   x2 h = some (r, hr)) : J Z G 3 h 28 [(0, .ref (Z.2.1 142)), (2, .int x2)] [] := by
  unfold bX5_take_28 at hF
  refine j_aload_n (pc := 28) 0 X dX5_take_28 rfl ?_
  refine j_iload_n (pc := 29) 1 X dX5_take_29 rfl ?_
  refine j_if_eq (pc := 30) 37 X dX5_take_30 rfl hF (fun hF => ?_) (fun hF => ?_)
  · refine j_iconst (pc := 37) 1 X dX5_take_37 rfl ?_
    refine j_lv [(0, .ref (Z.2.1 142))] [0] rfl ?_
    exact BX5_take_38 X E hz 1 h hF
  · refine j_iconst (pc := 33) 2 X dX5_take_33 rfl ?_
    refine j_goto (pc := 34) 38 X dX5_take_34 rfl ?_
    refine j_lv [(0, .ref (Z.2.1 142))] [0] rfl ?_
    exact BX5_take_38 X E hz 2 h hF
def bX5_take_13   (s0 : Int32) (h : Hp) : Option (Int32 × Hp) := lt s0 (fun v1 => (if v1 = 0 then bX5_take_28 v1 h else (if (h.1 142 6) < 400 then lt (wI h 142 6 ((h.1 142 6) + 1)) (fun h2 => ck (inb (h2.1 142 6) 401) (lt (wI h2 142 7 (h2.1 104 (ix (h2.1 142 6)))) (fun h3 => ck (zb 1) (some (1, h3))))) else bX5_take_28 v1 h)))
set_option maxRecDepth 20000 in
theorem BX5_take_13 {Z : ZT} {G : GT} {r : Int32} {hr : Hp} (X : CX Z G cX5_take RX5 3 0) (E : RX Z G (some .boolean) (some (.int r)) hr) (hz : HZ Z)  (s0 : Int32) (h : Hp) (hF : bX5_take_13   s0 h = some (r, hr)) : J Z G 3 h 13 [(0, .ref (Z.2.1 142))] [.int s0] := by
  unfold bX5_take_13 at hF
  refine j_istore_n (pc := 13) (fun y => [(2, .int y), (0, .ref (Z.2.1 142))]) X dX5_take_13 (by decide) (fun _ => rfl) hF (fun v1 hF => ?_)
  refine j_iload_n (pc := 14) 0 X dX5_take_14 rfl ?_
  refine j_if_eq (pc := 15) 28 X dX5_take_15 rfl hF (fun hF => ?_) (fun hF => ?_)
  · refine j_lv [(0, .ref (Z.2.1 142)), (2, .int v1)] [1, 0] rfl ?_
    exact BX5_take_28 X E hz v1 h hF
  · refine j_aload_n (pc := 18) 1 X dX5_take_18 rfl ?_
    refine j_geti (pc := 19) X dX5_take_19 (hz _ sh_142) fl_X5_38 rfl ?_
    refine j_sipush (pc := 22) 400 X dX5_take_22 rfl ?_
    refine j_icmp_lt (pc := 25) 59 X dX5_take_25 rfl hF (fun hF => ?_) (fun hF => ?_)
    · refine j_aload_n (pc := 59) 1 X dX5_take_59 rfl ?_
      refine j_dup (pc := 60) X dX5_take_60 rfl ?_
      refine j_geti (pc := 61) X dX5_take_61 (hz _ sh_142) fl_X5_38 rfl ?_
      refine j_iconst (pc := 64) 1 X dX5_take_64 rfl ?_
      refine j_iadd (pc := 65) X dX5_take_65 ?_
      refine j_puti (pc := 66) X dX5_take_66 (hz _ sh_142) fp_X5_38 rfl hF (fun h2 hF => ?_)
      refine j_aload_n (pc := 69) 1 X dX5_take_69 rfl ?_
      refine j_aload_n (pc := 70) 1 X dX5_take_70 rfl ?_
      refine j_getr (pc := 71) X dX5_take_71 (hz _ sh_142) fl_X5_25 rfl ?_
      refine j_getr (pc := 74) X dX5_take_74 (hz _ sh_103) fl_X5_42 rfl ?_
      refine j_aload_n (pc := 77) 1 X dX5_take_77 rfl ?_
      refine j_geti (pc := 78) X dX5_take_78 (hz _ sh_142) fl_X5_38 rfl ?_
      refine j_iald (pc := 81) X dX5_take_81 (hz _ sh_104) hF (fun hF => ?_)
      refine j_puti (pc := 82) X dX5_take_82 (hz _ sh_142) fp_X5_47 rfl hF (fun h3 hF => ?_)
      refine j_iconst (pc := 85) 1 X dX5_take_85 rfl ?_
      exact j_zret (pc := 86) X E dX5_take_86 hF
    · refine j_lv [(0, .ref (Z.2.1 142)), (2, .int v1)] [1, 0] rfl ?_
      exact BX5_take_28 X E hz v1 h hF
def fX5_take (a1 : Int32) (h : Hp) : Option (Int32 × Hp) := (if (h.1 142 7) = a1 then bX5_take_13 1 h else bX5_take_13 0 h)
set_option maxRecDepth 20000 in
theorem tX5_take (Z : ZT) (a1 : Int32) (hz : HZ Z) (h : Hp) (r : Int32) (hr : Hp) (hF : fX5_take a1 h = some (r, hr)) : MC Z yX5_take cX5_take 3 (some .boolean) 0 [.ref (Z.2.1 142), .int a1] h (some (.int r)) hr := by
  unfold fX5_take at hF
  refine mc_start (by decide) (Nat.le_of_ble_eq_true rfl) (fun G X E => ?_)
  refine j_aload_n (pc := 0) 0 X dX5_take_0 rfl ?_
  refine j_geti (pc := 1) X dX5_take_1 (hz _ sh_142) fl_X5_47 rfl ?_
  refine j_iload_n (pc := 4) 1 X dX5_take_4 rfl ?_
  refine j_icmp_ne (pc := 5) 12 X dX5_take_5 rfl hF (fun hF => ?_) (fun hF => ?_)
  · refine j_iconst (pc := 12) 0 X dX5_take_12 rfl ?_
    refine j_lv [(0, .ref (Z.2.1 142))] [0] rfl ?_
    exact BX5_take_13 X E hz 0 h hF
  · refine j_iconst (pc := 8) 1 X dX5_take_8 rfl ?_
    refine j_goto (pc := 9) 13 X dX5_take_9 rfl ?_
    refine j_lv [(0, .ref (Z.2.1 142))] [0] rfl ?_
    exact BX5_take_13 X E hz 1 h hF
theorem dX5_find_0 : decode cX5_find 0 = .ok (.iconst 0, 1) := by decide +kernel
theorem dX5_find_1 : decode cX5_find 1 = .ok (.istore 4, 2) := by decide +kernel
theorem dX5_find_3 : decode cX5_find 3 = .ok (.iload 4, 2) := by decide +kernel
theorem dX5_find_5 : decode cX5_find 5 = .ok (.iload_n 1, 1) := by decide +kernel
theorem dX5_find_6 : decode cX5_find 6 = .ok (.if_icmp .ge 28, 3) := by decide +kernel
theorem dX5_find_9 : decode cX5_find 9 = .ok (.iload 4, 2) := by decide +kernel
theorem dX5_find_11 : decode cX5_find 11 = .ok (.aload_n 0, 1) := by decide +kernel
theorem dX5_find_12 : decode cX5_find 12 = .ok (.arraylength, 1) := by decide +kernel
theorem dX5_find_13 : decode cX5_find 13 = .ok (.if_icmp .ge 21, 3) := by decide +kernel
theorem dX5_find_16 : decode cX5_find 16 = .ok (.aload_n 0, 1) := by decide +kernel
theorem dX5_find_17 : decode cX5_find 17 = .ok (.iload 4, 2) := by decide +kernel
theorem dX5_find_19 : decode cX5_find 19 = .ok (.laload, 1) := by decide +kernel
theorem dX5_find_20 : decode cX5_find 20 = .ok (.lload_n 2, 1) := by decide +kernel
theorem dX5_find_21 : decode cX5_find 21 = .ok (.lcmp, 1) := by decide +kernel
theorem dX5_find_22 : decode cX5_find 22 = .ok (.ifCond .ne 6, 3) := by decide +kernel
theorem dX5_find_25 : decode cX5_find 25 = .ok (.iload 4, 2) := by decide +kernel
theorem dX5_find_27 : decode cX5_find 27 = .ok (.ireturn, 1) := by decide +kernel
theorem dX5_find_28 : decode cX5_find 28 = .ok (.iinc 4 1, 3) := by decide +kernel
theorem dX5_find_31 : decode cX5_find 31 = .ok (.goto (-28), 3) := by decide +kernel
theorem dX5_find_34 : decode cX5_find 34 = .ok (.iconst (-1), 1) := by decide +kernel
theorem dX5_find_35 : decode cX5_find 35 = .ok (.ireturn, 1) := by decide +kernel
def bX5_find_3 (u1 : Nat) (n1 : Nat)  (r3 : Int32 → Int64 → Int32 → Hp → Option (Int32 × Hp)) (x1 : Int32) (x2 : Int64) (x4 : Int32) (h : Hp) : Option (Int32 × Hp) := (if x1 ≤ x4 then some ((-1), h) else (if (Int32.ofNat n1) ≤ x4 then some ((-1), h) else ck (inb x4 n1) ((if (lg_cmp (h.2 u1 (ix x4)) x2) = 0 then some (x4, h) else lt (x4 + 1) (fun v1 => r3 x1 x2 v1 h)))))
def lX5_find_3 (u1 : Nat) (n1 : Nat)  : Nat → Int32 → Int64 → Int32 → Hp → Option (Int32 × Hp)
  | 0 => fun _ _ _ _ => none
  | n + 1 => bX5_find_3 u1 n1  (lX5_find_3 u1 n1  n)
set_option maxRecDepth 20000 in
theorem BX5_find_3 {Z : ZT} {G : GT} {r : Int32} {hr : Hp} (X : CX Z G cX5_find RX5 5 0) (E : RX Z G (some .int) (some (.int r)) hr) (u1 : Nat) (n1 : Nat) (hu1 : (u1, .inr (.inl (1, n1))) ∈ Z.2.2.2.2) (hz : True)  (r3 : Int32 → Int64 → Int32 → Hp → Option (Int32 × Hp)) (hr3 : ∀ (x1 : Int32) (x2 : Int64) (x4 : Int32) (h : Hp), r3 x1 x2 x4 h = some (r, hr) → J Z G 5 h 3 [(0, .ref (Z.2.1 u1)), (1, .int x1), (2, .long x2), (4, .int x4)] []) (x1 : Int32) (x2 : Int64) (x4 : Int32) (h : Hp) (hF : bX5_find_3 u1 n1  r3 x1 x2 x4 h = some (r, hr)) : J Z G 5 h 3 [(0, .ref (Z.2.1 u1)), (1, .int x1), (2, .long x2), (4, .int x4)] [] := by
  unfold bX5_find_3 at hF
  refine j_iload (pc := 3) 3 X dX5_find_3 rfl ?_
  refine j_iload_n (pc := 5) 1 X dX5_find_5 rfl ?_
  refine j_icmp_ge (pc := 6) 34 X dX5_find_6 rfl hF (fun hF => ?_) (fun hF => ?_)
  · refine j_iconst (pc := 34) (-1) X dX5_find_34 rfl ?_
    exact j_iret (pc := 35) X E dX5_find_35 hF
  · refine j_iload (pc := 9) 3 X dX5_find_9 rfl ?_
    refine j_aload_n (pc := 11) 0 X dX5_find_11 rfl ?_
    refine j_alen (pc := 12) (v := (Int32.ofNat n1)) X dX5_find_12 hu1 (by decide) rfl ?_
    refine j_icmp_ge (pc := 13) 34 X dX5_find_13 rfl hF (fun hF => ?_) (fun hF => ?_)
    · refine j_iconst (pc := 34) (-1) X dX5_find_34 rfl ?_
      exact j_iret (pc := 35) X E dX5_find_35 hF
    · refine j_aload_n (pc := 16) 0 X dX5_find_16 rfl ?_
      refine j_iload (pc := 17) 3 X dX5_find_17 rfl ?_
      refine j_lald (pc := 19) X dX5_find_19 hu1 hF (fun hF => ?_)
      refine j_lload_n (pc := 20) 2 X dX5_find_20 rfl ?_
      refine j_lcmp (pc := 21) X dX5_find_21 ?_
      refine j_if_ne (pc := 22) 28 X dX5_find_22 rfl hF (fun hF => ?_) (fun hF => ?_)
      · refine j_iinc (pc := 28) 3 (x4 + 1) (fun y => [(4, .int y), (0, .ref (Z.2.1 u1)), (1, .int x1), (2, .long x2)]) X dX5_find_28 rfl rfl (by decide) (fun _ => rfl) hF (fun v1 hF => ?_)
        refine j_goto (pc := 31) 3 X dX5_find_31 rfl ?_
        refine j_lv [(0, .ref (Z.2.1 u1)), (1, .int x1), (2, .long x2), (4, .int v1)] [1, 2, 3, 0] rfl ?_
        exact hr3 x1 x2 v1 h hF
      · refine j_iload (pc := 25) 3 X dX5_find_25 rfl ?_
        exact j_iret (pc := 27) X E dX5_find_27 hF
theorem LX5_find_3 {Z : ZT} {G : GT} {r : Int32} {hr : Hp} (X : CX Z G cX5_find RX5 5 0) (E : RX Z G (some .int) (some (.int r)) hr) (u1 : Nat) (n1 : Nat) (hu1 : (u1, .inr (.inl (1, n1))) ∈ Z.2.2.2.2) (hz : True)  : ∀ (n : Nat) (x1 : Int32) (x2 : Int64) (x4 : Int32) (h : Hp), lX5_find_3 u1 n1  n x1 x2 x4 h = some (r, hr) → J Z G 5 h 3 [(0, .ref (Z.2.1 u1)), (1, .int x1), (2, .long x2), (4, .int x4)] [] := by
  intro n
  induction n with
  | zero => intro x1 x2 x4 h hF; cases hF
  | succ n ih => intro x1 x2 x4 h hF; exact BX5_find_3 X E u1 n1 hu1 hz  (lX5_find_3 u1 n1  n) ih x1 x2 x4 h hF
def fX5_find (u1 : Nat) (n1 : Nat) (a2 : Int32) (a3 : Int64) (h : Hp) : Option (Int32 × Hp) := lt 0 (fun v1 => lX5_find_3 u1 n1 FU a2 a3 v1 h)
set_option maxRecDepth 20000 in
theorem tX5_find (Z : ZT) (u1 : Nat) (n1 : Nat) (hu1 : (u1, .inr (.inl (1, n1))) ∈ Z.2.2.2.2) (a2 : Int32) (a3 : Int64) (hz : True) (h : Hp) (r : Int32) (hr : Hp) (hF : fX5_find u1 n1 a2 a3 h = some (r, hr)) : MC Z yX5_find cX5_find 5 (some .int) 0 [.ref (Z.2.1 u1), .int a2, .long a3] h (some (.int r)) hr := by
  unfold fX5_find at hF
  refine mc_start (by decide) (Nat.le_of_ble_eq_true rfl) (fun G X E => ?_)
  refine j_iconst (pc := 0) 0 X dX5_find_0 rfl ?_
  refine j_istore (pc := 1) (fun y => [(4, .int y), (0, .ref (Z.2.1 u1)), (1, .int a2), (2, .long a3)]) X dX5_find_1 (by decide) (fun _ => rfl) hF (fun v1 hF => ?_)
  refine j_lv [(0, .ref (Z.2.1 u1)), (1, .int a2), (2, .long a3), (4, .int v1)] [1, 2, 3, 0] rfl ?_
  exact LX5_find_3 X E u1 n1 hu1 hz FU a2 a3 v1 h hF
theorem dX5_mark_0 : decode cX5_mark 0 = .ok (.aload_n 0, 1) := by decide +kernel
theorem dX5_mark_1 : decode cX5_mark 1 = .ok (.getfield 25, 3) := by decide +kernel
theorem dX5_mark_4 : decode cX5_mark 4 = .ok (.getfield 82, 3) := by decide +kernel
theorem dX5_mark_7 : decode cX5_mark 7 = .ok (.iload_n 2, 1) := by decide +kernel
theorem dX5_mark_8 : decode cX5_mark 8 = .ok (.iaload, 1) := by decide +kernel
theorem dX5_mark_9 : decode cX5_mark 9 = .ok (.istore_n 3, 1) := by decide +kernel
theorem dX5_mark_10 : decode cX5_mark 10 = .ok (.aload_n 0, 1) := by decide +kernel
theorem dX5_mark_11 : decode cX5_mark 11 = .ok (.getfield 50, 3) := by decide +kernel
theorem dX5_mark_14 : decode cX5_mark 14 = .ok (.ifCond .eq 27, 3) := by decide +kernel
theorem dX5_mark_17 : decode cX5_mark 17 = .ok (.iload_n 3, 1) := by decide +kernel
theorem dX5_mark_18 : decode cX5_mark 18 = .ok (.aload_n 0, 1) := by decide +kernel
theorem dX5_mark_19 : decode cX5_mark 19 = .ok (.getfield 53, 3) := by decide +kernel
theorem dX5_mark_22 : decode cX5_mark 22 = .ok (.if_icmp .lt 19, 3) := by decide +kernel
theorem dX5_mark_25 : decode cX5_mark 25 = .ok (.iload_n 3, 1) := by decide +kernel
theorem dX5_mark_26 : decode cX5_mark 26 = .ok (.aload_n 0, 1) := by decide +kernel
theorem dX5_mark_27 : decode cX5_mark 27 = .ok (.getfield 53, 3) := by decide +kernel
theorem dX5_mark_30 : decode cX5_mark 30 = .ok (.if_icmp .ne 21, 3) := by decide +kernel
theorem dX5_mark_33 : decode cX5_mark 33 = .ok (.iload_n 1, 1) := by decide +kernel
theorem dX5_mark_34 : decode cX5_mark 34 = .ok (.aload_n 0, 1) := by decide +kernel
theorem dX5_mark_35 : decode cX5_mark 35 = .ok (.getfield 50, 3) := by decide +kernel
theorem dX5_mark_38 : decode cX5_mark 38 = .ok (.if_icmp .ge 13, 3) := by decide +kernel
theorem dX5_mark_41 : decode cX5_mark 41 = .ok (.aload_n 0, 1) := by decide +kernel
theorem dX5_mark_42 : decode cX5_mark 42 = .ok (.iload_n 1, 1) := by decide +kernel
theorem dX5_mark_43 : decode cX5_mark 43 = .ok (.putfield 50, 3) := by decide +kernel
theorem dX5_mark_46 : decode cX5_mark 46 = .ok (.aload_n 0, 1) := by decide +kernel
theorem dX5_mark_47 : decode cX5_mark 47 = .ok (.iload_n 3, 1) := by decide +kernel
theorem dX5_mark_48 : decode cX5_mark 48 = .ok (.putfield 53, 3) := by decide +kernel
theorem dX5_mark_51 : decode cX5_mark 51 = .ok (.return_, 1) := by decide +kernel
def bX5_mark_41   (x1 : Int32) (x3 : Int32) (h : Hp) : Option (Hp) := lt (wI h 142 8 x1) (fun h1 => lt (wI h1 142 9 x3) (fun h2 => some h2))
set_option maxRecDepth 20000 in
theorem BX5_mark_41 {Z : ZT} {G : GT} {hr : Hp} (X : CX Z G cX5_mark RX5 4 0) (E : RX Z G none (none) hr) (hz : HZ Z)  (x1 : Int32) (x3 : Int32) (h : Hp) (hF : bX5_mark_41   x1 x3 h = some hr) : J Z G 4 h 41 [(0, .ref (Z.2.1 142)), (1, .int x1), (3, .int x3)] [] := by
  unfold bX5_mark_41 at hF
  refine j_aload_n (pc := 41) 0 X dX5_mark_41 rfl ?_
  refine j_iload_n (pc := 42) 1 X dX5_mark_42 rfl ?_
  refine j_puti (pc := 43) X dX5_mark_43 (hz _ sh_142) fp_X5_50 rfl hF (fun h1 hF => ?_)
  refine j_aload_n (pc := 46) 0 X dX5_mark_46 rfl ?_
  refine j_iload_n (pc := 47) 2 X dX5_mark_47 rfl ?_
  refine j_puti (pc := 48) X dX5_mark_48 (hz _ sh_142) fp_X5_53 rfl hF (fun h2 hF => ?_)
  exact j_vret (pc := 51) X E dX5_mark_51 hF
def fX5_mark (a1 : Int32) (a2 : Int32) (h : Hp) : Option (Hp) := ck (inb a2 401) (lt (h.1 105 (ix a2)) (fun v1 => (if (h.1 142 8) = 0 then bX5_mark_41 a1 v1 h else (if v1 < (h.1 142 9) then bX5_mark_41 a1 v1 h else (if v1 = (h.1 142 9) then (if (h.1 142 8) ≤ a1 then some h else bX5_mark_41 a1 v1 h) else some h)))))
set_option maxRecDepth 20000 in
theorem tX5_mark (Z : ZT) (a1 : Int32) (a2 : Int32) (hz : HZ Z) (h : Hp) (hr : Hp) (hF : fX5_mark a1 a2 h = some hr) : MC Z yX5_mark cX5_mark 4 none 0 [.ref (Z.2.1 142), .int a1, .int a2] h (none) hr := by
  unfold fX5_mark at hF
  refine mc_start (by decide) (Nat.le_of_ble_eq_true rfl) (fun G X E => ?_)
  refine j_aload_n (pc := 0) 0 X dX5_mark_0 rfl ?_
  refine j_getr (pc := 1) X dX5_mark_1 (hz _ sh_142) fl_X5_25 rfl ?_
  refine j_getr (pc := 4) X dX5_mark_4 (hz _ sh_103) fl_X5_82 rfl ?_
  refine j_iload_n (pc := 7) 2 X dX5_mark_7 rfl ?_
  refine j_iald (pc := 8) X dX5_mark_8 (hz _ sh_105) hF (fun hF => ?_)
  refine j_istore_n (pc := 9) (fun y => [(3, .int y), (0, .ref (Z.2.1 142)), (1, .int a1), (2, .int a2)]) X dX5_mark_9 (by decide) (fun _ => rfl) hF (fun v1 hF => ?_)
  refine j_aload_n (pc := 10) 1 X dX5_mark_10 rfl ?_
  refine j_geti (pc := 11) X dX5_mark_11 (hz _ sh_142) fl_X5_50 rfl ?_
  refine j_if_eq (pc := 14) 41 X dX5_mark_14 rfl hF (fun hF => ?_) (fun hF => ?_)
  · refine j_lv [(0, .ref (Z.2.1 142)), (1, .int a1), (3, .int v1)] [1, 2, 0] rfl ?_
    exact BX5_mark_41 X E hz a1 v1 h hF
  · refine j_iload_n (pc := 17) 0 X dX5_mark_17 rfl ?_
    refine j_aload_n (pc := 18) 1 X dX5_mark_18 rfl ?_
    refine j_geti (pc := 19) X dX5_mark_19 (hz _ sh_142) fl_X5_53 rfl ?_
    refine j_icmp_lt (pc := 22) 41 X dX5_mark_22 rfl hF (fun hF => ?_) (fun hF => ?_)
    · refine j_lv [(0, .ref (Z.2.1 142)), (1, .int a1), (3, .int v1)] [1, 2, 0] rfl ?_
      exact BX5_mark_41 X E hz a1 v1 h hF
    · refine j_iload_n (pc := 25) 0 X dX5_mark_25 rfl ?_
      refine j_aload_n (pc := 26) 1 X dX5_mark_26 rfl ?_
      refine j_geti (pc := 27) X dX5_mark_27 (hz _ sh_142) fl_X5_53 rfl ?_
      refine j_icmp_ne (pc := 30) 51 X dX5_mark_30 rfl hF (fun hF => ?_) (fun hF => ?_)
      · exact j_vret (pc := 51) X E dX5_mark_51 hF
      · refine j_iload_n (pc := 33) 2 X dX5_mark_33 rfl ?_
        refine j_aload_n (pc := 34) 1 X dX5_mark_34 rfl ?_
        refine j_geti (pc := 35) X dX5_mark_35 (hz _ sh_142) fl_X5_50 rfl ?_
        refine j_icmp_ge (pc := 38) 51 X dX5_mark_38 rfl hF (fun hF => ?_) (fun hF => ?_)
        · exact j_vret (pc := 51) X E dX5_mark_51 hF
        · refine j_lv [(0, .ref (Z.2.1 142)), (1, .int a1), (3, .int v1)] [1, 2, 0] rfl ?_
          exact BX5_mark_41 X E hz a1 v1 h hF
theorem dX5_takeNewName_0 : decode cX5_takeNewName 0 = .ok (.aload_n 0, 1) := by decide +kernel
theorem dX5_takeNewName_1 : decode cX5_takeNewName 1 = .ok (.getfield 25, 3) := by decide +kernel
theorem dX5_takeNewName_4 : decode cX5_takeNewName 4 = .ok (.getfield 85, 3) := by decide +kernel
theorem dX5_takeNewName_7 : decode cX5_takeNewName 7 = .ok (.aload_n 0, 1) := by decide +kernel
theorem dX5_takeNewName_8 : decode cX5_takeNewName 8 = .ok (.getfield 38, 3) := by decide +kernel
theorem dX5_takeNewName_11 : decode cX5_takeNewName 11 = .ok (.laload, 1) := by decide +kernel
theorem dX5_takeNewName_12 : decode cX5_takeNewName 12 = .ok (.lstore_n 3, 1) := by decide +kernel
theorem dX5_takeNewName_13 : decode cX5_takeNewName 13 = .ok (.aload_n 0, 1) := by decide +kernel
theorem dX5_takeNewName_14 : decode cX5_takeNewName 14 = .ok (.getfield 38, 3) := by decide +kernel
theorem dX5_takeNewName_17 : decode cX5_takeNewName 17 = .ok (.istore 5, 2) := by decide +kernel
theorem dX5_takeNewName_19 : decode cX5_takeNewName 19 = .ok (.aload_n 0, 1) := by decide +kernel
theorem dX5_takeNewName_20 : decode cX5_takeNewName 20 = .ok (.iconst 2, 1) := by decide +kernel
theorem dX5_takeNewName_21 : decode cX5_takeNewName 21 = .ok (.invokevirtual 88, 3) := by decide +kernel
theorem dX5_takeNewName_24 : decode cX5_takeNewName 24 = .ok (.ifCond .ne 5, 3) := by decide +kernel
theorem dX5_takeNewName_27 : decode cX5_takeNewName 27 = .ok (.iconst 0, 1) := by decide +kernel
theorem dX5_takeNewName_28 : decode cX5_takeNewName 28 = .ok (.ireturn, 1) := by decide +kernel
theorem dX5_takeNewName_29 : decode cX5_takeNewName 29 = .ok (.aload_n 0, 1) := by decide +kernel
theorem dX5_takeNewName_30 : decode cX5_takeNewName 30 = .ok (.getfield 9, 3) := by decide +kernel
theorem dX5_takeNewName_33 : decode cX5_takeNewName 33 = .ok (.aload_n 0, 1) := by decide +kernel
theorem dX5_takeNewName_34 : decode cX5_takeNewName 34 = .ok (.getfield 29, 3) := by decide +kernel
theorem dX5_takeNewName_37 : decode cX5_takeNewName 37 = .ok (.getfield 91, 3) := by decide +kernel
theorem dX5_takeNewName_40 : decode cX5_takeNewName 40 = .ok (.lload_n 3, 1) := by decide +kernel
theorem dX5_takeNewName_41 : decode cX5_takeNewName 41 = .ok (.invokestatic 94, 3) := by decide +kernel
theorem dX5_takeNewName_44 : decode cX5_takeNewName 44 = .ok (.ifCond .ge 39, 3) := by decide +kernel
theorem dX5_takeNewName_47 : decode cX5_takeNewName 47 = .ok (.aload_n 0, 1) := by decide +kernel
theorem dX5_takeNewName_48 : decode cX5_takeNewName 48 = .ok (.getfield 15, 3) := by decide +kernel
theorem dX5_takeNewName_51 : decode cX5_takeNewName 51 = .ok (.aload_n 0, 1) := by decide +kernel
theorem dX5_takeNewName_52 : decode cX5_takeNewName 52 = .ok (.getfield 29, 3) := by decide +kernel
theorem dX5_takeNewName_55 : decode cX5_takeNewName 55 = .ok (.getfield 98, 3) := by decide +kernel
theorem dX5_takeNewName_58 : decode cX5_takeNewName 58 = .ok (.lload_n 3, 1) := by decide +kernel
theorem dX5_takeNewName_59 : decode cX5_takeNewName 59 = .ok (.invokestatic 94, 3) := by decide +kernel
theorem dX5_takeNewName_62 : decode cX5_takeNewName 62 = .ok (.ifCond .ge 21, 3) := by decide +kernel
theorem dX5_takeNewName_65 : decode cX5_takeNewName 65 = .ok (.aload_n 0, 1) := by decide +kernel
theorem dX5_takeNewName_66 : decode cX5_takeNewName 66 = .ok (.getfield 18, 3) := by decide +kernel
theorem dX5_takeNewName_69 : decode cX5_takeNewName 69 = .ok (.aload_n 0, 1) := by decide +kernel
theorem dX5_takeNewName_70 : decode cX5_takeNewName 70 = .ok (.getfield 29, 3) := by decide +kernel
theorem dX5_takeNewName_73 : decode cX5_takeNewName 73 = .ok (.getfield 101, 3) := by decide +kernel
theorem dX5_takeNewName_76 : decode cX5_takeNewName 76 = .ok (.lload_n 3, 1) := by decide +kernel
theorem dX5_takeNewName_77 : decode cX5_takeNewName 77 = .ok (.invokestatic 94, 3) := by decide +kernel
theorem dX5_takeNewName_80 : decode cX5_takeNewName 80 = .ok (.ifCond .lt 7, 3) := by decide +kernel
theorem dX5_takeNewName_83 : decode cX5_takeNewName 83 = .ok (.iconst 1, 1) := by decide +kernel
theorem dX5_takeNewName_84 : decode cX5_takeNewName 84 = .ok (.goto 4, 3) := by decide +kernel
theorem dX5_takeNewName_87 : decode cX5_takeNewName 87 = .ok (.iconst 0, 1) := by decide +kernel
theorem dX5_takeNewName_88 : decode cX5_takeNewName 88 = .ok (.istore 6, 2) := by decide +kernel
theorem dX5_takeNewName_90 : decode cX5_takeNewName 90 = .ok (.iload 6, 2) := by decide +kernel
theorem dX5_takeNewName_92 : decode cX5_takeNewName 92 = .ok (.ifCond .eq 10, 3) := by decide +kernel
theorem dX5_takeNewName_95 : decode cX5_takeNewName 95 = .ok (.aload_n 0, 1) := by decide +kernel
theorem dX5_takeNewName_96 : decode cX5_takeNewName 96 = .ok (.iconst 3, 1) := by decide +kernel
theorem dX5_takeNewName_97 : decode cX5_takeNewName 97 = .ok (.iload 5, 2) := by decide +kernel
theorem dX5_takeNewName_99 : decode cX5_takeNewName 99 = .ok (.invokevirtual 104, 3) := by decide +kernel
theorem dX5_takeNewName_102 : decode cX5_takeNewName 102 = .ok (.iload_n 2, 1) := by decide +kernel
theorem dX5_takeNewName_103 : decode cX5_takeNewName 103 = .ok (.aload_n 1, 1) := by decide +kernel
theorem dX5_takeNewName_104 : decode cX5_takeNewName 104 = .ok (.arraylength, 1) := by decide +kernel
theorem dX5_takeNewName_105 : decode cX5_takeNewName 105 = .ok (.if_icmp .ge 7, 3) := by decide +kernel
theorem dX5_takeNewName_108 : decode cX5_takeNewName 108 = .ok (.aload_n 1, 1) := by decide +kernel
theorem dX5_takeNewName_109 : decode cX5_takeNewName 109 = .ok (.iload_n 2, 1) := by decide +kernel
theorem dX5_takeNewName_110 : decode cX5_takeNewName 110 = .ok (.lload_n 3, 1) := by decide +kernel
theorem dX5_takeNewName_111 : decode cX5_takeNewName 111 = .ok (.lastore, 1) := by decide +kernel
theorem dX5_takeNewName_112 : decode cX5_takeNewName 112 = .ok (.iconst 1, 1) := by decide +kernel
theorem dX5_takeNewName_113 : decode cX5_takeNewName 113 = .ok (.ireturn, 1) := by decide +kernel
def bX5_takeNewName_102 (u1 : Nat) (n1 : Nat)  (x2 : Int32) (x3 : Int64) (h : Hp) : Option (Int32 × Hp) := (if (Int32.ofNat n1) ≤ x2 then ck (zb 1) (some (1, h)) else ck (inb x2 n1) (lt (wL h u1 (ix x2) x3) (fun h1 => ck (zb 1) (some (1, h1)))))
set_option maxRecDepth 20000 in
theorem BX5_takeNewName_102 {Z : ZT} {G : GT} {r : Int32} {hr : Hp} (X : CX Z G cX5_takeNewName RX5 7 1) (E : RX Z G (some .boolean) (some (.int r)) hr) (u1 : Nat) (n1 : Nat) (hu1 : (u1, .inr (.inl (1, n1))) ∈ Z.2.2.2.2) (hz : HZ Z)  (x2 : Int32) (x3 : Int64) (h : Hp) (hF : bX5_takeNewName_102 u1 n1  x2 x3 h = some (r, hr)) : J Z G 7 h 102 [(1, .ref (Z.2.1 u1)), (2, .int x2), (3, .long x3)] [] := by
  unfold bX5_takeNewName_102 at hF
  refine j_iload_n (pc := 102) 1 X dX5_takeNewName_102 rfl ?_
  refine j_aload_n (pc := 103) 0 X dX5_takeNewName_103 rfl ?_
  refine j_alen (pc := 104) (v := (Int32.ofNat n1)) X dX5_takeNewName_104 hu1 (by decide) rfl ?_
  refine j_icmp_ge (pc := 105) 112 X dX5_takeNewName_105 rfl hF (fun hF => ?_) (fun hF => ?_)
  · refine j_iconst (pc := 112) 1 X dX5_takeNewName_112 rfl ?_
    exact j_zret (pc := 113) X E dX5_takeNewName_113 hF
  · refine j_aload_n (pc := 108) 0 X dX5_takeNewName_108 rfl ?_
    refine j_iload_n (pc := 109) 1 X dX5_takeNewName_109 rfl ?_
    refine j_lload_n (pc := 110) 2 X dX5_takeNewName_110 rfl ?_
    refine j_last (pc := 111) X dX5_takeNewName_111 hu1 hF (fun h1 hF => ?_)
    refine j_iconst (pc := 112) 1 X dX5_takeNewName_112 rfl ?_
    exact j_zret (pc := 113) X E dX5_takeNewName_113 hF
def bX5_takeNewName_88 (u1 : Nat) (n1 : Nat)  (x2 : Int32) (x3 : Int64) (x5 : Int32) (s0 : Int32) (h : Hp) : Option (Int32 × Hp) := lt s0 (fun v1 => (if v1 = 0 then bX5_takeNewName_102 u1 n1 x2 x3 h else bv (fX5_mark 3 x5 h) (fun h2 => bX5_takeNewName_102 u1 n1 x2 x3 h2)))
set_option maxRecDepth 20000 in
theorem BX5_takeNewName_88 {Z : ZT} {G : GT} {r : Int32} {hr : Hp} (X : CX Z G cX5_takeNewName RX5 7 1) (E : RX Z G (some .boolean) (some (.int r)) hr) (u1 : Nat) (n1 : Nat) (hu1 : (u1, .inr (.inl (1, n1))) ∈ Z.2.2.2.2) (hz : HZ Z)  (x2 : Int32) (x3 : Int64) (x5 : Int32) (s0 : Int32) (h : Hp) (hF : bX5_takeNewName_88 u1 n1  x2 x3 x5 s0 h = some (r, hr)) : J Z G 7 h 88 [(0, .ref (Z.2.1 142)), (1, .ref (Z.2.1 u1)), (2, .int x2), (3, .long x3), (5, .int x5)] [.int s0] := by
  unfold bX5_takeNewName_88 at hF
  refine j_istore (pc := 88) (fun y => [(6, .int y), (0, .ref (Z.2.1 142)), (1, .ref (Z.2.1 u1)), (2, .int x2), (3, .long x3), (5, .int x5)]) X dX5_takeNewName_88 (by decide) (fun _ => rfl) hF (fun v1 hF => ?_)
  refine j_iload (pc := 90) 0 X dX5_takeNewName_90 rfl ?_
  refine j_if_eq (pc := 92) 102 X dX5_takeNewName_92 rfl hF (fun hF => ?_) (fun hF => ?_)
  · refine j_lv [(1, .ref (Z.2.1 u1)), (2, .int x2), (3, .long x3)] [2, 3, 4] rfl ?_
    exact BX5_takeNewName_102 X E u1 n1 hu1 hz x2 x3 h hF
  · refine j_aload_n (pc := 95) 1 X dX5_takeNewName_95 rfl ?_
    refine j_iconst (pc := 96) 3 X dX5_takeNewName_96 rfl ?_
    refine j_iload (pc := 97) 5 X dX5_takeNewName_97 rfl ?_
    refine j_cVv (pc := 99) (As := [.int 3, .int x5]) (rest := []) X dX5_takeNewName_99 ml_X5_104 ck_X5_mark cv_X5_mark (hz _ sh_142) rfl (Nat.le_of_ble_eq_true rfl) rfl (Nat.le_of_ble_eq_true rfl) rfl hF (tX5_mark Z 3 x5 hz h) (fun h2 hF => ?_)
    refine j_lv [(1, .ref (Z.2.1 u1)), (2, .int x2), (3, .long x3)] [2, 3, 4] rfl ?_
    exact BX5_takeNewName_102 X E u1 n1 hu1 hz x2 x3 h2 hF
def bX5_takeNewName_83 (u1 : Nat) (n1 : Nat)  (x2 : Int32) (x3 : Int64) (x5 : Int32) (h : Hp) : Option (Int32 × Hp) := bX5_takeNewName_88 u1 n1 x2 x3 x5 1 h
set_option maxRecDepth 20000 in
theorem BX5_takeNewName_83 {Z : ZT} {G : GT} {r : Int32} {hr : Hp} (X : CX Z G cX5_takeNewName RX5 7 1) (E : RX Z G (some .boolean) (some (.int r)) hr) (u1 : Nat) (n1 : Nat) (hu1 : (u1, .inr (.inl (1, n1))) ∈ Z.2.2.2.2) (hz : HZ Z)  (x2 : Int32) (x3 : Int64) (x5 : Int32) (h : Hp) (hF : bX5_takeNewName_83 u1 n1  x2 x3 x5 h = some (r, hr)) : J Z G 7 h 83 [(0, .ref (Z.2.1 142)), (1, .ref (Z.2.1 u1)), (2, .int x2), (3, .long x3), (5, .int x5)] [] := by
  unfold bX5_takeNewName_83 at hF
  refine j_iconst (pc := 83) 1 X dX5_takeNewName_83 rfl ?_
  refine j_goto (pc := 84) 88 X dX5_takeNewName_84 rfl ?_
  exact BX5_takeNewName_88 X E u1 n1 hu1 hz x2 x3 x5 1 h hF
def fX5_takeNewName (u1 : Nat) (n1 : Nat) (a2 : Int32) (h : Hp) : Option (Int32 × Hp) := ck (inb (h.1 142 6) 401) (lt (h.2 106 (ix (h.1 142 6))) (fun v1 => lt (h.1 142 6) (fun v2 => bi (fX5_take 2 h) (fun w4 h3 => (if w4 = 0 then ck (zb 0) (some (0, h3)) else bi (fX5_find 143 10 (h3.1 125 6) v1 h3) (fun w6 h5 => (if 0 ≤ w6 then bX5_takeNewName_83 u1 n1 a2 v1 v2 h5 else bi (fX5_find 144 4 (h5.1 125 7) v1 h5) (fun w8 h7 => (if 0 ≤ w8 then bX5_takeNewName_83 u1 n1 a2 v1 v2 h7 else bi (fX5_find 145 10 (h7.1 125 9) v1 h7) (fun w10 h9 => (if w10 < 0 then bX5_takeNewName_88 u1 n1 a2 v1 v2 0 h9 else bX5_takeNewName_83 u1 n1 a2 v1 v2 h9)))))))))))
set_option maxRecDepth 20000 in
theorem tX5_takeNewName (Z : ZT) (u1 : Nat) (n1 : Nat) (hu1 : (u1, .inr (.inl (1, n1))) ∈ Z.2.2.2.2) (a2 : Int32) (hz : HZ Z) (h : Hp) (r : Int32) (hr : Hp) (hF : fX5_takeNewName u1 n1 a2 h = some (r, hr)) : MC Z yX5_takeNewName cX5_takeNewName 7 (some .boolean) 1 [.ref (Z.2.1 142), .ref (Z.2.1 u1), .int a2] h (some (.int r)) hr := by
  unfold fX5_takeNewName at hF
  refine mc_start (by decide) (Nat.le_of_ble_eq_true rfl) (fun G X E => ?_)
  refine j_aload_n (pc := 0) 0 X dX5_takeNewName_0 rfl ?_
  refine j_getr (pc := 1) X dX5_takeNewName_1 (hz _ sh_142) fl_X5_25 rfl ?_
  refine j_getr (pc := 4) X dX5_takeNewName_4 (hz _ sh_103) fl_X5_85 rfl ?_
  refine j_aload_n (pc := 7) 0 X dX5_takeNewName_7 rfl ?_
  refine j_geti (pc := 8) X dX5_takeNewName_8 (hz _ sh_142) fl_X5_38 rfl ?_
  refine j_lald (pc := 11) X dX5_takeNewName_11 (hz _ sh_106) hF (fun hF => ?_)
  refine j_lstore_n (pc := 12) (fun y => [(3, .long y), (0, .ref (Z.2.1 142)), (1, .ref (Z.2.1 u1)), (2, .int a2)]) X dX5_takeNewName_12 (by decide) (fun _ => rfl) hF (fun v1 hF => ?_)
  refine j_aload_n (pc := 13) 1 X dX5_takeNewName_13 rfl ?_
  refine j_geti (pc := 14) X dX5_takeNewName_14 (hz _ sh_142) fl_X5_38 rfl ?_
  refine j_istore (pc := 17) (fun y => [(5, .int y), (3, .long v1), (0, .ref (Z.2.1 142)), (1, .ref (Z.2.1 u1)), (2, .int a2)]) X dX5_takeNewName_17 (by decide) (fun _ => rfl) hF (fun v2 hF => ?_)
  refine j_aload_n (pc := 19) 2 X dX5_takeNewName_19 rfl ?_
  refine j_iconst (pc := 20) 2 X dX5_takeNewName_20 rfl ?_
  refine j_cVi (pc := 21) (As := [.int 2]) (rest := []) X dX5_takeNewName_21 ml_X5_88 ck_X5_take cv_X5_take (hz _ sh_142) rfl (Nat.le_of_ble_eq_true rfl) rfl (Nat.le_of_ble_eq_true rfl) rfl hF (tX5_take Z 2 hz h) (fun w4 h3 hF => ?_)
  refine j_if_ne (pc := 24) 29 X dX5_takeNewName_24 rfl hF (fun hF => ?_) (fun hF => ?_)
  · refine j_aload_n (pc := 29) 2 X dX5_takeNewName_29 rfl ?_
    refine j_getr (pc := 30) X dX5_takeNewName_30 (hz _ sh_142) fl_X5_9 rfl ?_
    refine j_aload_n (pc := 33) 2 X dX5_takeNewName_33 rfl ?_
    refine j_getr (pc := 34) X dX5_takeNewName_34 (hz _ sh_142) fl_X5_29 rfl ?_
    refine j_geti (pc := 37) X dX5_takeNewName_37 (hz _ sh_125) fl_X5_91 rfl ?_
    refine j_lload_n (pc := 40) 1 X dX5_takeNewName_40 rfl ?_
    refine j_cSi (pc := 41) (As := [.ref (Z.2.1 143), .int (h3.1 125 6), .long v1]) (rest := []) X dX5_takeNewName_41 ml_X5_94 ck_X5_find sk_X5_find (Nat.le_of_ble_eq_true rfl) rfl (Nat.le_of_ble_eq_true rfl) rfl hF (tX5_find Z 143 10 (hz _ sh_143) (h3.1 125 6) v1 trivial h3) (fun w6 h5 hF => ?_)
    refine j_if_ge (pc := 44) 83 X dX5_takeNewName_44 rfl hF (fun hF => ?_) (fun hF => ?_)
    · refine j_lv [(0, .ref (Z.2.1 142)), (1, .ref (Z.2.1 u1)), (2, .int a2), (3, .long v1), (5, .int v2)] [2, 3, 4, 1, 0] rfl ?_
      exact BX5_takeNewName_83 X E u1 n1 hu1 hz a2 v1 v2 h5 hF
    · refine j_aload_n (pc := 47) 2 X dX5_takeNewName_47 rfl ?_
      refine j_getr (pc := 48) X dX5_takeNewName_48 (hz _ sh_142) fl_X5_15 rfl ?_
      refine j_aload_n (pc := 51) 2 X dX5_takeNewName_51 rfl ?_
      refine j_getr (pc := 52) X dX5_takeNewName_52 (hz _ sh_142) fl_X5_29 rfl ?_
      refine j_geti (pc := 55) X dX5_takeNewName_55 (hz _ sh_125) fl_X5_98 rfl ?_
      refine j_lload_n (pc := 58) 1 X dX5_takeNewName_58 rfl ?_
      refine j_cSi (pc := 59) (As := [.ref (Z.2.1 144), .int (h5.1 125 7), .long v1]) (rest := []) X dX5_takeNewName_59 ml_X5_94 ck_X5_find sk_X5_find (Nat.le_of_ble_eq_true rfl) rfl (Nat.le_of_ble_eq_true rfl) rfl hF (tX5_find Z 144 4 (hz _ sh_144) (h5.1 125 7) v1 trivial h5) (fun w8 h7 hF => ?_)
      refine j_if_ge (pc := 62) 83 X dX5_takeNewName_62 rfl hF (fun hF => ?_) (fun hF => ?_)
      · refine j_lv [(0, .ref (Z.2.1 142)), (1, .ref (Z.2.1 u1)), (2, .int a2), (3, .long v1), (5, .int v2)] [2, 3, 4, 1, 0] rfl ?_
        exact BX5_takeNewName_83 X E u1 n1 hu1 hz a2 v1 v2 h7 hF
      · refine j_aload_n (pc := 65) 2 X dX5_takeNewName_65 rfl ?_
        refine j_getr (pc := 66) X dX5_takeNewName_66 (hz _ sh_142) fl_X5_18 rfl ?_
        refine j_aload_n (pc := 69) 2 X dX5_takeNewName_69 rfl ?_
        refine j_getr (pc := 70) X dX5_takeNewName_70 (hz _ sh_142) fl_X5_29 rfl ?_
        refine j_geti (pc := 73) X dX5_takeNewName_73 (hz _ sh_125) fl_X5_101 rfl ?_
        refine j_lload_n (pc := 76) 1 X dX5_takeNewName_76 rfl ?_
        refine j_cSi (pc := 77) (As := [.ref (Z.2.1 145), .int (h7.1 125 9), .long v1]) (rest := []) X dX5_takeNewName_77 ml_X5_94 ck_X5_find sk_X5_find (Nat.le_of_ble_eq_true rfl) rfl (Nat.le_of_ble_eq_true rfl) rfl hF (tX5_find Z 145 10 (hz _ sh_145) (h7.1 125 9) v1 trivial h7) (fun w10 h9 hF => ?_)
        refine j_if_lt (pc := 80) 87 X dX5_takeNewName_80 rfl hF (fun hF => ?_) (fun hF => ?_)
        · refine j_iconst (pc := 87) 0 X dX5_takeNewName_87 rfl ?_
          refine j_lv [(0, .ref (Z.2.1 142)), (1, .ref (Z.2.1 u1)), (2, .int a2), (3, .long v1), (5, .int v2)] [2, 3, 4, 1, 0] rfl ?_
          exact BX5_takeNewName_88 X E u1 n1 hu1 hz a2 v1 v2 0 h9 hF
        · refine j_lv [(0, .ref (Z.2.1 142)), (1, .ref (Z.2.1 u1)), (2, .int a2), (3, .long v1), (5, .int v2)] [2, 3, 4, 1, 0] rfl ?_
          exact BX5_takeNewName_83 X E u1 n1 hu1 hz a2 v1 v2 h9 hF
  · refine j_iconst (pc := 27) 0 X dX5_takeNewName_27 rfl ?_
    exact j_zret (pc := 28) X E dX5_takeNewName_28 hF
theorem dX5_takeInt_0 : decode cX5_takeInt 0 = .ok (.aload_n 0, 1) := by decide +kernel
theorem dX5_takeInt_1 : decode cX5_takeInt 1 = .ok (.getfield 25, 3) := by decide +kernel
theorem dX5_takeInt_4 : decode cX5_takeInt 4 = .ok (.getfield 85, 3) := by decide +kernel
theorem dX5_takeInt_7 : decode cX5_takeInt 7 = .ok (.aload_n 0, 1) := by decide +kernel
theorem dX5_takeInt_8 : decode cX5_takeInt 8 = .ok (.getfield 38, 3) := by decide +kernel
theorem dX5_takeInt_11 : decode cX5_takeInt 11 = .ok (.laload, 1) := by decide +kernel
theorem dX5_takeInt_12 : decode cX5_takeInt 12 = .ok (.l2i, 1) := by decide +kernel
theorem dX5_takeInt_13 : decode cX5_takeInt 13 = .ok (.istore_n 3, 1) := by decide +kernel
theorem dX5_takeInt_14 : decode cX5_takeInt 14 = .ok (.aload_n 0, 1) := by decide +kernel
theorem dX5_takeInt_15 : decode cX5_takeInt 15 = .ok (.getfield 38, 3) := by decide +kernel
theorem dX5_takeInt_18 : decode cX5_takeInt 18 = .ok (.istore 4, 2) := by decide +kernel
theorem dX5_takeInt_20 : decode cX5_takeInt 20 = .ok (.aload_n 0, 1) := by decide +kernel
theorem dX5_takeInt_21 : decode cX5_takeInt 21 = .ok (.iconst 3, 1) := by decide +kernel
theorem dX5_takeInt_22 : decode cX5_takeInt 22 = .ok (.invokevirtual 88, 3) := by decide +kernel
theorem dX5_takeInt_25 : decode cX5_takeInt 25 = .ok (.ifCond .ne 5, 3) := by decide +kernel
theorem dX5_takeInt_28 : decode cX5_takeInt 28 = .ok (.iconst (-1), 1) := by decide +kernel
theorem dX5_takeInt_29 : decode cX5_takeInt 29 = .ok (.ireturn, 1) := by decide +kernel
theorem dX5_takeInt_30 : decode cX5_takeInt 30 = .ok (.iload_n 3, 1) := by decide +kernel
theorem dX5_takeInt_31 : decode cX5_takeInt 31 = .ok (.iload_n 1, 1) := by decide +kernel
theorem dX5_takeInt_32 : decode cX5_takeInt 32 = .ok (.iload_n 2, 1) := by decide +kernel
theorem dX5_takeInt_33 : decode cX5_takeInt 33 = .ok (.invokestatic 108, 3) := by decide +kernel
theorem dX5_takeInt_36 : decode cX5_takeInt 36 = .ok (.ifCond .ne 10, 3) := by decide +kernel
theorem dX5_takeInt_39 : decode cX5_takeInt 39 = .ok (.aload_n 0, 1) := by decide +kernel
theorem dX5_takeInt_40 : decode cX5_takeInt 40 = .ok (.iconst 5, 1) := by decide +kernel
theorem dX5_takeInt_41 : decode cX5_takeInt 41 = .ok (.iload 4, 2) := by decide +kernel
theorem dX5_takeInt_43 : decode cX5_takeInt 43 = .ok (.invokevirtual 104, 3) := by decide +kernel
theorem dX5_takeInt_46 : decode cX5_takeInt 46 = .ok (.iload_n 3, 1) := by decide +kernel
theorem dX5_takeInt_47 : decode cX5_takeInt 47 = .ok (.ireturn, 1) := by decide +kernel
def fX5_takeInt (a1 : Int32) (a2 : Int32) (h : Hp) : Option (Int32 × Hp) := ck (inb (h.1 142 6) 401) (lt ((h.2 106 (ix (h.1 142 6))).toInt32) (fun v1 => lt (h.1 142 6) (fun v2 => bi (fX5_take 3 h) (fun w4 h3 => (if w4 = 0 then some ((-1), h3) else bi (fX11_within v1 a1 a2 h3) (fun w6 h5 => (if w6 = 0 then bv (fX5_mark 5 v2 h5) (fun h7 => some (v1, h7)) else some (v1, h5))))))))
set_option maxRecDepth 20000 in
theorem tX5_takeInt (Z : ZT) (a1 : Int32) (a2 : Int32) (hz : HZ Z) (h : Hp) (r : Int32) (hr : Hp) (hF : fX5_takeInt a1 a2 h = some (r, hr)) : MC Z yX5_takeInt cX5_takeInt 5 (some .int) 1 [.ref (Z.2.1 142), .int a1, .int a2] h (some (.int r)) hr := by
  unfold fX5_takeInt at hF
  refine mc_start (by decide) (Nat.le_of_ble_eq_true rfl) (fun G X E => ?_)
  refine j_aload_n (pc := 0) 0 X dX5_takeInt_0 rfl ?_
  refine j_getr (pc := 1) X dX5_takeInt_1 (hz _ sh_142) fl_X5_25 rfl ?_
  refine j_getr (pc := 4) X dX5_takeInt_4 (hz _ sh_103) fl_X5_85 rfl ?_
  refine j_aload_n (pc := 7) 0 X dX5_takeInt_7 rfl ?_
  refine j_geti (pc := 8) X dX5_takeInt_8 (hz _ sh_142) fl_X5_38 rfl ?_
  refine j_lald (pc := 11) X dX5_takeInt_11 (hz _ sh_106) hF (fun hF => ?_)
  refine j_l2i (pc := 12) X dX5_takeInt_12 ?_
  refine j_istore_n (pc := 13) (fun y => [(3, .int y), (0, .ref (Z.2.1 142)), (1, .int a1), (2, .int a2)]) X dX5_takeInt_13 (by decide) (fun _ => rfl) hF (fun v1 hF => ?_)
  refine j_aload_n (pc := 14) 1 X dX5_takeInt_14 rfl ?_
  refine j_geti (pc := 15) X dX5_takeInt_15 (hz _ sh_142) fl_X5_38 rfl ?_
  refine j_istore (pc := 18) (fun y => [(4, .int y), (3, .int v1), (0, .ref (Z.2.1 142)), (1, .int a1), (2, .int a2)]) X dX5_takeInt_18 (by decide) (fun _ => rfl) hF (fun v2 hF => ?_)
  refine j_aload_n (pc := 20) 2 X dX5_takeInt_20 rfl ?_
  refine j_iconst (pc := 21) 3 X dX5_takeInt_21 rfl ?_
  refine j_cVi (pc := 22) (As := [.int 3]) (rest := []) X dX5_takeInt_22 ml_X5_88 ck_X5_take cv_X5_take (hz _ sh_142) rfl (Nat.le_of_ble_eq_true rfl) rfl (Nat.le_of_ble_eq_true rfl) rfl hF (tX5_take Z 3 hz h) (fun w4 h3 hF => ?_)
  refine j_if_ne (pc := 25) 30 X dX5_takeInt_25 rfl hF (fun hF => ?_) (fun hF => ?_)
  · refine j_iload_n (pc := 30) 1 X dX5_takeInt_30 rfl ?_
    refine j_iload_n (pc := 31) 3 X dX5_takeInt_31 rfl ?_
    refine j_iload_n (pc := 32) 4 X dX5_takeInt_32 rfl ?_
    refine j_cSNi (pc := 33) (As := [.int v1, .int a1, .int a2]) (rest := []) X dX5_takeInt_33 ml_X5_108 ck_X11_within sk_X11_within (Nat.le_of_ble_eq_true rfl) rfl (Nat.le_of_ble_eq_true rfl) rfl hF (tX11_within Z v1 a1 a2 trivial h3) (fun w6 h5 hF => ?_)
    refine j_if_ne (pc := 36) 46 X dX5_takeInt_36 rfl hF (fun hF => ?_) (fun hF => ?_)
    · refine j_iload_n (pc := 46) 1 X dX5_takeInt_46 rfl ?_
      exact j_iret (pc := 47) X E dX5_takeInt_47 hF
    · refine j_aload_n (pc := 39) 2 X dX5_takeInt_39 rfl ?_
      refine j_iconst (pc := 40) 5 X dX5_takeInt_40 rfl ?_
      refine j_iload (pc := 41) 0 X dX5_takeInt_41 rfl ?_
      refine j_cVv (pc := 43) (As := [.int 5, .int v2]) (rest := []) X dX5_takeInt_43 ml_X5_104 ck_X5_mark cv_X5_mark (hz _ sh_142) rfl (Nat.le_of_ble_eq_true rfl) rfl (Nat.le_of_ble_eq_true rfl) rfl hF (tX5_mark Z 5 v2 hz h5) (fun h7 hF => ?_)
      refine j_iload_n (pc := 46) 1 X dX5_takeInt_46 rfl ?_
      exact j_iret (pc := 47) X E dX5_takeInt_47 hF
  · refine j_iconst (pc := 28) (-1) X dX5_takeInt_28 rfl ?_
    exact j_iret (pc := 29) X E dX5_takeInt_29 hF
theorem dX5_tellPerson_0 : decode cX5_tellPerson 0 = .ok (.aload_n 0, 1) := by decide +kernel
theorem dX5_tellPerson_1 : decode cX5_tellPerson 1 = .ok (.getfield 29, 3) := by decide +kernel
theorem dX5_tellPerson_4 : decode cX5_tellPerson 4 = .ok (.getfield 91, 3) := by decide +kernel
theorem dX5_tellPerson_7 : decode cX5_tellPerson 7 = .ok (.bipush 10, 2) := by decide +kernel
theorem dX5_tellPerson_9 : decode cX5_tellPerson 9 = .ok (.if_icmp .lt 9, 3) := by decide +kernel
theorem dX5_tellPerson_12 : decode cX5_tellPerson 12 = .ok (.aload_n 0, 1) := by decide +kernel
theorem dX5_tellPerson_13 : decode cX5_tellPerson 13 = .ok (.iconst 2, 1) := by decide +kernel
theorem dX5_tellPerson_14 : decode cX5_tellPerson 14 = .ok (.invokevirtual 79, 3) := by decide +kernel
theorem dX5_tellPerson_17 : decode cX5_tellPerson 17 = .ok (.ireturn, 1) := by decide +kernel
theorem dX5_tellPerson_18 : decode cX5_tellPerson 18 = .ok (.aload_n 0, 1) := by decide +kernel
theorem dX5_tellPerson_19 : decode cX5_tellPerson 19 = .ok (.bipush 16, 2) := by decide +kernel
theorem dX5_tellPerson_21 : decode cX5_tellPerson 21 = .ok (.invokevirtual 88, 3) := by decide +kernel
theorem dX5_tellPerson_24 : decode cX5_tellPerson 24 = .ok (.ifCond .eq 21, 3) := by decide +kernel
theorem dX5_tellPerson_27 : decode cX5_tellPerson 27 = .ok (.aload_n 0, 1) := by decide +kernel
theorem dX5_tellPerson_28 : decode cX5_tellPerson 28 = .ok (.aload_n 0, 1) := by decide +kernel
theorem dX5_tellPerson_29 : decode cX5_tellPerson 29 = .ok (.getfield 9, 3) := by decide +kernel
theorem dX5_tellPerson_32 : decode cX5_tellPerson 32 = .ok (.aload_n 0, 1) := by decide +kernel
theorem dX5_tellPerson_33 : decode cX5_tellPerson 33 = .ok (.getfield 29, 3) := by decide +kernel
theorem dX5_tellPerson_36 : decode cX5_tellPerson 36 = .ok (.getfield 91, 3) := by decide +kernel
theorem dX5_tellPerson_39 : decode cX5_tellPerson 39 = .ok (.invokevirtual 112, 3) := by decide +kernel
theorem dX5_tellPerson_42 : decode cX5_tellPerson 42 = .ok (.ifCond .ne 5, 3) := by decide +kernel
theorem dX5_tellPerson_45 : decode cX5_tellPerson 45 = .ok (.iconst 0, 1) := by decide +kernel
theorem dX5_tellPerson_46 : decode cX5_tellPerson 46 = .ok (.ireturn, 1) := by decide +kernel
theorem dX5_tellPerson_47 : decode cX5_tellPerson 47 = .ok (.aload_n 0, 1) := by decide +kernel
theorem dX5_tellPerson_48 : decode cX5_tellPerson 48 = .ok (.iconst 0, 1) := by decide +kernel
theorem dX5_tellPerson_49 : decode cX5_tellPerson 49 = .ok (.bipush 99, 2) := by decide +kernel
theorem dX5_tellPerson_51 : decode cX5_tellPerson 51 = .ok (.invokevirtual 116, 3) := by decide +kernel
theorem dX5_tellPerson_54 : decode cX5_tellPerson 54 = .ok (.istore_n 1, 1) := by decide +kernel
theorem dX5_tellPerson_55 : decode cX5_tellPerson 55 = .ok (.aload_n 0, 1) := by decide +kernel
theorem dX5_tellPerson_56 : decode cX5_tellPerson 56 = .ok (.getfield 29, 3) := by decide +kernel
theorem dX5_tellPerson_59 : decode cX5_tellPerson 59 = .ok (.getfield 120, 3) := by decide +kernel
theorem dX5_tellPerson_62 : decode cX5_tellPerson 62 = .ok (.aload_n 0, 1) := by decide +kernel
theorem dX5_tellPerson_63 : decode cX5_tellPerson 63 = .ok (.getfield 29, 3) := by decide +kernel
theorem dX5_tellPerson_66 : decode cX5_tellPerson 66 = .ok (.getfield 91, 3) := by decide +kernel
theorem dX5_tellPerson_69 : decode cX5_tellPerson 69 = .ok (.iload_n 1, 1) := by decide +kernel
theorem dX5_tellPerson_70 : decode cX5_tellPerson 70 = .ok (.iastore, 1) := by decide +kernel
theorem dX5_tellPerson_71 : decode cX5_tellPerson 71 = .ok (.aload_n 0, 1) := by decide +kernel
theorem dX5_tellPerson_72 : decode cX5_tellPerson 72 = .ok (.getfield 29, 3) := by decide +kernel
theorem dX5_tellPerson_75 : decode cX5_tellPerson 75 = .ok (.dup, 1) := by decide +kernel
theorem dX5_tellPerson_76 : decode cX5_tellPerson 76 = .ok (.getfield 91, 3) := by decide +kernel
theorem dX5_tellPerson_79 : decode cX5_tellPerson 79 = .ok (.iconst 1, 1) := by decide +kernel
theorem dX5_tellPerson_80 : decode cX5_tellPerson 80 = .ok (.iadd, 1) := by decide +kernel
theorem dX5_tellPerson_81 : decode cX5_tellPerson 81 = .ok (.putfield 91, 3) := by decide +kernel
theorem dX5_tellPerson_84 : decode cX5_tellPerson 84 = .ok (.iload_n 1, 1) := by decide +kernel
theorem dX5_tellPerson_85 : decode cX5_tellPerson 85 = .ok (.ifCond .lt 15, 3) := by decide +kernel
theorem dX5_tellPerson_88 : decode cX5_tellPerson 88 = .ok (.aload_n 0, 1) := by decide +kernel
theorem dX5_tellPerson_89 : decode cX5_tellPerson 89 = .ok (.iconst 4, 1) := by decide +kernel
theorem dX5_tellPerson_90 : decode cX5_tellPerson 90 = .ok (.invokevirtual 88, 3) := by decide +kernel
theorem dX5_tellPerson_93 : decode cX5_tellPerson 93 = .ok (.ifCond .eq 7, 3) := by decide +kernel
theorem dX5_tellPerson_96 : decode cX5_tellPerson 96 = .ok (.iconst 1, 1) := by decide +kernel
theorem dX5_tellPerson_97 : decode cX5_tellPerson 97 = .ok (.goto 4, 3) := by decide +kernel
theorem dX5_tellPerson_100 : decode cX5_tellPerson 100 = .ok (.iconst 0, 1) := by decide +kernel
theorem dX5_tellPerson_101 : decode cX5_tellPerson 101 = .ok (.ireturn, 1) := by decide +kernel
def fX5_tellPerson  (h : Hp) : Option (Int32 × Hp) := (if (h.1 125 6) < 10 then bi (fX5_take 16 h) (fun w2 h1 => (if w2 = 0 then ck (zb 0) (some (0, h1)) else bi (fX5_takeNewName 143 10 (h1.1 125 6) h1) (fun w4 h3 => (if w4 = 0 then ck (zb 0) (some (0, h3)) else bi (fX5_takeInt 0 99 h3) (fun w6 h5 => lt w6 (fun v7 => ck (inb (h5.1 125 6) 10) (lt (wI h5 126 (ix (h5.1 125 6)) v7) (fun h8 => lt (wI h8 125 6 ((h8.1 125 6) + 1)) (fun h9 => (if v7 < 0 then ck (zb 0) (some (0, h9)) else bi (fX5_take 4 h9) (fun w11 h10 => (if w11 = 0 then ck (zb 0) (some (0, h10)) else ck (zb 1) (some (1, h10)))))))))))))) else bi (fX5_stop 2 h) (fun w13 h12 => ck (zb w13) (some (w13, h12))))
set_option maxRecDepth 20000 in
theorem tX5_tellPerson (Z : ZT)  (hz : HZ Z) (h : Hp) (r : Int32) (hr : Hp) (hF : fX5_tellPerson  h = some (r, hr)) : MC Z yX5_tellPerson cX5_tellPerson 2 (some .boolean) 2 [.ref (Z.2.1 142)] h (some (.int r)) hr := by
  unfold fX5_tellPerson at hF
  refine mc_start (by decide) (Nat.le_of_ble_eq_true rfl) (fun G X E => ?_)
  refine j_aload_n (pc := 0) 0 X dX5_tellPerson_0 rfl ?_
  refine j_getr (pc := 1) X dX5_tellPerson_1 (hz _ sh_142) fl_X5_29 rfl ?_
  refine j_geti (pc := 4) X dX5_tellPerson_4 (hz _ sh_125) fl_X5_91 rfl ?_
  refine j_bipush (pc := 7) 10 X dX5_tellPerson_7 rfl ?_
  refine j_icmp_lt (pc := 9) 18 X dX5_tellPerson_9 rfl hF (fun hF => ?_) (fun hF => ?_)
  · refine j_aload_n (pc := 18) 0 X dX5_tellPerson_18 rfl ?_
    refine j_bipush (pc := 19) 16 X dX5_tellPerson_19 rfl ?_
    refine j_cVi (pc := 21) (As := [.int 16]) (rest := []) X dX5_tellPerson_21 ml_X5_88 ck_X5_take cv_X5_take (hz _ sh_142) rfl (Nat.le_of_ble_eq_true rfl) rfl (Nat.le_of_ble_eq_true rfl) rfl hF (tX5_take Z 16 hz h) (fun w2 h1 hF => ?_)
    refine j_if_eq (pc := 24) 45 X dX5_tellPerson_24 rfl hF (fun hF => ?_) (fun hF => ?_)
    · refine j_iconst (pc := 45) 0 X dX5_tellPerson_45 rfl ?_
      exact j_zret (pc := 46) X E dX5_tellPerson_46 hF
    · refine j_aload_n (pc := 27) 0 X dX5_tellPerson_27 rfl ?_
      refine j_aload_n (pc := 28) 0 X dX5_tellPerson_28 rfl ?_
      refine j_getr (pc := 29) X dX5_tellPerson_29 (hz _ sh_142) fl_X5_9 rfl ?_
      refine j_aload_n (pc := 32) 0 X dX5_tellPerson_32 rfl ?_
      refine j_getr (pc := 33) X dX5_tellPerson_33 (hz _ sh_142) fl_X5_29 rfl ?_
      refine j_geti (pc := 36) X dX5_tellPerson_36 (hz _ sh_125) fl_X5_91 rfl ?_
      refine j_cVi (pc := 39) (As := [.ref (Z.2.1 143), .int (h1.1 125 6)]) (rest := []) X dX5_tellPerson_39 ml_X5_112 ck_X5_takeNewName cv_X5_takeNewName (hz _ sh_142) rfl (Nat.le_of_ble_eq_true rfl) rfl (Nat.le_of_ble_eq_true rfl) rfl hF (tX5_takeNewName Z 143 10 (hz _ sh_143) (h1.1 125 6) hz h1) (fun w4 h3 hF => ?_)
      refine j_if_ne (pc := 42) 47 X dX5_tellPerson_42 rfl hF (fun hF => ?_) (fun hF => ?_)
      · refine j_aload_n (pc := 47) 0 X dX5_tellPerson_47 rfl ?_
        refine j_iconst (pc := 48) 0 X dX5_tellPerson_48 rfl ?_
        refine j_bipush (pc := 49) 99 X dX5_tellPerson_49 rfl ?_
        refine j_cVi (pc := 51) (As := [.int 0, .int 99]) (rest := []) X dX5_tellPerson_51 ml_X5_116 ck_X5_takeInt cv_X5_takeInt (hz _ sh_142) rfl (Nat.le_of_ble_eq_true rfl) rfl (Nat.le_of_ble_eq_true rfl) rfl hF (tX5_takeInt Z 0 99 hz h3) (fun w6 h5 hF => ?_)
        refine j_istore_n (pc := 54) (fun y => [(1, .int y), (0, .ref (Z.2.1 142))]) X dX5_tellPerson_54 (by decide) (fun _ => rfl) hF (fun v7 hF => ?_)
        refine j_aload_n (pc := 55) 1 X dX5_tellPerson_55 rfl ?_
        refine j_getr (pc := 56) X dX5_tellPerson_56 (hz _ sh_142) fl_X5_29 rfl ?_
        refine j_getr (pc := 59) X dX5_tellPerson_59 (hz _ sh_125) fl_X5_120 rfl ?_
        refine j_aload_n (pc := 62) 1 X dX5_tellPerson_62 rfl ?_
        refine j_getr (pc := 63) X dX5_tellPerson_63 (hz _ sh_142) fl_X5_29 rfl ?_
        refine j_geti (pc := 66) X dX5_tellPerson_66 (hz _ sh_125) fl_X5_91 rfl ?_
        refine j_iload_n (pc := 69) 0 X dX5_tellPerson_69 rfl ?_
        refine j_iast (pc := 70) X dX5_tellPerson_70 (hz _ sh_126) hF (fun h8 hF => ?_)
        refine j_aload_n (pc := 71) 1 X dX5_tellPerson_71 rfl ?_
        refine j_getr (pc := 72) X dX5_tellPerson_72 (hz _ sh_142) fl_X5_29 rfl ?_
        refine j_dup (pc := 75) X dX5_tellPerson_75 rfl ?_
        refine j_geti (pc := 76) X dX5_tellPerson_76 (hz _ sh_125) fl_X5_91 rfl ?_
        refine j_iconst (pc := 79) 1 X dX5_tellPerson_79 rfl ?_
        refine j_iadd (pc := 80) X dX5_tellPerson_80 ?_
        refine j_puti (pc := 81) X dX5_tellPerson_81 (hz _ sh_125) fp_X5_91 rfl hF (fun h9 hF => ?_)
        refine j_iload_n (pc := 84) 0 X dX5_tellPerson_84 rfl ?_
        refine j_if_lt (pc := 85) 100 X dX5_tellPerson_85 rfl hF (fun hF => ?_) (fun hF => ?_)
        · refine j_iconst (pc := 100) 0 X dX5_tellPerson_100 rfl ?_
          exact j_zret (pc := 101) X E dX5_tellPerson_101 hF
        · refine j_aload_n (pc := 88) 1 X dX5_tellPerson_88 rfl ?_
          refine j_iconst (pc := 89) 4 X dX5_tellPerson_89 rfl ?_
          refine j_cVi (pc := 90) (As := [.int 4]) (rest := []) X dX5_tellPerson_90 ml_X5_88 ck_X5_take cv_X5_take (hz _ sh_142) rfl (Nat.le_of_ble_eq_true rfl) rfl (Nat.le_of_ble_eq_true rfl) rfl hF (tX5_take Z 4 hz h9) (fun w11 h10 hF => ?_)
          refine j_if_eq (pc := 93) 100 X dX5_tellPerson_93 rfl hF (fun hF => ?_) (fun hF => ?_)
          · refine j_iconst (pc := 100) 0 X dX5_tellPerson_100 rfl ?_
            exact j_zret (pc := 101) X E dX5_tellPerson_101 hF
          · refine j_iconst (pc := 96) 1 X dX5_tellPerson_96 rfl ?_
            refine j_goto (pc := 97) 101 X dX5_tellPerson_97 rfl ?_
            exact j_zret (pc := 101) X E dX5_tellPerson_101 hF
      · refine j_iconst (pc := 45) 0 X dX5_tellPerson_45 rfl ?_
        exact j_zret (pc := 46) X E dX5_tellPerson_46 hF
  · refine j_aload_n (pc := 12) 0 X dX5_tellPerson_12 rfl ?_
    refine j_iconst (pc := 13) 2 X dX5_tellPerson_13 rfl ?_
    refine j_cVi (pc := 14) (As := [.int 2]) (rest := []) X dX5_tellPerson_14 ml_X5_79 ck_X5_stop cv_X5_stop (hz _ sh_142) rfl (Nat.le_of_ble_eq_true rfl) rfl (Nat.le_of_ble_eq_true rfl) rfl hF (tX5_stop Z 2 hz h) (fun w13 h12 hF => ?_)
    exact j_zret (pc := 17) X E dX5_tellPerson_17 hF
theorem dX5_tellClerk_0 : decode cX5_tellClerk 0 = .ok (.aload_n 0, 1) := by decide +kernel
theorem dX5_tellClerk_1 : decode cX5_tellClerk 1 = .ok (.getfield 29, 3) := by decide +kernel
theorem dX5_tellClerk_4 : decode cX5_tellClerk 4 = .ok (.getfield 98, 3) := by decide +kernel
theorem dX5_tellClerk_7 : decode cX5_tellClerk 7 = .ok (.iconst 4, 1) := by decide +kernel
theorem dX5_tellClerk_8 : decode cX5_tellClerk 8 = .ok (.if_icmp .lt 9, 3) := by decide +kernel
theorem dX5_tellClerk_11 : decode cX5_tellClerk 11 = .ok (.aload_n 0, 1) := by decide +kernel
theorem dX5_tellClerk_12 : decode cX5_tellClerk 12 = .ok (.iconst 2, 1) := by decide +kernel
theorem dX5_tellClerk_13 : decode cX5_tellClerk 13 = .ok (.invokevirtual 79, 3) := by decide +kernel
theorem dX5_tellClerk_16 : decode cX5_tellClerk 16 = .ok (.ireturn, 1) := by decide +kernel
theorem dX5_tellClerk_17 : decode cX5_tellClerk 17 = .ok (.aload_n 0, 1) := by decide +kernel
theorem dX5_tellClerk_18 : decode cX5_tellClerk 18 = .ok (.bipush 17, 2) := by decide +kernel
theorem dX5_tellClerk_20 : decode cX5_tellClerk 20 = .ok (.invokevirtual 88, 3) := by decide +kernel
theorem dX5_tellClerk_23 : decode cX5_tellClerk 23 = .ok (.ifCond .eq 21, 3) := by decide +kernel
theorem dX5_tellClerk_26 : decode cX5_tellClerk 26 = .ok (.aload_n 0, 1) := by decide +kernel
theorem dX5_tellClerk_27 : decode cX5_tellClerk 27 = .ok (.aload_n 0, 1) := by decide +kernel
theorem dX5_tellClerk_28 : decode cX5_tellClerk 28 = .ok (.getfield 15, 3) := by decide +kernel
theorem dX5_tellClerk_31 : decode cX5_tellClerk 31 = .ok (.aload_n 0, 1) := by decide +kernel
theorem dX5_tellClerk_32 : decode cX5_tellClerk 32 = .ok (.getfield 29, 3) := by decide +kernel
theorem dX5_tellClerk_35 : decode cX5_tellClerk 35 = .ok (.getfield 98, 3) := by decide +kernel
theorem dX5_tellClerk_38 : decode cX5_tellClerk 38 = .ok (.invokevirtual 112, 3) := by decide +kernel
theorem dX5_tellClerk_41 : decode cX5_tellClerk 41 = .ok (.ifCond .ne 5, 3) := by decide +kernel
theorem dX5_tellClerk_44 : decode cX5_tellClerk 44 = .ok (.iconst 0, 1) := by decide +kernel
theorem dX5_tellClerk_45 : decode cX5_tellClerk 45 = .ok (.ireturn, 1) := by decide +kernel
theorem dX5_tellClerk_46 : decode cX5_tellClerk 46 = .ok (.aload_n 0, 1) := by decide +kernel
theorem dX5_tellClerk_47 : decode cX5_tellClerk 47 = .ok (.getfield 29, 3) := by decide +kernel
theorem dX5_tellClerk_50 : decode cX5_tellClerk 50 = .ok (.dup, 1) := by decide +kernel
theorem dX5_tellClerk_51 : decode cX5_tellClerk 51 = .ok (.getfield 98, 3) := by decide +kernel
theorem dX5_tellClerk_54 : decode cX5_tellClerk 54 = .ok (.iconst 1, 1) := by decide +kernel
theorem dX5_tellClerk_55 : decode cX5_tellClerk 55 = .ok (.iadd, 1) := by decide +kernel
theorem dX5_tellClerk_56 : decode cX5_tellClerk 56 = .ok (.putfield 98, 3) := by decide +kernel
theorem dX5_tellClerk_59 : decode cX5_tellClerk 59 = .ok (.aload_n 0, 1) := by decide +kernel
theorem dX5_tellClerk_60 : decode cX5_tellClerk 60 = .ok (.iconst 4, 1) := by decide +kernel
theorem dX5_tellClerk_61 : decode cX5_tellClerk 61 = .ok (.invokevirtual 88, 3) := by decide +kernel
theorem dX5_tellClerk_64 : decode cX5_tellClerk 64 = .ok (.ireturn, 1) := by decide +kernel
def fX5_tellClerk  (h : Hp) : Option (Int32 × Hp) := (if (h.1 125 7) < 4 then bi (fX5_take 17 h) (fun w2 h1 => (if w2 = 0 then ck (zb 0) (some (0, h1)) else bi (fX5_takeNewName 144 4 (h1.1 125 7) h1) (fun w4 h3 => (if w4 = 0 then ck (zb 0) (some (0, h3)) else lt (wI h3 125 7 ((h3.1 125 7) + 1)) (fun h5 => bi (fX5_take 4 h5) (fun w7 h6 => ck (zb w7) (some (w7, h6)))))))) else bi (fX5_stop 2 h) (fun w9 h8 => ck (zb w9) (some (w9, h8))))
set_option maxRecDepth 20000 in
theorem tX5_tellClerk (Z : ZT)  (hz : HZ Z) (h : Hp) (r : Int32) (hr : Hp) (hF : fX5_tellClerk  h = some (r, hr)) : MC Z yX5_tellClerk cX5_tellClerk 1 (some .boolean) 2 [.ref (Z.2.1 142)] h (some (.int r)) hr := by
  unfold fX5_tellClerk at hF
  refine mc_start (by decide) (Nat.le_of_ble_eq_true rfl) (fun G X E => ?_)
  refine j_aload_n (pc := 0) 0 X dX5_tellClerk_0 rfl ?_
  refine j_getr (pc := 1) X dX5_tellClerk_1 (hz _ sh_142) fl_X5_29 rfl ?_
  refine j_geti (pc := 4) X dX5_tellClerk_4 (hz _ sh_125) fl_X5_98 rfl ?_
  refine j_iconst (pc := 7) 4 X dX5_tellClerk_7 rfl ?_
  refine j_icmp_lt (pc := 8) 17 X dX5_tellClerk_8 rfl hF (fun hF => ?_) (fun hF => ?_)
  · refine j_aload_n (pc := 17) 0 X dX5_tellClerk_17 rfl ?_
    refine j_bipush (pc := 18) 17 X dX5_tellClerk_18 rfl ?_
    refine j_cVi (pc := 20) (As := [.int 17]) (rest := []) X dX5_tellClerk_20 ml_X5_88 ck_X5_take cv_X5_take (hz _ sh_142) rfl (Nat.le_of_ble_eq_true rfl) rfl (Nat.le_of_ble_eq_true rfl) rfl hF (tX5_take Z 17 hz h) (fun w2 h1 hF => ?_)
    refine j_if_eq (pc := 23) 44 X dX5_tellClerk_23 rfl hF (fun hF => ?_) (fun hF => ?_)
    · refine j_iconst (pc := 44) 0 X dX5_tellClerk_44 rfl ?_
      exact j_zret (pc := 45) X E dX5_tellClerk_45 hF
    · refine j_aload_n (pc := 26) 0 X dX5_tellClerk_26 rfl ?_
      refine j_aload_n (pc := 27) 0 X dX5_tellClerk_27 rfl ?_
      refine j_getr (pc := 28) X dX5_tellClerk_28 (hz _ sh_142) fl_X5_15 rfl ?_
      refine j_aload_n (pc := 31) 0 X dX5_tellClerk_31 rfl ?_
      refine j_getr (pc := 32) X dX5_tellClerk_32 (hz _ sh_142) fl_X5_29 rfl ?_
      refine j_geti (pc := 35) X dX5_tellClerk_35 (hz _ sh_125) fl_X5_98 rfl ?_
      refine j_cVi (pc := 38) (As := [.ref (Z.2.1 144), .int (h1.1 125 7)]) (rest := []) X dX5_tellClerk_38 ml_X5_112 ck_X5_takeNewName cv_X5_takeNewName (hz _ sh_142) rfl (Nat.le_of_ble_eq_true rfl) rfl (Nat.le_of_ble_eq_true rfl) rfl hF (tX5_takeNewName Z 144 4 (hz _ sh_144) (h1.1 125 7) hz h1) (fun w4 h3 hF => ?_)
      refine j_if_ne (pc := 41) 46 X dX5_tellClerk_41 rfl hF (fun hF => ?_) (fun hF => ?_)
      · refine j_aload_n (pc := 46) 0 X dX5_tellClerk_46 rfl ?_
        refine j_getr (pc := 47) X dX5_tellClerk_47 (hz _ sh_142) fl_X5_29 rfl ?_
        refine j_dup (pc := 50) X dX5_tellClerk_50 rfl ?_
        refine j_geti (pc := 51) X dX5_tellClerk_51 (hz _ sh_125) fl_X5_98 rfl ?_
        refine j_iconst (pc := 54) 1 X dX5_tellClerk_54 rfl ?_
        refine j_iadd (pc := 55) X dX5_tellClerk_55 ?_
        refine j_puti (pc := 56) X dX5_tellClerk_56 (hz _ sh_125) fp_X5_98 rfl hF (fun h5 hF => ?_)
        refine j_aload_n (pc := 59) 0 X dX5_tellClerk_59 rfl ?_
        refine j_iconst (pc := 60) 4 X dX5_tellClerk_60 rfl ?_
        refine j_cVi (pc := 61) (As := [.int 4]) (rest := []) X dX5_tellClerk_61 ml_X5_88 ck_X5_take cv_X5_take (hz _ sh_142) rfl (Nat.le_of_ble_eq_true rfl) rfl (Nat.le_of_ble_eq_true rfl) rfl hF (tX5_take Z 4 hz h5) (fun w7 h6 hF => ?_)
        exact j_zret (pc := 64) X E dX5_tellClerk_64 hF
      · refine j_iconst (pc := 44) 0 X dX5_tellClerk_44 rfl ?_
        exact j_zret (pc := 45) X E dX5_tellClerk_45 hF
  · refine j_aload_n (pc := 11) 0 X dX5_tellClerk_11 rfl ?_
    refine j_iconst (pc := 12) 2 X dX5_tellClerk_12 rfl ?_
    refine j_cVi (pc := 13) (As := [.int 2]) (rest := []) X dX5_tellClerk_13 ml_X5_79 ck_X5_stop cv_X5_stop (hz _ sh_142) rfl (Nat.le_of_ble_eq_true rfl) rfl (Nat.le_of_ble_eq_true rfl) rfl hF (tX5_stop Z 2 hz h) (fun w9 h8 hF => ?_)
    exact j_zret (pc := 16) X E dX5_tellClerk_16 hF
theorem dX5_takeTold_0 : decode cX5_takeTold 0 = .ok (.aload_n 0, 1) := by decide +kernel
theorem dX5_takeTold_1 : decode cX5_takeTold 1 = .ok (.getfield 25, 3) := by decide +kernel
theorem dX5_takeTold_4 : decode cX5_takeTold 4 = .ok (.getfield 85, 3) := by decide +kernel
theorem dX5_takeTold_7 : decode cX5_takeTold 7 = .ok (.aload_n 0, 1) := by decide +kernel
theorem dX5_takeTold_8 : decode cX5_takeTold 8 = .ok (.getfield 38, 3) := by decide +kernel
theorem dX5_takeTold_11 : decode cX5_takeTold 11 = .ok (.laload, 1) := by decide +kernel
theorem dX5_takeTold_12 : decode cX5_takeTold 12 = .ok (.lstore_n 3, 1) := by decide +kernel
theorem dX5_takeTold_13 : decode cX5_takeTold 13 = .ok (.aload_n 0, 1) := by decide +kernel
theorem dX5_takeTold_14 : decode cX5_takeTold 14 = .ok (.getfield 38, 3) := by decide +kernel
theorem dX5_takeTold_17 : decode cX5_takeTold 17 = .ok (.istore 5, 2) := by decide +kernel
theorem dX5_takeTold_19 : decode cX5_takeTold 19 = .ok (.aload_n 0, 1) := by decide +kernel
theorem dX5_takeTold_20 : decode cX5_takeTold 20 = .ok (.iconst 2, 1) := by decide +kernel
theorem dX5_takeTold_21 : decode cX5_takeTold 21 = .ok (.invokevirtual 88, 3) := by decide +kernel
theorem dX5_takeTold_24 : decode cX5_takeTold 24 = .ok (.ifCond .ne 5, 3) := by decide +kernel
theorem dX5_takeTold_27 : decode cX5_takeTold 27 = .ok (.iconst (-1), 1) := by decide +kernel
theorem dX5_takeTold_28 : decode cX5_takeTold 28 = .ok (.ireturn, 1) := by decide +kernel
theorem dX5_takeTold_29 : decode cX5_takeTold 29 = .ok (.aload_n 1, 1) := by decide +kernel
theorem dX5_takeTold_30 : decode cX5_takeTold 30 = .ok (.iload_n 2, 1) := by decide +kernel
theorem dX5_takeTold_31 : decode cX5_takeTold 31 = .ok (.lload_n 3, 1) := by decide +kernel
theorem dX5_takeTold_32 : decode cX5_takeTold 32 = .ok (.invokestatic 94, 3) := by decide +kernel
theorem dX5_takeTold_35 : decode cX5_takeTold 35 = .ok (.istore 6, 2) := by decide +kernel
theorem dX5_takeTold_37 : decode cX5_takeTold 37 = .ok (.iload 6, 2) := by decide +kernel
theorem dX5_takeTold_39 : decode cX5_takeTold 39 = .ok (.ifCond .ge 12, 3) := by decide +kernel
theorem dX5_takeTold_42 : decode cX5_takeTold 42 = .ok (.aload_n 0, 1) := by decide +kernel
theorem dX5_takeTold_43 : decode cX5_takeTold 43 = .ok (.iconst 4, 1) := by decide +kernel
theorem dX5_takeTold_44 : decode cX5_takeTold 44 = .ok (.iload 5, 2) := by decide +kernel
theorem dX5_takeTold_46 : decode cX5_takeTold 46 = .ok (.invokevirtual 104, 3) := by decide +kernel
theorem dX5_takeTold_49 : decode cX5_takeTold 49 = .ok (.iconst 0, 1) := by decide +kernel
theorem dX5_takeTold_50 : decode cX5_takeTold 50 = .ok (.ireturn, 1) := by decide +kernel
theorem dX5_takeTold_51 : decode cX5_takeTold 51 = .ok (.iload 6, 2) := by decide +kernel
theorem dX5_takeTold_53 : decode cX5_takeTold 53 = .ok (.ireturn, 1) := by decide +kernel
def fX5_takeTold (u1 : Nat) (n1 : Nat) (a2 : Int32) (h : Hp) : Option (Int32 × Hp) := ck (inb (h.1 142 6) 401) (lt (h.2 106 (ix (h.1 142 6))) (fun v1 => lt (h.1 142 6) (fun v2 => bi (fX5_take 2 h) (fun w4 h3 => (if w4 = 0 then some ((-1), h3) else bi (fX5_find u1 n1 a2 v1 h3) (fun w6 h5 => lt w6 (fun v7 => (if 0 ≤ v7 then some (v7, h5) else bv (fX5_mark 4 v2 h5) (fun h8 => some (0, h8))))))))))
set_option maxRecDepth 20000 in
theorem tX5_takeTold (Z : ZT) (u1 : Nat) (n1 : Nat) (hu1 : (u1, .inr (.inl (1, n1))) ∈ Z.2.2.2.2) (a2 : Int32) (hz : HZ Z) (h : Hp) (r : Int32) (hr : Hp) (hF : fX5_takeTold u1 n1 a2 h = some (r, hr)) : MC Z yX5_takeTold cX5_takeTold 7 (some .int) 1 [.ref (Z.2.1 142), .ref (Z.2.1 u1), .int a2] h (some (.int r)) hr := by
  unfold fX5_takeTold at hF
  refine mc_start (by decide) (Nat.le_of_ble_eq_true rfl) (fun G X E => ?_)
  refine j_aload_n (pc := 0) 0 X dX5_takeTold_0 rfl ?_
  refine j_getr (pc := 1) X dX5_takeTold_1 (hz _ sh_142) fl_X5_25 rfl ?_
  refine j_getr (pc := 4) X dX5_takeTold_4 (hz _ sh_103) fl_X5_85 rfl ?_
  refine j_aload_n (pc := 7) 0 X dX5_takeTold_7 rfl ?_
  refine j_geti (pc := 8) X dX5_takeTold_8 (hz _ sh_142) fl_X5_38 rfl ?_
  refine j_lald (pc := 11) X dX5_takeTold_11 (hz _ sh_106) hF (fun hF => ?_)
  refine j_lstore_n (pc := 12) (fun y => [(3, .long y), (0, .ref (Z.2.1 142)), (1, .ref (Z.2.1 u1)), (2, .int a2)]) X dX5_takeTold_12 (by decide) (fun _ => rfl) hF (fun v1 hF => ?_)
  refine j_aload_n (pc := 13) 1 X dX5_takeTold_13 rfl ?_
  refine j_geti (pc := 14) X dX5_takeTold_14 (hz _ sh_142) fl_X5_38 rfl ?_
  refine j_istore (pc := 17) (fun y => [(5, .int y), (3, .long v1), (0, .ref (Z.2.1 142)), (1, .ref (Z.2.1 u1)), (2, .int a2)]) X dX5_takeTold_17 (by decide) (fun _ => rfl) hF (fun v2 hF => ?_)
  refine j_aload_n (pc := 19) 2 X dX5_takeTold_19 rfl ?_
  refine j_iconst (pc := 20) 2 X dX5_takeTold_20 rfl ?_
  refine j_cVi (pc := 21) (As := [.int 2]) (rest := []) X dX5_takeTold_21 ml_X5_88 ck_X5_take cv_X5_take (hz _ sh_142) rfl (Nat.le_of_ble_eq_true rfl) rfl (Nat.le_of_ble_eq_true rfl) rfl hF (tX5_take Z 2 hz h) (fun w4 h3 hF => ?_)
  refine j_if_ne (pc := 24) 29 X dX5_takeTold_24 rfl hF (fun hF => ?_) (fun hF => ?_)
  · refine j_aload_n (pc := 29) 3 X dX5_takeTold_29 rfl ?_
    refine j_iload_n (pc := 30) 4 X dX5_takeTold_30 rfl ?_
    refine j_lload_n (pc := 31) 1 X dX5_takeTold_31 rfl ?_
    refine j_cSi (pc := 32) (As := [.ref (Z.2.1 u1), .int a2, .long v1]) (rest := []) X dX5_takeTold_32 ml_X5_94 ck_X5_find sk_X5_find (Nat.le_of_ble_eq_true rfl) rfl (Nat.le_of_ble_eq_true rfl) rfl hF (tX5_find Z u1 n1 hu1 a2 v1 trivial h3) (fun w6 h5 hF => ?_)
    refine j_istore (pc := 35) (fun y => [(6, .int y), (5, .int v2), (3, .long v1), (0, .ref (Z.2.1 142)), (1, .ref (Z.2.1 u1)), (2, .int a2)]) X dX5_takeTold_35 (by decide) (fun _ => rfl) hF (fun v7 hF => ?_)
    refine j_iload (pc := 37) 0 X dX5_takeTold_37 rfl ?_
    refine j_if_ge (pc := 39) 51 X dX5_takeTold_39 rfl hF (fun hF => ?_) (fun hF => ?_)
    · refine j_iload (pc := 51) 0 X dX5_takeTold_51 rfl ?_
      exact j_iret (pc := 53) X E dX5_takeTold_53 hF
    · refine j_aload_n (pc := 42) 3 X dX5_takeTold_42 rfl ?_
      refine j_iconst (pc := 43) 4 X dX5_takeTold_43 rfl ?_
      refine j_iload (pc := 44) 1 X dX5_takeTold_44 rfl ?_
      refine j_cVv (pc := 46) (As := [.int 4, .int v2]) (rest := []) X dX5_takeTold_46 ml_X5_104 ck_X5_mark cv_X5_mark (hz _ sh_142) rfl (Nat.le_of_ble_eq_true rfl) rfl (Nat.le_of_ble_eq_true rfl) rfl hF (tX5_mark Z 4 v2 hz h5) (fun h8 hF => ?_)
      refine j_iconst (pc := 49) 0 X dX5_takeTold_49 rfl ?_
      exact j_iret (pc := 50) X E dX5_takeTold_50 hF
  · refine j_iconst (pc := 27) (-1) X dX5_takeTold_27 rfl ?_
    exact j_iret (pc := 28) X E dX5_takeTold_28 hF
