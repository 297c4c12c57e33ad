theorem dX12_starts_0 : decode cX12_starts 0 = .ok (.iconst 0, 1) := by decide +kernel
theorem dX12_starts_1 : decode cX12_starts 1 = .ok (.istore_n 1, 1) := by decide +kernel
theorem dX12_starts_2 : decode cX12_starts 2 = .ok (.iload_n 1, 1) := by decide +kernel
theorem dX12_starts_3 : decode cX12_starts 3 = .ok (.bipush 10, 2) := by decide +kernel
theorem dX12_starts_5 : decode cX12_starts 5 = .ok (.if_icmp .ge 58, 3) := by decide +kernel
theorem dX12_starts_8 : decode cX12_starts 8 = .ok (.aload_n 0, 1) := by decide +kernel
theorem dX12_starts_9 : decode cX12_starts 9 = .ok (.getfield 149, 3) := by decide +kernel
theorem dX12_starts_12 : decode cX12_starts 12 = .ok (.iload_n 1, 1) := by decide +kernel
theorem dX12_starts_13 : decode cX12_starts 13 = .ok (.iconst 0, 1) := by decide +kernel
theorem dX12_starts_14 : decode cX12_starts 14 = .ok (.iastore, 1) := by decide +kernel
theorem dX12_starts_15 : decode cX12_starts 15 = .ok (.aload_n 0, 1) := by decide +kernel
theorem dX12_starts_16 : decode cX12_starts 16 = .ok (.getfield 152, 3) := by decide +kernel
theorem dX12_starts_19 : decode cX12_starts 19 = .ok (.iload_n 1, 1) := by decide +kernel
theorem dX12_starts_20 : decode cX12_starts 20 = .ok (.bipush (-2), 2) := by decide +kernel
theorem dX12_starts_22 : decode cX12_starts 22 = .ok (.iastore, 1) := by decide +kernel
theorem dX12_starts_23 : decode cX12_starts 23 = .ok (.aload_n 0, 1) := by decide +kernel
theorem dX12_starts_24 : decode cX12_starts 24 = .ok (.getfield 155, 3) := by decide +kernel
theorem dX12_starts_27 : decode cX12_starts 27 = .ok (.iload_n 1, 1) := by decide +kernel
theorem dX12_starts_28 : decode cX12_starts 28 = .ok (.aload_n 0, 1) := by decide +kernel
theorem dX12_starts_29 : decode cX12_starts 29 = .ok (.getfield 79, 3) := by decide +kernel
theorem dX12_starts_32 : decode cX12_starts 32 = .ok (.bipush 10, 2) := by decide +kernel
theorem dX12_starts_34 : decode cX12_starts 34 = .ok (.aload_n 0, 1) := by decide +kernel
theorem dX12_starts_35 : decode cX12_starts 35 = .ok (.getfield 284, 3) := by decide +kernel
theorem dX12_starts_38 : decode cX12_starts 38 = .ok (.imul, 1) := by decide +kernel
theorem dX12_starts_39 : decode cX12_starts 39 = .ok (.iload_n 1, 1) := by decide +kernel
theorem dX12_starts_40 : decode cX12_starts 40 = .ok (.iadd, 1) := by decide +kernel
theorem dX12_starts_41 : decode cX12_starts 41 = .ok (.iaload, 1) := by decide +kernel
theorem dX12_starts_42 : decode cX12_starts 42 = .ok (.iastore, 1) := by decide +kernel
theorem dX12_starts_43 : decode cX12_starts 43 = .ok (.aload_n 0, 1) := by decide +kernel
theorem dX12_starts_44 : decode cX12_starts 44 = .ok (.getfield 158, 3) := by decide +kernel
theorem dX12_starts_47 : decode cX12_starts 47 = .ok (.iload_n 1, 1) := by decide +kernel
theorem dX12_starts_48 : decode cX12_starts 48 = .ok (.iconst 0, 1) := by decide +kernel
theorem dX12_starts_49 : decode cX12_starts 49 = .ok (.iastore, 1) := by decide +kernel
theorem dX12_starts_50 : decode cX12_starts 50 = .ok (.aload_n 0, 1) := by decide +kernel
theorem dX12_starts_51 : decode cX12_starts 51 = .ok (.getfield 161, 3) := by decide +kernel
theorem dX12_starts_54 : decode cX12_starts 54 = .ok (.iload_n 1, 1) := by decide +kernel
theorem dX12_starts_55 : decode cX12_starts 55 = .ok (.iconst 0, 1) := by decide +kernel
theorem dX12_starts_56 : decode cX12_starts 56 = .ok (.iastore, 1) := by decide +kernel
theorem dX12_starts_57 : decode cX12_starts 57 = .ok (.iinc 1 1, 3) := by decide +kernel
theorem dX12_starts_60 : decode cX12_starts 60 = .ok (.goto (-58), 3) := by decide +kernel
theorem dX12_starts_63 : decode cX12_starts 63 = .ok (.iconst 0, 1) := by decide +kernel
theorem dX12_starts_64 : decode cX12_starts 64 = .ok (.istore_n 1, 1) := by decide +kernel
theorem dX12_starts_65 : decode cX12_starts 65 = .ok (.iload_n 1, 1) := by decide +kernel
theorem dX12_starts_66 : decode cX12_starts 66 = .ok (.bipush 60, 2) := by decide +kernel
theorem dX12_starts_68 : decode cX12_starts 68 = .ok (.if_icmp .ge 16, 3) := by decide +kernel
theorem dX12_starts_71 : decode cX12_starts 71 = .ok (.aload_n 0, 1) := by decide +kernel
theorem dX12_starts_72 : decode cX12_starts 72 = .ok (.getfield 164, 3) := by decide +kernel
theorem dX12_starts_75 : decode cX12_starts 75 = .ok (.iload_n 1, 1) := by decide +kernel
theorem dX12_starts_76 : decode cX12_starts 76 = .ok (.iconst 0, 1) := by decide +kernel
theorem dX12_starts_77 : decode cX12_starts 77 = .ok (.iastore, 1) := by decide +kernel
theorem dX12_starts_78 : decode cX12_starts 78 = .ok (.iinc 1 1, 3) := by decide +kernel
theorem dX12_starts_81 : decode cX12_starts 81 = .ok (.goto (-16), 3) := by decide +kernel
theorem dX12_starts_84 : decode cX12_starts 84 = .ok (.aload_n 0, 1) := by decide +kernel
theorem dX12_starts_85 : decode cX12_starts 85 = .ok (.iconst 0, 1) := by decide +kernel
theorem dX12_starts_86 : decode cX12_starts 86 = .ok (.putfield 441, 3) := by decide +kernel
theorem dX12_starts_89 : decode cX12_starts 89 = .ok (.aload_n 0, 1) := by decide +kernel
theorem dX12_starts_90 : decode cX12_starts 90 = .ok (.iconst 0, 1) := by decide +kernel
theorem dX12_starts_91 : decode cX12_starts 91 = .ok (.putfield 444, 3) := by decide +kernel
theorem dX12_starts_94 : decode cX12_starts 94 = .ok (.aload_n 0, 1) := by decide +kernel
theorem dX12_starts_95 : decode cX12_starts 95 = .ok (.iconst 0, 1) := by decide +kernel
theorem dX12_starts_96 : decode cX12_starts 96 = .ok (.putfield 447, 3) := by decide +kernel
theorem dX12_starts_99 : decode cX12_starts 99 = .ok (.aload_n 0, 1) := by decide +kernel
theorem dX12_starts_100 : decode cX12_starts 100 = .ok (.iconst 0, 1) := by decide +kernel
theorem dX12_starts_101 : decode cX12_starts 101 = .ok (.putfield 450, 3) := by decide +kernel
theorem dX12_starts_104 : decode cX12_starts 104 = .ok (.return_, 1) := by decide +kernel
def bX12_starts_65   (r65 : Int32 → Hp → Option (Hp)) (x1 : Int32) (h : Hp) : Option (Hp) := (if 60 ≤ x1 then lt (wI h 0 69 0) (fun h1 => lt (wI h1 0 70 0) (fun h2 => lt (wI h2 0 71 0) (fun h3 => lt (wI h3 0 73 0) (fun h4 => some h4)))) else ck (inb x1 60) (lt (wI h 49 (ix x1) 0) (fun h5 => lt (x1 + 1) (fun v6 => r65 v6 h5))))
def lX12_starts_65   : Nat → Int32 → Hp → Option (Hp)
  | 0 => fun _ _ => none
  | n + 1 => bX12_starts_65   (lX12_starts_65   n)
set_option maxRecDepth 20000 in
theorem BX12_starts_65 {Z : ZT} {G : GT} {hr : Hp} (X : CX Z G cX12_starts RX12 2 0) (E : RX Z G none (none) hr) (hz : HZM Z)  (r65 : Int32 → Hp → Option (Hp)) (hr65 : ∀ (x1 : Int32) (h : Hp), r65 x1 h = some hr → J Z G 2 h 65 [(0, .ref (Z.2.1 0)), (1, .int x1)] []) (x1 : Int32) (h : Hp) (hF : bX12_starts_65   r65 x1 h = some hr) : J Z G 2 h 65 [(0, .ref (Z.2.1 0)), (1, .int x1)] [] := by
  unfold bX12_starts_65 at hF
  refine j_iload_n (pc := 65) 1 X dX12_starts_65 rfl ?_
  refine j_bipush (pc := 66) 60 X dX12_starts_66 rfl ?_
  refine j_icmp_ge (pc := 68) 84 X dX12_starts_68 rfl hF (fun hF => ?_) (fun hF => ?_)
  · refine j_aload_n (pc := 84) 0 X dX12_starts_84 rfl ?_
    refine j_iconst (pc := 85) 0 X dX12_starts_85 rfl ?_
    refine j_puti (pc := 86) X dX12_starts_86 (hz _ sh_0) fp_X12_441 rfl hF (fun h1 hF => ?_)
    refine j_aload_n (pc := 89) 0 X dX12_starts_89 rfl ?_
    refine j_iconst (pc := 90) 0 X dX12_starts_90 rfl ?_
    refine j_puti (pc := 91) X dX12_starts_91 (hz _ sh_0) fp_X12_444 rfl hF (fun h2 hF => ?_)
    refine j_aload_n (pc := 94) 0 X dX12_starts_94 rfl ?_
    refine j_iconst (pc := 95) 0 X dX12_starts_95 rfl ?_
    refine j_puti (pc := 96) X dX12_starts_96 (hz _ sh_0) fp_X12_447 rfl hF (fun h3 hF => ?_)
    refine j_aload_n (pc := 99) 0 X dX12_starts_99 rfl ?_
    refine j_iconst (pc := 100) 0 X dX12_starts_100 rfl ?_
    refine j_puti (pc := 101) X dX12_starts_101 (hz _ sh_0) fp_X12_450 rfl hF (fun h4 hF => ?_)
    exact j_vret (pc := 104) X E dX12_starts_104 hF
  · refine j_aload_n (pc := 71) 0 X dX12_starts_71 rfl ?_
    refine j_getr (pc := 72) X dX12_starts_72 (hz _ sh_0) fl_X12_164 rfl ?_
    refine j_iload_n (pc := 75) 1 X dX12_starts_75 rfl ?_
    refine j_iconst (pc := 76) 0 X dX12_starts_76 rfl ?_
    refine j_iast (pc := 77) X dX12_starts_77 (hz _ sh_49) hF (fun h5 hF => ?_)
    refine j_iinc (pc := 78) 1 (x1 + 1) (fun y => [(1, .int y), (0, .ref (Z.2.1 0))]) X dX12_starts_78 rfl rfl (by decide) (fun _ => rfl) hF (fun v6 hF => ?_)
    refine j_goto (pc := 81) 65 X dX12_starts_81 rfl ?_
    refine j_lv [(0, .ref (Z.2.1 0)), (1, .int v6)] [1, 0] rfl ?_
    exact hr65 v6 h5 hF
theorem LX12_starts_65 {Z : ZT} {G : GT} {hr : Hp} (X : CX Z G cX12_starts RX12 2 0) (E : RX Z G none (none) hr) (hz : HZM Z)  : ∀ (n : Nat) (x1 : Int32) (h : Hp), lX12_starts_65   n x1 h = some hr → J Z G 2 h 65 [(0, .ref (Z.2.1 0)), (1, .int x1)] [] := by
  intro n
  induction n with
  | zero => intro x1 h hF; cases hF
  | succ n ih => intro x1 h hF; exact BX12_starts_65 X E hz  (lX12_starts_65   n) ih x1 h hF
def bX12_starts_2   (r2 : Int32 → Hp → Option (Hp)) (x1 : Int32) (h : Hp) : Option (Hp) := (if 10 ≤ x1 then lt 0 (fun v1 => lX12_starts_65 FU v1 h) else ck (inb x1 10) (lt (wI h 44 (ix x1) 0) (fun h2 => ck (inb x1 10) (lt (wI h2 45 (ix x1) (-2)) (fun h3 => ck (inb (((10 : Int32) * (h3.1 0 18)) + x1) 20) (ck (inb x1 10) (lt (wI h3 46 (ix x1) (h3.1 21 (ix (((10 : Int32) * (h3.1 0 18)) + x1)))) (fun h4 => ck (inb x1 10) (lt (wI h4 47 (ix x1) 0) (fun h5 => ck (inb x1 10) (lt (wI h5 48 (ix x1) 0) (fun h6 => lt (x1 + 1) (fun v7 => r2 v7 h6)))))))))))))
def lX12_starts_2   : Nat → Int32 → Hp → Option (Hp)
  | 0 => fun _ _ => none
  | n + 1 => bX12_starts_2   (lX12_starts_2   n)
set_option maxRecDepth 20000 in
theorem BX12_starts_2 {Z : ZT} {G : GT} {hr : Hp} (X : CX Z G cX12_starts RX12 2 0) (E : RX Z G none (none) hr) (hz : HZM Z)  (r2 : Int32 → Hp → Option (Hp)) (hr2 : ∀ (x1 : Int32) (h : Hp), r2 x1 h = some hr → J Z G 2 h 2 [(0, .ref (Z.2.1 0)), (1, .int x1)] []) (x1 : Int32) (h : Hp) (hF : bX12_starts_2   r2 x1 h = some hr) : J Z G 2 h 2 [(0, .ref (Z.2.1 0)), (1, .int x1)] [] := by
  unfold bX12_starts_2 at hF
  refine j_iload_n (pc := 2) 1 X dX12_starts_2 rfl ?_
  refine j_bipush (pc := 3) 10 X dX12_starts_3 rfl ?_
  refine j_icmp_ge (pc := 5) 63 X dX12_starts_5 rfl hF (fun hF => ?_) (fun hF => ?_)
  · refine j_iconst (pc := 63) 0 X dX12_starts_63 rfl ?_
    refine j_istore_n (pc := 64) (fun y => [(1, .int y), (0, .ref (Z.2.1 0))]) X dX12_starts_64 (by decide) (fun _ => rfl) hF (fun v1 hF => ?_)
    refine j_lv [(0, .ref (Z.2.1 0)), (1, .int v1)] [1, 0] rfl ?_
    exact LX12_starts_65 X E hz FU v1 h hF
  · refine j_aload_n (pc := 8) 0 X dX12_starts_8 rfl ?_
    refine j_getr (pc := 9) X dX12_starts_9 (hz _ sh_0) fl_X12_149 rfl ?_
    refine j_iload_n (pc := 12) 1 X dX12_starts_12 rfl ?_
    refine j_iconst (pc := 13) 0 X dX12_starts_13 rfl ?_
    refine j_iast (pc := 14) X dX12_starts_14 (hz _ sh_44) hF (fun h2 hF => ?_)
    refine j_aload_n (pc := 15) 0 X dX12_starts_15 rfl ?_
    refine j_getr (pc := 16) X dX12_starts_16 (hz _ sh_0) fl_X12_152 rfl ?_
    refine j_iload_n (pc := 19) 1 X dX12_starts_19 rfl ?_
    refine j_bipush (pc := 20) (-2) X dX12_starts_20 rfl ?_
    refine j_iast (pc := 22) X dX12_starts_22 (hz _ sh_45) hF (fun h3 hF => ?_)
    refine j_aload_n (pc := 23) 0 X dX12_starts_23 rfl ?_
    refine j_getr (pc := 24) X dX12_starts_24 (hz _ sh_0) fl_X12_155 rfl ?_
    refine j_iload_n (pc := 27) 1 X dX12_starts_27 rfl ?_
    refine j_aload_n (pc := 28) 0 X dX12_starts_28 rfl ?_
    refine j_getr (pc := 29) X dX12_starts_29 (hz _ sh_0) fl_X12_79 rfl ?_
    refine j_bipush (pc := 32) 10 X dX12_starts_32 rfl ?_
    refine j_aload_n (pc := 34) 0 X dX12_starts_34 rfl ?_
    refine j_geti (pc := 35) X dX12_starts_35 (hz _ sh_0) fl_X12_284 rfl ?_
    refine j_imul (pc := 38) X dX12_starts_38 ?_
    refine j_iload_n (pc := 39) 1 X dX12_starts_39 rfl ?_
    refine j_iadd (pc := 40) X dX12_starts_40 ?_
    refine j_iald (pc := 41) X dX12_starts_41 (hz _ sh_21) hF (fun hF => ?_)
    refine j_iast (pc := 42) X dX12_starts_42 (hz _ sh_46) hF (fun h4 hF => ?_)
    refine j_aload_n (pc := 43) 0 X dX12_starts_43 rfl ?_
    refine j_getr (pc := 44) X dX12_starts_44 (hz _ sh_0) fl_X12_158 rfl ?_
    refine j_iload_n (pc := 47) 1 X dX12_starts_47 rfl ?_
    refine j_iconst (pc := 48) 0 X dX12_starts_48 rfl ?_
    refine j_iast (pc := 49) X dX12_starts_49 (hz _ sh_47) hF (fun h5 hF => ?_)
    refine j_aload_n (pc := 50) 0 X dX12_starts_50 rfl ?_
    refine j_getr (pc := 51) X dX12_starts_51 (hz _ sh_0) fl_X12_161 rfl ?_
    refine j_iload_n (pc := 54) 1 X dX12_starts_54 rfl ?_
    refine j_iconst (pc := 55) 0 X dX12_starts_55 rfl ?_
    refine j_iast (pc := 56) X dX12_starts_56 (hz _ sh_48) hF (fun h6 hF => ?_)
    refine j_iinc (pc := 57) 1 (x1 + 1) (fun y => [(1, .int y), (0, .ref (Z.2.1 0))]) X dX12_starts_57 rfl rfl (by decide) (fun _ => rfl) hF (fun v7 hF => ?_)
    refine j_goto (pc := 60) 2 X dX12_starts_60 rfl ?_
    refine j_lv [(0, .ref (Z.2.1 0)), (1, .int v7)] [1, 0] rfl ?_
    exact hr2 v7 h6 hF
theorem LX12_starts_2 {Z : ZT} {G : GT} {hr : Hp} (X : CX Z G cX12_starts RX12 2 0) (E : RX Z G none (none) hr) (hz : HZM Z)  : ∀ (n : Nat) (x1 : Int32) (h : Hp), lX12_starts_2   n x1 h = some hr → J Z G 2 h 2 [(0, .ref (Z.2.1 0)), (1, .int x1)] [] := by
  intro n
  induction n with
  | zero => intro x1 h hF; cases hF
  | succ n ih => intro x1 h hF; exact BX12_starts_2 X E hz  (lX12_starts_2   n) ih x1 h hF
def fX12_starts  (h : Hp) : Option (Hp) := lt 0 (fun v1 => lX12_starts_2 FU v1 h)
set_option maxRecDepth 20000 in
theorem tX12_starts (Z : ZT)  (hz : HZM Z) (h : Hp) (hr : Hp) (hF : fX12_starts  h = some hr) : MC Z yX12_starts cX12_starts 2 none 0 [.ref (Z.2.1 0)] h (none) hr := by
  unfold fX12_starts at hF
  refine mc_start (by decide) (Nat.le_of_ble_eq_true rfl) (fun G X E => ?_)
  refine j_iconst (pc := 0) 0 X dX12_starts_0 rfl ?_
  refine j_istore_n (pc := 1) (fun y => [(1, .int y), (0, .ref (Z.2.1 0))]) X dX12_starts_1 (by decide) (fun _ => rfl) hF (fun v1 hF => ?_)
  refine j_lv [(0, .ref (Z.2.1 0)), (1, .int v1)] [1, 0] rfl ?_
  exact LX12_starts_2 X E hz FU v1 h hF
theorem dX12_becomes_0 : decode cX12_becomes 0 = .ok (.aload_n 0, 1) := by decide +kernel
theorem dX12_becomes_1 : decode cX12_becomes 1 = .ok (.getfield 149, 3) := by decide +kernel
theorem dX12_becomes_4 : decode cX12_becomes 4 = .ok (.iload_n 1, 1) := by decide +kernel
theorem dX12_becomes_5 : decode cX12_becomes 5 = .ok (.iload_n 2, 1) := by decide +kernel
theorem dX12_becomes_6 : decode cX12_becomes 6 = .ok (.iastore, 1) := by decide +kernel
theorem dX12_becomes_7 : decode cX12_becomes 7 = .ok (.aload_n 0, 1) := by decide +kernel
theorem dX12_becomes_8 : decode cX12_becomes 8 = .ok (.getfield 152, 3) := by decide +kernel
theorem dX12_becomes_11 : decode cX12_becomes 11 = .ok (.iload_n 1, 1) := by decide +kernel
theorem dX12_becomes_12 : decode cX12_becomes 12 = .ok (.iload_n 3, 1) := by decide +kernel
theorem dX12_becomes_13 : decode cX12_becomes 13 = .ok (.iastore, 1) := by decide +kernel
theorem dX12_becomes_14 : decode cX12_becomes 14 = .ok (.iload_n 2, 1) := by decide +kernel
theorem dX12_becomes_15 : decode cX12_becomes 15 = .ok (.iconst 1, 1) := by decide +kernel
theorem dX12_becomes_16 : decode cX12_becomes 16 = .ok (.if_icmp .eq 8, 3) := by decide +kernel
theorem dX12_becomes_19 : decode cX12_becomes 19 = .ok (.iload_n 2, 1) := by decide +kernel
theorem dX12_becomes_20 : decode cX12_becomes 20 = .ok (.iconst 2, 1) := by decide +kernel
theorem dX12_becomes_21 : decode cX12_becomes 21 = .ok (.if_icmp .ne 15, 3) := by decide +kernel
theorem dX12_becomes_24 : decode cX12_becomes 24 = .ok (.aload_n 0, 1) := by decide +kernel
theorem dX12_becomes_25 : decode cX12_becomes 25 = .ok (.dup, 1) := by decide +kernel
theorem dX12_becomes_26 : decode cX12_becomes 26 = .ok (.getfield 444, 3) := by decide +kernel
theorem dX12_becomes_29 : decode cX12_becomes 29 = .ok (.iconst 1, 1) := by decide +kernel
theorem dX12_becomes_30 : decode cX12_becomes 30 = .ok (.iload_n 1, 1) := by decide +kernel
theorem dX12_becomes_31 : decode cX12_becomes 31 = .ok (.ishl, 1) := by decide +kernel
theorem dX12_becomes_32 : decode cX12_becomes 32 = .ok (.ior, 1) := by decide +kernel
theorem dX12_becomes_33 : decode cX12_becomes 33 = .ok (.putfield 444, 3) := by decide +kernel
theorem dX12_becomes_36 : decode cX12_becomes 36 = .ok (.return_, 1) := by decide +kernel
def bX12_becomes_24   (x1 : Int32) (h : Hp) : Option (Hp) := lt (wI h 0 70 ((h.1 0 70) ||| ((1 : Int32) <<< (x1 &&& 31)))) (fun h1 => some h1)
set_option maxRecDepth 20000 in
theorem BX12_becomes_24 {Z : ZT} {G : GT} {hr : Hp} (X : CX Z G cX12_becomes RX12 4 0) (E : RX Z G none (none) hr) (hz : HZM Z)  (x1 : Int32) (h : Hp) (hF : bX12_becomes_24   x1 h = some hr) : J Z G 4 h 24 [(0, .ref (Z.2.1 0)), (1, .int x1)] [] := by
  unfold bX12_becomes_24 at hF
  refine j_aload_n (pc := 24) 0 X dX12_becomes_24 rfl ?_
  refine j_dup (pc := 25) X dX12_becomes_25 rfl ?_
  refine j_geti (pc := 26) X dX12_becomes_26 (hz _ sh_0) fl_X12_444 rfl ?_
  refine j_iconst (pc := 29) 1 X dX12_becomes_29 rfl ?_
  refine j_iload_n (pc := 30) 1 X dX12_becomes_30 rfl ?_
  refine j_ishl (pc := 31) X dX12_becomes_31 ?_
  refine j_ior (pc := 32) X dX12_becomes_32 ?_
  refine j_puti (pc := 33) X dX12_becomes_33 (hz _ sh_0) fp_X12_444 rfl hF (fun h1 hF => ?_)
  exact j_vret (pc := 36) X E dX12_becomes_36 hF
def fX12_becomes (a1 : Int32) (a2 : Int32) (a3 : Int32) (h : Hp) : Option (Hp) := ck (inb a1 10) (lt (wI h 44 (ix a1) a2) (fun h1 => ck (inb a1 10) (lt (wI h1 45 (ix a1) a3) (fun h2 => (if a2 = 1 then bX12_becomes_24 a1 h2 else (if a2 = 2 then bX12_becomes_24 a1 h2 else some h2))))))
set_option maxRecDepth 20000 in
theorem tX12_becomes (Z : ZT) (a1 : Int32) (a2 : Int32) (a3 : Int32) (hz : HZM Z) (h : Hp) (hr : Hp) (hF : fX12_becomes a1 a2 a3 h = some hr) : MC Z yX12_becomes cX12_becomes 4 none 0 [.ref (Z.2.1 0), .int a1, .int a2, .int a3] h (none) hr := by
  unfold fX12_becomes at hF
  refine mc_start (by decide) (Nat.le_of_ble_eq_true rfl) (fun G X E => ?_)
  refine j_aload_n (pc := 0) 0 X dX12_becomes_0 rfl ?_
  refine j_getr (pc := 1) X dX12_becomes_1 (hz _ sh_0) fl_X12_149 rfl ?_
  refine j_iload_n (pc := 4) 1 X dX12_becomes_4 rfl ?_
  refine j_iload_n (pc := 5) 2 X dX12_becomes_5 rfl ?_
  refine j_iast (pc := 6) X dX12_becomes_6 (hz _ sh_44) hF (fun h1 hF => ?_)
  refine j_aload_n (pc := 7) 0 X dX12_becomes_7 rfl ?_
  refine j_getr (pc := 8) X dX12_becomes_8 (hz _ sh_0) fl_X12_152 rfl ?_
  refine j_iload_n (pc := 11) 1 X dX12_becomes_11 rfl ?_
  refine j_iload_n (pc := 12) 3 X dX12_becomes_12 rfl ?_
  refine j_iast (pc := 13) X dX12_becomes_13 (hz _ sh_45) hF (fun h2 hF => ?_)
  refine j_iload_n (pc := 14) 2 X dX12_becomes_14 rfl ?_
  refine j_iconst (pc := 15) 1 X dX12_becomes_15 rfl ?_
  refine j_icmp_eq (pc := 16) 24 X dX12_becomes_16 rfl hF (fun hF => ?_) (fun hF => ?_)
  · refine j_lv [(0, .ref (Z.2.1 0)), (1, .int a1)] [0, 1] rfl ?_
    exact BX12_becomes_24 X E hz a1 h2 hF
  · refine j_iload_n (pc := 19) 2 X dX12_becomes_19 rfl ?_
    refine j_iconst (pc := 20) 2 X dX12_becomes_20 rfl ?_
    refine j_icmp_ne (pc := 21) 36 X dX12_becomes_21 rfl hF (fun hF => ?_) (fun hF => ?_)
    · exact j_vret (pc := 36) X E dX12_becomes_36 hF
    · refine j_lv [(0, .ref (Z.2.1 0)), (1, .int a1)] [0, 1] rfl ?_
      exact BX12_becomes_24 X E hz a1 h2 hF
theorem dX12_floods_0 : decode cX12_floods 0 = .ok (.iconst 0, 1) := by decide +kernel
theorem dX12_floods_1 : decode cX12_floods 1 = .ok (.istore_n 3, 1) := by decide +kernel
theorem dX12_floods_2 : decode cX12_floods 2 = .ok (.iload_n 3, 1) := by decide +kernel
theorem dX12_floods_3 : decode cX12_floods 3 = .ok (.aload_n 0, 1) := by decide +kernel
theorem dX12_floods_4 : decode cX12_floods 4 = .ok (.getfield 67, 3) := by decide +kernel
theorem dX12_floods_7 : decode cX12_floods 7 = .ok (.aload_n 0, 1) := by decide +kernel
theorem dX12_floods_8 : decode cX12_floods 8 = .ok (.getfield 284, 3) := by decide +kernel
theorem dX12_floods_11 : decode cX12_floods 11 = .ok (.iaload, 1) := by decide +kernel
theorem dX12_floods_12 : decode cX12_floods 12 = .ok (.if_icmp .ge 43, 3) := by decide +kernel
theorem dX12_floods_15 : decode cX12_floods 15 = .ok (.aload_n 0, 1) := by decide +kernel
theorem dX12_floods_16 : decode cX12_floods 16 = .ok (.getfield 149, 3) := by decide +kernel
theorem dX12_floods_19 : decode cX12_floods 19 = .ok (.iload_n 3, 1) := by decide +kernel
theorem dX12_floods_20 : decode cX12_floods 20 = .ok (.iaload, 1) := by decide +kernel
theorem dX12_floods_21 : decode cX12_floods 21 = .ok (.ifCond .ne 28, 3) := by decide +kernel
theorem dX12_floods_24 : decode cX12_floods 24 = .ok (.aload_n 0, 1) := by decide +kernel
theorem dX12_floods_25 : decode cX12_floods 25 = .ok (.getfield 76, 3) := by decide +kernel
theorem dX12_floods_28 : decode cX12_floods 28 = .ok (.bipush 10, 2) := by decide +kernel
theorem dX12_floods_30 : decode cX12_floods 30 = .ok (.aload_n 0, 1) := by decide +kernel
theorem dX12_floods_31 : decode cX12_floods 31 = .ok (.getfield 284, 3) := by decide +kernel
theorem dX12_floods_34 : decode cX12_floods 34 = .ok (.imul, 1) := by decide +kernel
theorem dX12_floods_35 : decode cX12_floods 35 = .ok (.iload_n 3, 1) := by decide +kernel
theorem dX12_floods_36 : decode cX12_floods 36 = .ok (.iadd, 1) := by decide +kernel
theorem dX12_floods_37 : decode cX12_floods 37 = .ok (.iaload, 1) := by decide +kernel
theorem dX12_floods_38 : decode cX12_floods 38 = .ok (.iload_n 1, 1) := by decide +kernel
theorem dX12_floods_39 : decode cX12_floods 39 = .ok (.if_icmp .ne 10, 3) := by decide +kernel
theorem dX12_floods_42 : decode cX12_floods 42 = .ok (.aload_n 0, 1) := by decide +kernel
theorem dX12_floods_43 : decode cX12_floods 43 = .ok (.iload_n 3, 1) := by decide +kernel
theorem dX12_floods_44 : decode cX12_floods 44 = .ok (.iconst 4, 1) := by decide +kernel
theorem dX12_floods_45 : decode cX12_floods 45 = .ok (.iload_n 2, 1) := by decide +kernel
theorem dX12_floods_46 : decode cX12_floods 46 = .ok (.invokevirtual 453, 3) := by decide +kernel
theorem dX12_floods_49 : decode cX12_floods 49 = .ok (.iinc 3 1, 3) := by decide +kernel
theorem dX12_floods_52 : decode cX12_floods 52 = .ok (.goto (-50), 3) := by decide +kernel
theorem dX12_floods_55 : decode cX12_floods 55 = .ok (.return_, 1) := by decide +kernel
def bX12_floods_49  (r2 : Int32 → Int32 → Int32 → Hp → Option (Hp)) (x1 : Int32) (x2 : Int32) (x3 : Int32) (h : Hp) : Option (Hp) := lt (x3 + 1) (fun v1 => r2 x1 x2 v1 h)
set_option maxRecDepth 20000 in
theorem BX12_floods_49 {Z : ZT} {G : GT} {hr : Hp} (X : CX Z G cX12_floods RX12 4 1) (E : RX Z G none (none) hr) (hz : HZM Z) (r2 : Int32 → Int32 → Int32 → Hp → Option (Hp)) (hr2 : ∀ (x1 : Int32) (x2 : Int32) (x3 : Int32) (h : Hp), r2 x1 x2 x3 h = some hr → J Z G 4 h 2 [(0, .ref (Z.2.1 0)), (1, .int x1), (2, .int x2), (3, .int x3)] []) (x1 : Int32) (x2 : Int32) (x3 : Int32) (h : Hp) (hF : bX12_floods_49  r2 x1 x2 x3 h = some hr) : J Z G 4 h 49 [(0, .ref (Z.2.1 0)), (1, .int x1), (2, .int x2), (3, .int x3)] [] := by
  unfold bX12_floods_49 at hF
  refine j_iinc (pc := 49) 3 (x3 + 1) (fun y => [(3, .int y), (0, .ref (Z.2.1 0)), (1, .int x1), (2, .int x2)]) X dX12_floods_49 rfl rfl (by decide) (fun _ => rfl) hF (fun v1 hF => ?_)
  refine j_goto (pc := 52) 2 X dX12_floods_52 rfl ?_
  refine j_lv [(0, .ref (Z.2.1 0)), (1, .int x1), (2, .int x2), (3, .int v1)] [1, 2, 3, 0] rfl ?_
  exact hr2 x1 x2 v1 h hF
def bX12_floods_2   (r2 : Int32 → Int32 → Int32 → Hp → Option (Hp)) (x1 : Int32) (x2 : Int32) (x3 : Int32) (h : Hp) : Option (Hp) := ck (inb (h.1 0 18) 2) ((if (h.1 17 (ix (h.1 0 18))) ≤ x3 then some h else ck (inb x3 10) ((if (h.1 44 (ix x3)) = 0 then ck (inb (((10 : Int32) * (h.1 0 18)) + x3) 20) ((if (h.1 20 (ix (((10 : Int32) * (h.1 0 18)) + x3))) = x1 then bv (fX12_becomes x3 4 x2 h) (fun h1 => bX12_floods_49 r2 x1 x2 x3 h1) else bX12_floods_49 r2 x1 x2 x3 h)) else bX12_floods_49 r2 x1 x2 x3 h))))
def lX12_floods_2   : Nat → Int32 → Int32 → Int32 → Hp → Option (Hp)
  | 0 => fun _ _ _ _ => none
  | n + 1 => bX12_floods_2   (lX12_floods_2   n)
set_option maxRecDepth 20000 in
theorem BX12_floods_2 {Z : ZT} {G : GT} {hr : Hp} (X : CX Z G cX12_floods RX12 4 1) (E : RX Z G none (none) hr) (hz : HZM Z)  (r2 : Int32 → Int32 → Int32 → Hp → Option (Hp)) (hr2 : ∀ (x1 : Int32) (x2 : Int32) (x3 : Int32) (h : Hp), r2 x1 x2 x3 h = some hr → J Z G 4 h 2 [(0, .ref (Z.2.1 0)), (1, .int x1), (2, .int x2), (3, .int x3)] []) (x1 : Int32) (x2 : Int32) (x3 : Int32) (h : Hp) (hF : bX12_floods_2   r2 x1 x2 x3 h = some hr) : J Z G 4 h 2 [(0, .ref (Z.2.1 0)), (1, .int x1), (2, .int x2), (3, .int x3)] [] := by
  unfold bX12_floods_2 at hF
  refine j_iload_n (pc := 2) 3 X dX12_floods_2 rfl ?_
  refine j_aload_n (pc := 3) 0 X dX12_floods_3 rfl ?_
  refine j_getr (pc := 4) X dX12_floods_4 (hz _ sh_0) fl_X12_67 rfl ?_
  refine j_aload_n (pc := 7) 0 X dX12_floods_7 rfl ?_
  refine j_geti (pc := 8) X dX12_floods_8 (hz _ sh_0) fl_X12_284 rfl ?_
  refine j_iald (pc := 11) X dX12_floods_11 (hz _ sh_17) hF (fun hF => ?_)
  refine j_icmp_ge (pc := 12) 55 X dX12_floods_12 rfl hF (fun hF => ?_) (fun hF => ?_)
  · exact j_vret (pc := 55) X E dX12_floods_55 hF
  · refine j_aload_n (pc := 15) 0 X dX12_floods_15 rfl ?_
    refine j_getr (pc := 16) X dX12_floods_16 (hz _ sh_0) fl_X12_149 rfl ?_
    refine j_iload_n (pc := 19) 3 X dX12_floods_19 rfl ?_
    refine j_iald (pc := 20) X dX12_floods_20 (hz _ sh_44) hF (fun hF => ?_)
    refine j_if_ne (pc := 21) 49 X dX12_floods_21 rfl hF (fun hF => ?_) (fun hF => ?_)
    · exact BX12_floods_49 X E hz r2 hr2 x1 x2 x3 h hF
    · refine j_aload_n (pc := 24) 0 X dX12_floods_24 rfl ?_
      refine j_getr (pc := 25) X dX12_floods_25 (hz _ sh_0) fl_X12_76 rfl ?_
      refine j_bipush (pc := 28) 10 X dX12_floods_28 rfl ?_
      refine j_aload_n (pc := 30) 0 X dX12_floods_30 rfl ?_
      refine j_geti (pc := 31) X dX12_floods_31 (hz _ sh_0) fl_X12_284 rfl ?_
      refine j_imul (pc := 34) X dX12_floods_34 ?_
      refine j_iload_n (pc := 35) 3 X dX12_floods_35 rfl ?_
      refine j_iadd (pc := 36) X dX12_floods_36 ?_
      refine j_iald (pc := 37) X dX12_floods_37 (hz _ sh_20) hF (fun hF => ?_)
      refine j_iload_n (pc := 38) 1 X dX12_floods_38 rfl ?_
      refine j_icmp_ne (pc := 39) 49 X dX12_floods_39 rfl hF (fun hF => ?_) (fun hF => ?_)
      · exact BX12_floods_49 X E hz r2 hr2 x1 x2 x3 h hF
      · refine j_aload_n (pc := 42) 0 X dX12_floods_42 rfl ?_
        refine j_iload_n (pc := 43) 3 X dX12_floods_43 rfl ?_
        refine j_iconst (pc := 44) 4 X dX12_floods_44 rfl ?_
        refine j_iload_n (pc := 45) 2 X dX12_floods_45 rfl ?_
        refine j_cVv (pc := 46) (As := [.int x3, .int 4, .int x2]) (rest := []) X dX12_floods_46 ml_X12_453 ck_X12_becomes cv_X12_becomes (hz _ sh_0) rfl (Nat.le_of_ble_eq_true rfl) rfl (Nat.le_of_ble_eq_true rfl) rfl hF (tX12_becomes Z x3 4 x2 hz h) (fun h1 hF => ?_)
        exact BX12_floods_49 X E hz r2 hr2 x1 x2 x3 h1 hF
theorem LX12_floods_2 {Z : ZT} {G : GT} {hr : Hp} (X : CX Z G cX12_floods RX12 4 1) (E : RX Z G none (none) hr) (hz : HZM Z)  : ∀ (n : Nat) (x1 : Int32) (x2 : Int32) (x3 : Int32) (h : Hp), lX12_floods_2   n x1 x2 x3 h = some hr → J Z G 4 h 2 [(0, .ref (Z.2.1 0)), (1, .int x1), (2, .int x2), (3, .int x3)] [] := by
  intro n
  induction n with
  | zero => intro x1 x2 x3 h hF; cases hF
  | succ n ih => intro x1 x2 x3 h hF; exact BX12_floods_2 X E hz  (lX12_floods_2   n) ih x1 x2 x3 h hF
def fX12_floods (a1 : Int32) (a2 : Int32) (h : Hp) : Option (Hp) := lt 0 (fun v1 => lX12_floods_2 FU a1 a2 v1 h)
set_option maxRecDepth 20000 in
theorem tX12_floods (Z : ZT) (a1 : Int32) (a2 : Int32) (hz : HZM Z) (h : Hp) (hr : Hp) (hF : fX12_floods a1 a2 h = some hr) : MC Z yX12_floods cX12_floods 4 none 1 [.ref (Z.2.1 0), .int a1, .int a2] h (none) hr := by
  unfold fX12_floods at hF
  refine mc_start (by decide) (Nat.le_of_ble_eq_true rfl) (fun G X E => ?_)
  refine j_iconst (pc := 0) 0 X dX12_floods_0 rfl ?_
  refine j_istore_n (pc := 1) (fun y => [(3, .int y), (0, .ref (Z.2.1 0)), (1, .int a1), (2, .int a2)]) X dX12_floods_1 (by decide) (fun _ => rfl) hF (fun v1 hF => ?_)
  refine j_lv [(0, .ref (Z.2.1 0)), (1, .int a1), (2, .int a2), (3, .int v1)] [1, 2, 3, 0] rfl ?_
  exact LX12_floods_2 X E hz FU a1 a2 v1 h hF
theorem dX12_happens_0 : decode cX12_happens 0 = .ok (.aload_n 0, 1) := by decide +kernel
theorem dX12_happens_1 : decode cX12_happens 1 = .ok (.getfield 143, 3) := by decide +kernel
theorem dX12_happens_4 : decode cX12_happens 4 = .ok (.iload_n 1, 1) := by decide +kernel
theorem dX12_happens_5 : decode cX12_happens 5 = .ok (.iaload, 1) := by decide +kernel
theorem dX12_happens_6 : decode cX12_happens 6 = .ok (.istore_n 3, 1) := by decide +kernel
theorem dX12_happens_7 : decode cX12_happens 7 = .ok (.aload_n 0, 1) := by decide +kernel
theorem dX12_happens_8 : decode cX12_happens 8 = .ok (.getfield 140, 3) := by decide +kernel
theorem dX12_happens_11 : decode cX12_happens 11 = .ok (.iload_n 1, 1) := by decide +kernel
theorem dX12_happens_12 : decode cX12_happens 12 = .ok (.iaload, 1) := by decide +kernel
theorem dX12_happens_13 : decode cX12_happens 13 = .ok (.istore 4, 2) := by decide +kernel
theorem dX12_happens_15 : decode cX12_happens 15 = .ok (.aload_n 0, 1) := by decide +kernel
theorem dX12_happens_16 : decode cX12_happens 16 = .ok (.getfield 137, 3) := by decide +kernel
theorem dX12_happens_19 : decode cX12_happens 19 = .ok (.iload_n 1, 1) := by decide +kernel
theorem dX12_happens_20 : decode cX12_happens 20 = .ok (.iaload, 1) := by decide +kernel
theorem dX12_happens_21 : decode cX12_happens 21 = .ok (.tableswitch 218 0 4 #[35, 87, 106, 141, 203], 35) := by decide +kernel
theorem dX12_happens_56 : decode cX12_happens 56 = .ok (.aload_n 0, 1) := by decide +kernel
theorem dX12_happens_57 : decode cX12_happens 57 = .ok (.getfield 161, 3) := by decide +kernel
theorem dX12_happens_60 : decode cX12_happens 60 = .ok (.iload_n 3, 1) := by decide +kernel
theorem dX12_happens_61 : decode cX12_happens 61 = .ok (.dup2, 1) := by decide +kernel
theorem dX12_happens_62 : decode cX12_happens 62 = .ok (.iaload, 1) := by decide +kernel
theorem dX12_happens_63 : decode cX12_happens 63 = .ok (.aload_n 0, 1) := by decide +kernel
theorem dX12_happens_64 : decode cX12_happens 64 = .ok (.getfield 146, 3) := by decide +kernel
theorem dX12_happens_67 : decode cX12_happens 67 = .ok (.iload_n 1, 1) := by decide +kernel
theorem dX12_happens_68 : decode cX12_happens 68 = .ok (.iaload, 1) := by decide +kernel
theorem dX12_happens_69 : decode cX12_happens 69 = .ok (.iadd, 1) := by decide +kernel
theorem dX12_happens_70 : decode cX12_happens 70 = .ok (.iastore, 1) := by decide +kernel
theorem dX12_happens_71 : decode cX12_happens 71 = .ok (.iload_n 2, 1) := by decide +kernel
theorem dX12_happens_72 : decode cX12_happens 72 = .ok (.ifCond .ne 174, 3) := by decide +kernel
theorem dX12_happens_75 : decode cX12_happens 75 = .ok (.aload_n 0, 1) := by decide +kernel
theorem dX12_happens_76 : decode cX12_happens 76 = .ok (.getfield 161, 3) := by decide +kernel
theorem dX12_happens_79 : decode cX12_happens 79 = .ok (.iload_n 3, 1) := by decide +kernel
theorem dX12_happens_80 : decode cX12_happens 80 = .ok (.iaload, 1) := by decide +kernel
theorem dX12_happens_81 : decode cX12_happens 81 = .ok (.aload_n 0, 1) := by decide +kernel
theorem dX12_happens_82 : decode cX12_happens 82 = .ok (.getfield 91, 3) := by decide +kernel
theorem dX12_happens_85 : decode cX12_happens 85 = .ok (.aload_n 0, 1) := by decide +kernel
theorem dX12_happens_86 : decode cX12_happens 86 = .ok (.getfield 284, 3) := by decide +kernel
theorem dX12_happens_89 : decode cX12_happens 89 = .ok (.iaload, 1) := by decide +kernel
theorem dX12_happens_90 : decode cX12_happens 90 = .ok (.if_icmp .lt 156, 3) := by decide +kernel
theorem dX12_happens_93 : decode cX12_happens 93 = .ok (.aload_n 0, 1) := by decide +kernel
theorem dX12_happens_94 : decode cX12_happens 94 = .ok (.dup, 1) := by decide +kernel
theorem dX12_happens_95 : decode cX12_happens 95 = .ok (.getfield 441, 3) := by decide +kernel
theorem dX12_happens_98 : decode cX12_happens 98 = .ok (.iconst 1, 1) := by decide +kernel
theorem dX12_happens_99 : decode cX12_happens 99 = .ok (.iload_n 3, 1) := by decide +kernel
theorem dX12_happens_100 : decode cX12_happens 100 = .ok (.ishl, 1) := by decide +kernel
theorem dX12_happens_101 : decode cX12_happens 101 = .ok (.ior, 1) := by decide +kernel
theorem dX12_happens_102 : decode cX12_happens 102 = .ok (.putfield 441, 3) := by decide +kernel
theorem dX12_happens_105 : decode cX12_happens 105 = .ok (.goto 141, 3) := by decide +kernel
theorem dX12_happens_108 : decode cX12_happens 108 = .ok (.iload_n 2, 1) := by decide +kernel
theorem dX12_happens_109 : decode cX12_happens 109 = .ok (.ifCond .eq 137, 3) := by decide +kernel
theorem dX12_happens_112 : decode cX12_happens 112 = .ok (.aload_n 0, 1) := by decide +kernel
theorem dX12_happens_113 : decode cX12_happens 113 = .ok (.dup, 1) := by decide +kernel
theorem dX12_happens_114 : decode cX12_happens 114 = .ok (.getfield 441, 3) := by decide +kernel
theorem dX12_happens_117 : decode cX12_happens 117 = .ok (.iconst 1, 1) := by decide +kernel
theorem dX12_happens_118 : decode cX12_happens 118 = .ok (.iload_n 3, 1) := by decide +kernel
theorem dX12_happens_119 : decode cX12_happens 119 = .ok (.ishl, 1) := by decide +kernel
theorem dX12_happens_120 : decode cX12_happens 120 = .ok (.ior, 1) := by decide +kernel
theorem dX12_happens_121 : decode cX12_happens 121 = .ok (.putfield 441, 3) := by decide +kernel
theorem dX12_happens_124 : decode cX12_happens 124 = .ok (.goto 122, 3) := by decide +kernel
theorem dX12_happens_127 : decode cX12_happens 127 = .ok (.aload_n 0, 1) := by decide +kernel
theorem dX12_happens_128 : decode cX12_happens 128 = .ok (.getfield 149, 3) := by decide +kernel
theorem dX12_happens_131 : decode cX12_happens 131 = .ok (.iload_n 3, 1) := by decide +kernel
theorem dX12_happens_132 : decode cX12_happens 132 = .ok (.iaload, 1) := by decide +kernel
theorem dX12_happens_133 : decode cX12_happens 133 = .ok (.ifCond .ne 113, 3) := by decide +kernel
theorem dX12_happens_136 : decode cX12_happens 136 = .ok (.aload_n 0, 1) := by decide +kernel
theorem dX12_happens_137 : decode cX12_happens 137 = .ok (.getfield 441, 3) := by decide +kernel
theorem dX12_happens_140 : decode cX12_happens 140 = .ok (.aload_n 0, 1) := by decide +kernel
theorem dX12_happens_141 : decode cX12_happens 141 = .ok (.iload_n 3, 1) := by decide +kernel
theorem dX12_happens_142 : decode cX12_happens 142 = .ok (.invokevirtual 403, 3) := by decide +kernel
theorem dX12_happens_145 : decode cX12_happens 145 = .ok (.ishr, 1) := by decide +kernel
theorem dX12_happens_146 : decode cX12_happens 146 = .ok (.iconst 1, 1) := by decide +kernel
theorem dX12_happens_147 : decode cX12_happens 147 = .ok (.iand, 1) := by decide +kernel
theorem dX12_happens_148 : decode cX12_happens 148 = .ok (.ifCond .ne 98, 3) := by decide +kernel
theorem dX12_happens_151 : decode cX12_happens 151 = .ok (.aload_n 0, 1) := by decide +kernel
theorem dX12_happens_152 : decode cX12_happens 152 = .ok (.iload_n 3, 1) := by decide +kernel
theorem dX12_happens_153 : decode cX12_happens 153 = .ok (.iconst 3, 1) := by decide +kernel
theorem dX12_happens_154 : decode cX12_happens 154 = .ok (.iload 4, 2) := by decide +kernel
theorem dX12_happens_156 : decode cX12_happens 156 = .ok (.invokevirtual 453, 3) := by decide +kernel
theorem dX12_happens_159 : decode cX12_happens 159 = .ok (.goto 87, 3) := by decide +kernel
theorem dX12_happens_162 : decode cX12_happens 162 = .ok (.aload_n 0, 1) := by decide +kernel
theorem dX12_happens_163 : decode cX12_happens 163 = .ok (.getfield 149, 3) := by decide +kernel
theorem dX12_happens_166 : decode cX12_happens 166 = .ok (.iload_n 3, 1) := by decide +kernel
theorem dX12_happens_167 : decode cX12_happens 167 = .ok (.iaload, 1) := by decide +kernel
theorem dX12_happens_168 : decode cX12_happens 168 = .ok (.ifCond .eq 4, 3) := by decide +kernel
theorem dX12_happens_171 : decode cX12_happens 171 = .ok (.return_, 1) := by decide +kernel
theorem dX12_happens_172 : decode cX12_happens 172 = .ok (.aload_n 0, 1) := by decide +kernel
theorem dX12_happens_173 : decode cX12_happens 173 = .ok (.iload_n 3, 1) := by decide +kernel
theorem dX12_happens_174 : decode cX12_happens 174 = .ok (.iload 4, 2) := by decide +kernel
theorem dX12_happens_176 : decode cX12_happens 176 = .ok (.aload_n 0, 1) := by decide +kernel
theorem dX12_happens_177 : decode cX12_happens 177 = .ok (.getfield 441, 3) := by decide +kernel
theorem dX12_happens_180 : decode cX12_happens 180 = .ok (.aload_n 0, 1) := by decide +kernel
theorem dX12_happens_181 : decode cX12_happens 181 = .ok (.getfield 444, 3) := by decide +kernel
theorem dX12_happens_184 : decode cX12_happens 184 = .ok (.invokevirtual 456, 3) := by decide +kernel
theorem dX12_happens_187 : decode cX12_happens 187 = .ok (.ifCond .ne 26, 3) := by decide +kernel
theorem dX12_happens_190 : decode cX12_happens 190 = .ok (.aload_n 0, 1) := by decide +kernel
theorem dX12_happens_191 : decode cX12_happens 191 = .ok (.dup, 1) := by decide +kernel
theorem dX12_happens_192 : decode cX12_happens 192 = .ok (.getfield 447, 3) := by decide +kernel
theorem dX12_happens_195 : decode cX12_happens 195 = .ok (.aload_n 0, 1) := by decide +kernel
theorem dX12_happens_196 : decode cX12_happens 196 = .ok (.getfield 82, 3) := by decide +kernel
theorem dX12_happens_199 : decode cX12_happens 199 = .ok (.bipush 10, 2) := by decide +kernel
theorem dX12_happens_201 : decode cX12_happens 201 = .ok (.aload_n 0, 1) := by decide +kernel
theorem dX12_happens_202 : decode cX12_happens 202 = .ok (.getfield 284, 3) := by decide +kernel
theorem dX12_happens_205 : decode cX12_happens 205 = .ok (.imul, 1) := by decide +kernel
theorem dX12_happens_206 : decode cX12_happens 206 = .ok (.iload_n 3, 1) := by decide +kernel
theorem dX12_happens_207 : decode cX12_happens 207 = .ok (.iadd, 1) := by decide +kernel
theorem dX12_happens_208 : decode cX12_happens 208 = .ok (.iaload, 1) := by decide +kernel
theorem dX12_happens_209 : decode cX12_happens 209 = .ok (.iadd, 1) := by decide +kernel
theorem dX12_happens_210 : decode cX12_happens 210 = .ok (.putfield 447, 3) := by decide +kernel
theorem dX12_happens_213 : decode cX12_happens 213 = .ok (.aload_n 0, 1) := by decide +kernel
theorem dX12_happens_214 : decode cX12_happens 214 = .ok (.iload_n 3, 1) := by decide +kernel
theorem dX12_happens_215 : decode cX12_happens 215 = .ok (.iconst 2, 1) := by decide +kernel
theorem dX12_happens_216 : decode cX12_happens 216 = .ok (.iload 4, 2) := by decide +kernel
theorem dX12_happens_218 : decode cX12_happens 218 = .ok (.invokevirtual 453, 3) := by decide +kernel
theorem dX12_happens_221 : decode cX12_happens 221 = .ok (.goto 25, 3) := by decide +kernel
theorem dX12_happens_224 : decode cX12_happens 224 = .ok (.aload_n 0, 1) := by decide +kernel
theorem dX12_happens_225 : decode cX12_happens 225 = .ok (.getfield 158, 3) := by decide +kernel
theorem dX12_happens_228 : decode cX12_happens 228 = .ok (.iload_n 3, 1) := by decide +kernel
theorem dX12_happens_229 : decode cX12_happens 229 = .ok (.aload_n 0, 1) := by decide +kernel
theorem dX12_happens_230 : decode cX12_happens 230 = .ok (.getfield 146, 3) := by decide +kernel
theorem dX12_happens_233 : decode cX12_happens 233 = .ok (.iload_n 1, 1) := by decide +kernel
theorem dX12_happens_234 : decode cX12_happens 234 = .ok (.iaload, 1) := by decide +kernel
theorem dX12_happens_235 : decode cX12_happens 235 = .ok (.iastore, 1) := by decide +kernel
theorem dX12_happens_236 : decode cX12_happens 236 = .ok (.goto 10, 3) := by decide +kernel
theorem dX12_happens_239 : decode cX12_happens 239 = .ok (.aload_n 0, 1) := by decide +kernel
theorem dX12_happens_240 : decode cX12_happens 240 = .ok (.iload_n 3, 1) := by decide +kernel
theorem dX12_happens_241 : decode cX12_happens 241 = .ok (.iload 4, 2) := by decide +kernel
theorem dX12_happens_243 : decode cX12_happens 243 = .ok (.invokevirtual 460, 3) := by decide +kernel
theorem dX12_happens_246 : decode cX12_happens 246 = .ok (.return_, 1) := by decide +kernel
def bX12_happens_213   (x3 : Int32) (x4 : Int32) (h : Hp) : Option (Hp) := bv (fX12_becomes x3 2 x4 h) (fun h1 => some h1)
set_option maxRecDepth 20000 in
theorem BX12_happens_213 {Z : ZT} {G : GT} {hr : Hp} (X : CX Z G cX12_happens RX12 5 4) (E : RX Z G none (none) hr) (hz : HZM Z)  (x3 : Int32) (x4 : Int32) (h : Hp) (hF : bX12_happens_213   x3 x4 h = some hr) : J Z G 5 h 213 [(0, .ref (Z.2.1 0)), (3, .int x3), (4, .int x4)] [] := by
  unfold bX12_happens_213 at hF
  refine j_aload_n (pc := 213) 0 X dX12_happens_213 rfl ?_
  refine j_iload_n (pc := 214) 1 X dX12_happens_214 rfl ?_
  refine j_iconst (pc := 215) 2 X dX12_happens_215 rfl ?_
  refine j_iload (pc := 216) 2 X dX12_happens_216 rfl ?_
  refine j_cVv (pc := 218) (As := [.int x3, .int 2, .int x4]) (rest := []) X dX12_happens_218 ml_X12_453 ck_X12_becomes cv_X12_becomes (hz _ sh_0) rfl (Nat.le_of_ble_eq_true rfl) rfl (Nat.le_of_ble_eq_true rfl) rfl hF (tX12_becomes Z x3 2 x4 hz h) (fun h1 hF => ?_)
  refine j_goto (pc := 221) 246 X dX12_happens_221 rfl ?_
  exact j_vret (pc := 246) X E dX12_happens_246 hF
def fX12_happens (a1 : Int32) (a2 : Int32) (h : Hp) : Option (Hp) := ck (inb a1 60) (lt (h.1 42 (ix a1)) (fun v1 => ck (inb a1 60) (lt (h.1 41 (ix a1)) (fun v2 => ck (inb a1 60) ((if (h.1 40 (ix a1)).toInt < 0 ∨ 4 < (h.1 40 (ix a1)).toInt then bv (fX12_floods v1 v2 h) (fun h3 => some h3) else if (h.1 40 (ix a1)) = 0 then ck (inb v1 10) (ck (inb a1 60) (ck (inb v1 10) (lt (wI h 48 (ix v1) ((h.1 48 (ix v1)) + (h.1 43 (ix a1)))) (fun h4 => (if a2 = 0 then ck (inb v1 10) (ck (inb (h4.1 0 18) 2) ((if (h4.1 48 (ix v1)) < (h4.1 25 (ix (h4.1 0 18))) then some h4 else lt (wI h4 0 69 ((h4.1 0 69) ||| ((1 : Int32) <<< (v1 &&& 31)))) (fun h5 => some h5)))) else some h4))))) else if (h.1 40 (ix a1)) = 1 then (if a2 = 0 then some h else lt (wI h 0 69 ((h.1 0 69) ||| ((1 : Int32) <<< (v1 &&& 31)))) (fun h6 => some h6)) else if (h.1 40 (ix a1)) = 2 then ck (inb v1 10) ((if (h.1 44 (ix v1)) = 0 then bi (fX12_writer v1 h) (fun w8 h7 => (if (((h.1 0 69) >>> (w8 &&& 31)) &&& 1) = 0 then bv (fX12_becomes v1 3 v2 h7) (fun h9 => some h9) else some h7)) else some h)) else if (h.1 40 (ix a1)) = 3 then ck (inb v1 10) ((if (h.1 44 (ix v1)) = 0 then bi (fX12_holdsFor v1 v2 (h.1 0 69) (h.1 0 70) h) (fun w11 h10 => (if w11 = 0 then ck (inb (((10 : Int32) * (h10.1 0 18)) + v1) 20) (lt (wI h10 0 71 ((h10.1 0 71) + (h10.1 22 (ix (((10 : Int32) * (h10.1 0 18)) + v1))))) (fun h12 => bX12_happens_213 v1 v2 h12)) else bX12_happens_213 v1 v2 h10)) else some h)) else if (h.1 40 (ix a1)) = 4 then ck (inb a1 60) (ck (inb v1 10) (lt (wI h 47 (ix v1) (h.1 43 (ix a1))) (fun h13 => some h13))) else none))))))
set_option maxRecDepth 20000 in
theorem tX12_happens (Z : ZT) (a1 : Int32) (a2 : Int32) (hz : HZM Z) (h : Hp) (hr : Hp) (hF : fX12_happens a1 a2 h = some hr) : MC Z yX12_happens cX12_happens 5 none 4 [.ref (Z.2.1 0), .int a1, .int a2] h (none) hr := by
  unfold fX12_happens at hF
  refine mc_start (by decide) (Nat.le_of_ble_eq_true rfl) (fun G X E => ?_)
  refine j_aload_n (pc := 0) 0 X dX12_happens_0 rfl ?_
  refine j_getr (pc := 1) X dX12_happens_1 (hz _ sh_0) fl_X12_143 rfl ?_
  refine j_iload_n (pc := 4) 1 X dX12_happens_4 rfl ?_
  refine j_iald (pc := 5) X dX12_happens_5 (hz _ sh_42) hF (fun hF => ?_)
  refine j_istore_n (pc := 6) (fun y => [(3, .int y), (0, .ref (Z.2.1 0)), (1, .int a1), (2, .int a2)]) X dX12_happens_6 (by decide) (fun _ => rfl) hF (fun v1 hF => ?_)
  refine j_aload_n (pc := 7) 1 X dX12_happens_7 rfl ?_
  refine j_getr (pc := 8) X dX12_happens_8 (hz _ sh_0) fl_X12_140 rfl ?_
  refine j_iload_n (pc := 11) 2 X dX12_happens_11 rfl ?_
  refine j_iald (pc := 12) X dX12_happens_12 (hz _ sh_41) hF (fun hF => ?_)
  refine j_istore (pc := 13) (fun y => [(4, .int y), (3, .int v1), (0, .ref (Z.2.1 0)), (1, .int a1), (2, .int a2)]) X dX12_happens_13 (by decide) (fun _ => rfl) hF (fun v2 hF => ?_)
  refine j_aload_n (pc := 15) 2 X dX12_happens_15 rfl ?_
  refine j_getr (pc := 16) X dX12_happens_16 (hz _ sh_0) fl_X12_137 rfl ?_
  refine j_iload_n (pc := 19) 3 X dX12_happens_19 rfl ?_
  refine j_iald (pc := 20) X dX12_happens_20 (hz _ sh_40) hF (fun hF => ?_)
  refine j_tab (pc := 21) (tgt := 239) X dX12_happens_21 rfl hF (fun hF => ?_) (fun hF => ?_)
  · refine j_aload_n (pc := 239) 2 X dX12_happens_239 rfl ?_
    refine j_iload_n (pc := 240) 1 X dX12_happens_240 rfl ?_
    refine j_iload (pc := 241) 0 X dX12_happens_241 rfl ?_
    refine j_cVv (pc := 243) (As := [.int v1, .int v2]) (rest := []) X dX12_happens_243 ml_X12_460 ck_X12_floods cv_X12_floods (hz _ sh_0) rfl (Nat.le_of_ble_eq_true rfl) rfl (Nat.le_of_ble_eq_true rfl) rfl hF (tX12_floods Z v1 v2 hz h) (fun h3 hF => ?_)
    exact j_vret (pc := 246) X E dX12_happens_246 hF
  refine j_tabi (pc := 21) (v := 0) (tgt := 56) X dX12_happens_21 rfl rfl rfl rfl hF (fun hF => ?_) (fun hF => ?_)
  · refine j_aload_n (pc := 56) 2 X dX12_happens_56 rfl ?_
    refine j_getr (pc := 57) X dX12_happens_57 (hz _ sh_0) fl_X12_161 rfl ?_
    refine j_iload_n (pc := 60) 1 X dX12_happens_60 rfl ?_
    refine j_dup2 (pc := 61) X dX12_happens_61 rfl rfl ?_
    refine j_iald (pc := 62) X dX12_happens_62 (hz _ sh_48) hF (fun hF => ?_)
    refine j_aload_n (pc := 63) 2 X dX12_happens_63 rfl ?_
    refine j_getr (pc := 64) X dX12_happens_64 (hz _ sh_0) fl_X12_146 rfl ?_
    refine j_iload_n (pc := 67) 3 X dX12_happens_67 rfl ?_
    refine j_iald (pc := 68) X dX12_happens_68 (hz _ sh_43) hF (fun hF => ?_)
    refine j_iadd (pc := 69) X dX12_happens_69 ?_
    refine j_iast (pc := 70) X dX12_happens_70 (hz _ sh_48) hF (fun h4 hF => ?_)
    refine j_iload_n (pc := 71) 4 X dX12_happens_71 rfl ?_
    refine j_if_ne (pc := 72) 246 X dX12_happens_72 rfl hF (fun hF => ?_) (fun hF => ?_)
    · exact j_vret (pc := 246) X E dX12_happens_246 hF
    · refine j_aload_n (pc := 75) 2 X dX12_happens_75 rfl ?_
      refine j_getr (pc := 76) X dX12_happens_76 (hz _ sh_0) fl_X12_161 rfl ?_
      refine j_iload_n (pc := 79) 1 X dX12_happens_79 rfl ?_
      refine j_iald (pc := 80) X dX12_happens_80 (hz _ sh_48) hF (fun hF => ?_)
      refine j_aload_n (pc := 81) 2 X dX12_happens_81 rfl ?_
      refine j_getr (pc := 82) X dX12_happens_82 (hz _ sh_0) fl_X12_91 rfl ?_
      refine j_aload_n (pc := 85) 2 X dX12_happens_85 rfl ?_
      refine j_geti (pc := 86) X dX12_happens_86 (hz _ sh_0) fl_X12_284 rfl ?_
      refine j_iald (pc := 89) X dX12_happens_89 (hz _ sh_25) hF (fun hF => ?_)
      refine j_icmp_lt (pc := 90) 246 X dX12_happens_90 rfl hF (fun hF => ?_) (fun hF => ?_)
      · exact j_vret (pc := 246) X E dX12_happens_246 hF
      · refine j_aload_n (pc := 93) 2 X dX12_happens_93 rfl ?_
        refine j_dup (pc := 94) X dX12_happens_94 rfl ?_
        refine j_geti (pc := 95) X dX12_happens_95 (hz _ sh_0) fl_X12_441 rfl ?_
        refine j_iconst (pc := 98) 1 X dX12_happens_98 rfl ?_
        refine j_iload_n (pc := 99) 1 X dX12_happens_99 rfl ?_
        refine j_ishl (pc := 100) X dX12_happens_100 ?_
        refine j_ior (pc := 101) X dX12_happens_101 ?_
        refine j_puti (pc := 102) X dX12_happens_102 (hz _ sh_0) fp_X12_441 rfl hF (fun h5 hF => ?_)
        refine j_goto (pc := 105) 246 X dX12_happens_105 rfl ?_
        exact j_vret (pc := 246) X E dX12_happens_246 hF
  refine j_tabi (pc := 21) (v := 1) (tgt := 108) X dX12_happens_21 rfl rfl rfl rfl hF (fun hF => ?_) (fun hF => ?_)
  · refine j_iload_n (pc := 108) 4 X dX12_happens_108 rfl ?_
    refine j_if_eq (pc := 109) 246 X dX12_happens_109 rfl hF (fun hF => ?_) (fun hF => ?_)
    · exact j_vret (pc := 246) X E dX12_happens_246 hF
    · refine j_aload_n (pc := 112) 2 X dX12_happens_112 rfl ?_
      refine j_dup (pc := 113) X dX12_happens_113 rfl ?_
      refine j_geti (pc := 114) X dX12_happens_114 (hz _ sh_0) fl_X12_441 rfl ?_
      refine j_iconst (pc := 117) 1 X dX12_happens_117 rfl ?_
      refine j_iload_n (pc := 118) 1 X dX12_happens_118 rfl ?_
      refine j_ishl (pc := 119) X dX12_happens_119 ?_
      refine j_ior (pc := 120) X dX12_happens_120 ?_
      refine j_puti (pc := 121) X dX12_happens_121 (hz _ sh_0) fp_X12_441 rfl hF (fun h6 hF => ?_)
      refine j_goto (pc := 124) 246 X dX12_happens_124 rfl ?_
      exact j_vret (pc := 246) X E dX12_happens_246 hF
  refine j_tabi (pc := 21) (v := 2) (tgt := 127) X dX12_happens_21 rfl rfl rfl rfl hF (fun hF => ?_) (fun hF => ?_)
  · refine j_aload_n (pc := 127) 2 X dX12_happens_127 rfl ?_
    refine j_getr (pc := 128) X dX12_happens_128 (hz _ sh_0) fl_X12_149 rfl ?_
    refine j_iload_n (pc := 131) 1 X dX12_happens_131 rfl ?_
    refine j_iald (pc := 132) X dX12_happens_132 (hz _ sh_44) hF (fun hF => ?_)
    refine j_if_ne (pc := 133) 246 X dX12_happens_133 rfl hF (fun hF => ?_) (fun hF => ?_)
    · exact j_vret (pc := 246) X E dX12_happens_246 hF
    · refine j_aload_n (pc := 136) 2 X dX12_happens_136 rfl ?_
      refine j_geti (pc := 137) X dX12_happens_137 (hz _ sh_0) fl_X12_441 rfl ?_
      refine j_aload_n (pc := 140) 2 X dX12_happens_140 rfl ?_
      refine j_iload_n (pc := 141) 1 X dX12_happens_141 rfl ?_
      refine j_cVi (pc := 142) (As := [.int v1]) (rest := [.int (h.1 0 69)]) X dX12_happens_142 ml_X12_403 ck_X12_writer cv_X12_writer (hz _ sh_0) rfl (Nat.le_of_ble_eq_true rfl) rfl (Nat.le_of_ble_eq_true rfl) rfl hF (tX12_writer Z v1 hz h) (fun w8 h7 hF => ?_)
      refine j_ishr (pc := 145) X dX12_happens_145 ?_
      refine j_iconst (pc := 146) 1 X dX12_happens_146 rfl ?_
      refine j_iand (pc := 147) X dX12_happens_147 ?_
      refine j_if_ne (pc := 148) 246 X dX12_happens_148 rfl hF (fun hF => ?_) (fun hF => ?_)
      · exact j_vret (pc := 246) X E dX12_happens_246 hF
      · refine j_aload_n (pc := 151) 2 X dX12_happens_151 rfl ?_
        refine j_iload_n (pc := 152) 1 X dX12_happens_152 rfl ?_
        refine j_iconst (pc := 153) 3 X dX12_happens_153 rfl ?_
        refine j_iload (pc := 154) 0 X dX12_happens_154 rfl ?_
        refine j_cVv (pc := 156) (As := [.int v1, .int 3, .int v2]) (rest := []) X dX12_happens_156 ml_X12_453 ck_X12_becomes cv_X12_becomes (hz _ sh_0) rfl (Nat.le_of_ble_eq_true rfl) rfl (Nat.le_of_ble_eq_true rfl) rfl hF (tX12_becomes Z v1 3 v2 hz h7) (fun h9 hF => ?_)
        refine j_goto (pc := 159) 246 X dX12_happens_159 rfl ?_
        exact j_vret (pc := 246) X E dX12_happens_246 hF
  refine j_tabi (pc := 21) (v := 3) (tgt := 162) X dX12_happens_21 rfl rfl rfl rfl hF (fun hF => ?_) (fun hF => ?_)
  · refine j_aload_n (pc := 162) 2 X dX12_happens_162 rfl ?_
    refine j_getr (pc := 163) X dX12_happens_163 (hz _ sh_0) fl_X12_149 rfl ?_
    refine j_iload_n (pc := 166) 1 X dX12_happens_166 rfl ?_
    refine j_iald (pc := 167) X dX12_happens_167 (hz _ sh_44) hF (fun hF => ?_)
    refine j_if_eq (pc := 168) 172 X dX12_happens_168 rfl hF (fun hF => ?_) (fun hF => ?_)
    · refine j_aload_n (pc := 172) 2 X dX12_happens_172 rfl ?_
      refine j_iload_n (pc := 173) 1 X dX12_happens_173 rfl ?_
      refine j_iload (pc := 174) 0 X dX12_happens_174 rfl ?_
      refine j_aload_n (pc := 176) 2 X dX12_happens_176 rfl ?_
      refine j_geti (pc := 177) X dX12_happens_177 (hz _ sh_0) fl_X12_441 rfl ?_
      refine j_aload_n (pc := 180) 2 X dX12_happens_180 rfl ?_
      refine j_geti (pc := 181) X dX12_happens_181 (hz _ sh_0) fl_X12_444 rfl ?_
      refine j_cVi (pc := 184) (As := [.int v1, .int v2, .int (h.1 0 69), .int (h.1 0 70)]) (rest := []) X dX12_happens_184 ml_X12_456 ck_X12_holdsFor cv_X12_holdsFor (hz _ sh_0) rfl (Nat.le_of_ble_eq_true rfl) rfl (Nat.le_of_ble_eq_true rfl) rfl hF (tX12_holdsFor Z v1 v2 (h.1 0 69) (h.1 0 70) hz h) (fun w11 h10 hF => ?_)
      refine j_if_ne (pc := 187) 213 X dX12_happens_187 rfl hF (fun hF => ?_) (fun hF => ?_)
      · refine j_lv [(0, .ref (Z.2.1 0)), (3, .int v1), (4, .int v2)] [2, 1, 0] rfl ?_
        exact BX12_happens_213 X E hz v1 v2 h10 hF
      · refine j_aload_n (pc := 190) 2 X dX12_happens_190 rfl ?_
        refine j_dup (pc := 191) X dX12_happens_191 rfl ?_
        refine j_geti (pc := 192) X dX12_happens_192 (hz _ sh_0) fl_X12_447 rfl ?_
        refine j_aload_n (pc := 195) 2 X dX12_happens_195 rfl ?_
        refine j_getr (pc := 196) X dX12_happens_196 (hz _ sh_0) fl_X12_82 rfl ?_
        refine j_bipush (pc := 199) 10 X dX12_happens_199 rfl ?_
        refine j_aload_n (pc := 201) 2 X dX12_happens_201 rfl ?_
        refine j_geti (pc := 202) X dX12_happens_202 (hz _ sh_0) fl_X12_284 rfl ?_
        refine j_imul (pc := 205) X dX12_happens_205 ?_
        refine j_iload_n (pc := 206) 1 X dX12_happens_206 rfl ?_
        refine j_iadd (pc := 207) X dX12_happens_207 ?_
        refine j_iald (pc := 208) X dX12_happens_208 (hz _ sh_22) hF (fun hF => ?_)
        refine j_iadd (pc := 209) X dX12_happens_209 ?_
        refine j_puti (pc := 210) X dX12_happens_210 (hz _ sh_0) fp_X12_447 rfl hF (fun h12 hF => ?_)
        refine j_lv [(0, .ref (Z.2.1 0)), (3, .int v1), (4, .int v2)] [2, 1, 0] rfl ?_
        exact BX12_happens_213 X E hz v1 v2 h12 hF
    · exact j_vret (pc := 171) X E dX12_happens_171 hF
  refine j_tabi (pc := 21) (v := 4) (tgt := 224) X dX12_happens_21 rfl rfl rfl rfl hF (fun hF => ?_) (fun hF => ?_)
  · refine j_aload_n (pc := 224) 2 X dX12_happens_224 rfl ?_
    refine j_getr (pc := 225) X dX12_happens_225 (hz _ sh_0) fl_X12_158 rfl ?_
    refine j_iload_n (pc := 228) 1 X dX12_happens_228 rfl ?_
    refine j_aload_n (pc := 229) 2 X dX12_happens_229 rfl ?_
    refine j_getr (pc := 230) X dX12_happens_230 (hz _ sh_0) fl_X12_146 rfl ?_
    refine j_iload_n (pc := 233) 3 X dX12_happens_233 rfl ?_
    refine j_iald (pc := 234) X dX12_happens_234 (hz _ sh_43) hF (fun hF => ?_)
    refine j_iast (pc := 235) X dX12_happens_235 (hz _ sh_47) hF (fun h13 hF => ?_)
    refine j_goto (pc := 236) 246 X dX12_happens_236 rfl ?_
    exact j_vret (pc := 246) X E dX12_happens_246 hF
  cases hF
theorem dX12_pays_0 : decode cX12_pays 0 = .ok (.iconst 0, 1) := by decide +kernel
theorem dX12_pays_1 : decode cX12_pays 1 = .ok (.istore_n 2, 1) := by decide +kernel
theorem dX12_pays_2 : decode cX12_pays 2 = .ok (.iload_n 2, 1) := by decide +kernel
theorem dX12_pays_3 : decode cX12_pays 3 = .ok (.aload_n 0, 1) := by decide +kernel
theorem dX12_pays_4 : decode cX12_pays 4 = .ok (.getfield 67, 3) := by decide +kernel
theorem dX12_pays_7 : decode cX12_pays 7 = .ok (.aload_n 0, 1) := by decide +kernel
theorem dX12_pays_8 : decode cX12_pays 8 = .ok (.getfield 284, 3) := by decide +kernel
theorem dX12_pays_11 : decode cX12_pays 11 = .ok (.iaload, 1) := by decide +kernel
theorem dX12_pays_12 : decode cX12_pays 12 = .ok (.if_icmp .ge 118, 3) := by decide +kernel
theorem dX12_pays_15 : decode cX12_pays 15 = .ok (.aload_n 0, 1) := by decide +kernel
theorem dX12_pays_16 : decode cX12_pays 16 = .ok (.getfield 149, 3) := by decide +kernel
theorem dX12_pays_19 : decode cX12_pays 19 = .ok (.iload_n 2, 1) := by decide +kernel
theorem dX12_pays_20 : decode cX12_pays 20 = .ok (.iaload, 1) := by decide +kernel
theorem dX12_pays_21 : decode cX12_pays 21 = .ok (.ifCond .eq 6, 3) := by decide +kernel
theorem dX12_pays_24 : decode cX12_pays 24 = .ok (.goto 100, 3) := by decide +kernel
theorem dX12_pays_27 : decode cX12_pays 27 = .ok (.aload_n 0, 1) := by decide +kernel
theorem dX12_pays_28 : decode cX12_pays 28 = .ok (.iload_n 2, 1) := by decide +kernel
theorem dX12_pays_29 : decode cX12_pays 29 = .ok (.iload_n 1, 1) := by decide +kernel
theorem dX12_pays_30 : decode cX12_pays 30 = .ok (.invokevirtual 418, 3) := by decide +kernel
theorem dX12_pays_33 : decode cX12_pays 33 = .ok (.istore_n 3, 1) := by decide +kernel
theorem dX12_pays_34 : decode cX12_pays 34 = .ok (.aload_n 0, 1) := by decide +kernel
theorem dX12_pays_35 : decode cX12_pays 35 = .ok (.getfield 441, 3) := by decide +kernel
theorem dX12_pays_38 : decode cX12_pays 38 = .ok (.aload_n 0, 1) := by decide +kernel
theorem dX12_pays_39 : decode cX12_pays 39 = .ok (.iload_n 2, 1) := by decide +kernel
theorem dX12_pays_40 : decode cX12_pays 40 = .ok (.invokevirtual 403, 3) := by decide +kernel
theorem dX12_pays_43 : decode cX12_pays 43 = .ok (.ishr, 1) := by decide +kernel
theorem dX12_pays_44 : decode cX12_pays 44 = .ok (.iconst 1, 1) := by decide +kernel
theorem dX12_pays_45 : decode cX12_pays 45 = .ok (.iand, 1) := by decide +kernel
theorem dX12_pays_46 : decode cX12_pays 46 = .ok (.ifCond .ne 16, 3) := by decide +kernel
theorem dX12_pays_49 : decode cX12_pays 49 = .ok (.aload_n 0, 1) := by decide +kernel
theorem dX12_pays_50 : decode cX12_pays 50 = .ok (.getfield 164, 3) := by decide +kernel
theorem dX12_pays_53 : decode cX12_pays 53 = .ok (.iload_n 1, 1) := by decide +kernel
theorem dX12_pays_54 : decode cX12_pays 54 = .ok (.dup2, 1) := by decide +kernel
theorem dX12_pays_55 : decode cX12_pays 55 = .ok (.iaload, 1) := by decide +kernel
theorem dX12_pays_56 : decode cX12_pays 56 = .ok (.iload_n 3, 1) := by decide +kernel
theorem dX12_pays_57 : decode cX12_pays 57 = .ok (.iadd, 1) := by decide +kernel
theorem dX12_pays_58 : decode cX12_pays 58 = .ok (.iastore, 1) := by decide +kernel
theorem dX12_pays_59 : decode cX12_pays 59 = .ok (.goto 65, 3) := by decide +kernel
theorem dX12_pays_62 : decode cX12_pays 62 = .ok (.aload_n 0, 1) := by decide +kernel
theorem dX12_pays_63 : decode cX12_pays 63 = .ok (.getfield 155, 3) := by decide +kernel
theorem dX12_pays_66 : decode cX12_pays 66 = .ok (.iload_n 2, 1) := by decide +kernel
theorem dX12_pays_67 : decode cX12_pays 67 = .ok (.iaload, 1) := by decide +kernel
theorem dX12_pays_68 : decode cX12_pays 68 = .ok (.iload_n 3, 1) := by decide +kernel
theorem dX12_pays_69 : decode cX12_pays 69 = .ok (.if_icmp .ge 35, 3) := by decide +kernel
theorem dX12_pays_72 : decode cX12_pays 72 = .ok (.aload_n 0, 1) := by decide +kernel
theorem dX12_pays_73 : decode cX12_pays 73 = .ok (.getfield 164, 3) := by decide +kernel
theorem dX12_pays_76 : decode cX12_pays 76 = .ok (.iload_n 1, 1) := by decide +kernel
theorem dX12_pays_77 : decode cX12_pays 77 = .ok (.dup2, 1) := by decide +kernel
theorem dX12_pays_78 : decode cX12_pays 78 = .ok (.iaload, 1) := by decide +kernel
theorem dX12_pays_79 : decode cX12_pays 79 = .ok (.aload_n 0, 1) := by decide +kernel
theorem dX12_pays_80 : decode cX12_pays 80 = .ok (.getfield 155, 3) := by decide +kernel
theorem dX12_pays_83 : decode cX12_pays 83 = .ok (.iload_n 2, 1) := by decide +kernel
theorem dX12_pays_84 : decode cX12_pays 84 = .ok (.iaload, 1) := by decide +kernel
theorem dX12_pays_85 : decode cX12_pays 85 = .ok (.iadd, 1) := by decide +kernel
theorem dX12_pays_86 : decode cX12_pays 86 = .ok (.iastore, 1) := by decide +kernel
theorem dX12_pays_87 : decode cX12_pays 87 = .ok (.aload_n 0, 1) := by decide +kernel
theorem dX12_pays_88 : decode cX12_pays 88 = .ok (.getfield 155, 3) := by decide +kernel
theorem dX12_pays_91 : decode cX12_pays 91 = .ok (.iload_n 2, 1) := by decide +kernel
theorem dX12_pays_92 : decode cX12_pays 92 = .ok (.iconst 0, 1) := by decide +kernel
theorem dX12_pays_93 : decode cX12_pays 93 = .ok (.iastore, 1) := by decide +kernel
theorem dX12_pays_94 : decode cX12_pays 94 = .ok (.aload_n 0, 1) := by decide +kernel
theorem dX12_pays_95 : decode cX12_pays 95 = .ok (.iload_n 2, 1) := by decide +kernel
theorem dX12_pays_96 : decode cX12_pays 96 = .ok (.iconst 5, 1) := by decide +kernel
theorem dX12_pays_97 : decode cX12_pays 97 = .ok (.iload_n 1, 1) := by decide +kernel
theorem dX12_pays_98 : decode cX12_pays 98 = .ok (.invokevirtual 453, 3) := by decide +kernel
theorem dX12_pays_101 : decode cX12_pays 101 = .ok (.goto 23, 3) := by decide +kernel
theorem dX12_pays_104 : decode cX12_pays 104 = .ok (.aload_n 0, 1) := by decide +kernel
theorem dX12_pays_105 : decode cX12_pays 105 = .ok (.getfield 164, 3) := by decide +kernel
theorem dX12_pays_108 : decode cX12_pays 108 = .ok (.iload_n 1, 1) := by decide +kernel
theorem dX12_pays_109 : decode cX12_pays 109 = .ok (.dup2, 1) := by decide +kernel
theorem dX12_pays_110 : decode cX12_pays 110 = .ok (.iaload, 1) := by decide +kernel
theorem dX12_pays_111 : decode cX12_pays 111 = .ok (.iload_n 3, 1) := by decide +kernel
theorem dX12_pays_112 : decode cX12_pays 112 = .ok (.iadd, 1) := by decide +kernel
theorem dX12_pays_113 : decode cX12_pays 113 = .ok (.iastore, 1) := by decide +kernel
theorem dX12_pays_114 : decode cX12_pays 114 = .ok (.aload_n 0, 1) := by decide +kernel
theorem dX12_pays_115 : decode cX12_pays 115 = .ok (.getfield 155, 3) := by decide +kernel
theorem dX12_pays_118 : decode cX12_pays 118 = .ok (.iload_n 2, 1) := by decide +kernel
theorem dX12_pays_119 : decode cX12_pays 119 = .ok (.dup2, 1) := by decide +kernel
theorem dX12_pays_120 : decode cX12_pays 120 = .ok (.iaload, 1) := by decide +kernel
theorem dX12_pays_121 : decode cX12_pays 121 = .ok (.iload_n 3, 1) := by decide +kernel
theorem dX12_pays_122 : decode cX12_pays 122 = .ok (.isub, 1) := by decide +kernel
theorem dX12_pays_123 : decode cX12_pays 123 = .ok (.iastore, 1) := by decide +kernel
theorem dX12_pays_124 : decode cX12_pays 124 = .ok (.iinc 2 1, 3) := by decide +kernel
theorem dX12_pays_127 : decode cX12_pays 127 = .ok (.goto (-125), 3) := by decide +kernel
theorem dX12_pays_130 : decode cX12_pays 130 = .ok (.return_, 1) := by decide +kernel
def bX12_pays_124  (r2 : Int32 → Int32 → Hp → Option (Hp)) (x1 : Int32) (x2 : Int32) (h : Hp) : Option (Hp) := lt (x2 + 1) (fun v1 => r2 x1 v1 h)
set_option maxRecDepth 20000 in
theorem BX12_pays_124 {Z : ZT} {G : GT} {hr : Hp} (X : CX Z G cX12_pays RX12 4 3) (E : RX Z G none (none) hr) (hz : HZM Z) (r2 : Int32 → Int32 → Hp → Option (Hp)) (hr2 : ∀ (x1 : Int32) (x2 : Int32) (h : Hp), r2 x1 x2 h = some hr → J Z G 4 h 2 [(0, .ref (Z.2.1 0)), (1, .int x1), (2, .int x2)] []) (x1 : Int32) (x2 : Int32) (h : Hp) (hF : bX12_pays_124  r2 x1 x2 h = some hr) : J Z G 4 h 124 [(0, .ref (Z.2.1 0)), (1, .int x1), (2, .int x2)] [] := by
  unfold bX12_pays_124 at hF
  refine j_iinc (pc := 124) 2 (x2 + 1) (fun y => [(2, .int y), (0, .ref (Z.2.1 0)), (1, .int x1)]) X dX12_pays_124 rfl rfl (by decide) (fun _ => rfl) hF (fun v1 hF => ?_)
  refine j_goto (pc := 127) 2 X dX12_pays_127 rfl ?_
  refine j_lv [(0, .ref (Z.2.1 0)), (1, .int x1), (2, .int v1)] [1, 2, 0] rfl ?_
  exact hr2 x1 v1 h hF
def bX12_pays_2   (r2 : Int32 → Int32 → Hp → Option (Hp)) (x1 : Int32) (x2 : Int32) (h : Hp) : Option (Hp) := ck (inb (h.1 0 18) 2) ((if (h.1 17 (ix (h.1 0 18))) ≤ x2 then some h else ck (inb x2 10) ((if (h.1 44 (ix x2)) = 0 then bi (fX12_feeOf x2 x1 h) (fun w2 h1 => lt w2 (fun v3 => bi (fX12_writer x2 h1) (fun w5 h4 => (if (((h1.1 0 69) >>> (w5 &&& 31)) &&& 1) = 0 then ck (inb x1 60) (ck (inb x1 60) (lt (wI h4 49 (ix x1) ((h4.1 49 (ix x1)) + v3)) (fun h11 => bX12_pays_124 r2 x1 x2 h11))) else ck (inb x2 10) ((if v3 ≤ (h4.1 46 (ix x2)) then ck (inb x1 60) (ck (inb x1 60) (lt (wI h4 49 (ix x1) ((h4.1 49 (ix x1)) + v3)) (fun h6 => ck (inb x2 10) (ck (inb x2 10) (lt (wI h6 46 (ix x2) ((h6.1 46 (ix x2)) - v3)) (fun h7 => bX12_pays_124 r2 x1 x2 h7)))))) else ck (inb x1 60) (ck (inb x2 10) (ck (inb x1 60) (lt (wI h4 49 (ix x1) ((h4.1 49 (ix x1)) + (h4.1 46 (ix x2)))) (fun h8 => ck (inb x2 10) (lt (wI h8 46 (ix x2) 0) (fun h9 => bv (fX12_becomes x2 5 x1 h9) (fun h10 => bX12_pays_124 r2 x1 x2 h10))))))))))))) else bX12_pays_124 r2 x1 x2 h))))
def lX12_pays_2   : Nat → Int32 → Int32 → Hp → Option (Hp)
  | 0 => fun _ _ _ => none
  | n + 1 => bX12_pays_2   (lX12_pays_2   n)
set_option maxRecDepth 20000 in
theorem BX12_pays_2 {Z : ZT} {G : GT} {hr : Hp} (X : CX Z G cX12_pays RX12 4 3) (E : RX Z G none (none) hr) (hz : HZM Z)  (r2 : Int32 → Int32 → Hp → Option (Hp)) (hr2 : ∀ (x1 : Int32) (x2 : Int32) (h : Hp), r2 x1 x2 h = some hr → J Z G 4 h 2 [(0, .ref (Z.2.1 0)), (1, .int x1), (2, .int x2)] []) (x1 : Int32) (x2 : Int32) (h : Hp) (hF : bX12_pays_2   r2 x1 x2 h = some hr) : J Z G 4 h 2 [(0, .ref (Z.2.1 0)), (1, .int x1), (2, .int x2)] [] := by
  unfold bX12_pays_2 at hF
  refine j_iload_n (pc := 2) 2 X dX12_pays_2 rfl ?_
  refine j_aload_n (pc := 3) 0 X dX12_pays_3 rfl ?_
  refine j_getr (pc := 4) X dX12_pays_4 (hz _ sh_0) fl_X12_67 rfl ?_
  refine j_aload_n (pc := 7) 0 X dX12_pays_7 rfl ?_
  refine j_geti (pc := 8) X dX12_pays_8 (hz _ sh_0) fl_X12_284 rfl ?_
  refine j_iald (pc := 11) X dX12_pays_11 (hz _ sh_17) hF (fun hF => ?_)
  refine j_icmp_ge (pc := 12) 130 X dX12_pays_12 rfl hF (fun hF => ?_) (fun hF => ?_)
  · exact j_vret (pc := 130) X E dX12_pays_130 hF
  · refine j_aload_n (pc := 15) 0 X dX12_pays_15 rfl ?_
    refine j_getr (pc := 16) X dX12_pays_16 (hz _ sh_0) fl_X12_149 rfl ?_
    refine j_iload_n (pc := 19) 2 X dX12_pays_19 rfl ?_
    refine j_iald (pc := 20) X dX12_pays_20 (hz _ sh_44) hF (fun hF => ?_)
    refine j_if_eq (pc := 21) 27 X dX12_pays_21 rfl hF (fun hF => ?_) (fun hF => ?_)
    · refine j_aload_n (pc := 27) 0 X dX12_pays_27 rfl ?_
      refine j_iload_n (pc := 28) 2 X dX12_pays_28 rfl ?_
      refine j_iload_n (pc := 29) 1 X dX12_pays_29 rfl ?_
      refine j_cVi (pc := 30) (As := [.int x2, .int x1]) (rest := []) X dX12_pays_30 ml_X12_418 ck_X12_feeOf cv_X12_feeOf (hz _ sh_0) rfl (Nat.le_of_ble_eq_true rfl) rfl (Nat.le_of_ble_eq_true rfl) rfl hF (tX12_feeOf Z x2 x1 hz h) (fun w2 h1 hF => ?_)
      refine j_istore_n (pc := 33) (fun y => [(3, .int y), (0, .ref (Z.2.1 0)), (1, .int x1), (2, .int x2)]) X dX12_pays_33 (by decide) (fun _ => rfl) hF (fun v3 hF => ?_)
      refine j_aload_n (pc := 34) 1 X dX12_pays_34 rfl ?_
      refine j_geti (pc := 35) X dX12_pays_35 (hz _ sh_0) fl_X12_441 rfl ?_
      refine j_aload_n (pc := 38) 1 X dX12_pays_38 rfl ?_
      refine j_iload_n (pc := 39) 3 X dX12_pays_39 rfl ?_
      refine j_cVi (pc := 40) (As := [.int x2]) (rest := [.int (h1.1 0 69)]) X dX12_pays_40 ml_X12_403 ck_X12_writer cv_X12_writer (hz _ sh_0) rfl (Nat.le_of_ble_eq_true rfl) rfl (Nat.le_of_ble_eq_true rfl) rfl hF (tX12_writer Z x2 hz h1) (fun w5 h4 hF => ?_)
      refine j_ishr (pc := 43) X dX12_pays_43 ?_
      refine j_iconst (pc := 44) 1 X dX12_pays_44 rfl ?_
      refine j_iand (pc := 45) X dX12_pays_45 ?_
      refine j_if_ne (pc := 46) 62 X dX12_pays_46 rfl hF (fun hF => ?_) (fun hF => ?_)
      · refine j_aload_n (pc := 62) 1 X dX12_pays_62 rfl ?_
        refine j_getr (pc := 63) X dX12_pays_63 (hz _ sh_0) fl_X12_155 rfl ?_
        refine j_iload_n (pc := 66) 3 X dX12_pays_66 rfl ?_
        refine j_iald (pc := 67) X dX12_pays_67 (hz _ sh_46) hF (fun hF => ?_)
        refine j_iload_n (pc := 68) 0 X dX12_pays_68 rfl ?_
        refine j_icmp_ge (pc := 69) 104 X dX12_pays_69 rfl hF (fun hF => ?_) (fun hF => ?_)
        · refine j_aload_n (pc := 104) 1 X dX12_pays_104 rfl ?_
          refine j_getr (pc := 105) X dX12_pays_105 (hz _ sh_0) fl_X12_164 rfl ?_
          refine j_iload_n (pc := 108) 2 X dX12_pays_108 rfl ?_
          refine j_dup2 (pc := 109) X dX12_pays_109 rfl rfl ?_
          refine j_iald (pc := 110) X dX12_pays_110 (hz _ sh_49) hF (fun hF => ?_)
          refine j_iload_n (pc := 111) 0 X dX12_pays_111 rfl ?_
          refine j_iadd (pc := 112) X dX12_pays_112 ?_
          refine j_iast (pc := 113) X dX12_pays_113 (hz _ sh_49) hF (fun h6 hF => ?_)
          refine j_aload_n (pc := 114) 1 X dX12_pays_114 rfl ?_
          refine j_getr (pc := 115) X dX12_pays_115 (hz _ sh_0) fl_X12_155 rfl ?_
          refine j_iload_n (pc := 118) 3 X dX12_pays_118 rfl ?_
          refine j_dup2 (pc := 119) X dX12_pays_119 rfl rfl ?_
          refine j_iald (pc := 120) X dX12_pays_120 (hz _ sh_46) hF (fun hF => ?_)
          refine j_iload_n (pc := 121) 0 X dX12_pays_121 rfl ?_
          refine j_isub (pc := 122) X dX12_pays_122 ?_
          refine j_iast (pc := 123) X dX12_pays_123 (hz _ sh_46) hF (fun h7 hF => ?_)
          refine j_lv [(0, .ref (Z.2.1 0)), (1, .int x1), (2, .int x2)] [1, 2, 3] rfl ?_
          exact BX12_pays_124 X E hz r2 hr2 x1 x2 h7 hF
        · refine j_aload_n (pc := 72) 1 X dX12_pays_72 rfl ?_
          refine j_getr (pc := 73) X dX12_pays_73 (hz _ sh_0) fl_X12_164 rfl ?_
          refine j_iload_n (pc := 76) 2 X dX12_pays_76 rfl ?_
          refine j_dup2 (pc := 77) X dX12_pays_77 rfl rfl ?_
          refine j_iald (pc := 78) X dX12_pays_78 (hz _ sh_49) hF (fun hF => ?_)
          refine j_aload_n (pc := 79) 1 X dX12_pays_79 rfl ?_
          refine j_getr (pc := 80) X dX12_pays_80 (hz _ sh_0) fl_X12_155 rfl ?_
          refine j_iload_n (pc := 83) 3 X dX12_pays_83 rfl ?_
          refine j_iald (pc := 84) X dX12_pays_84 (hz _ sh_46) hF (fun hF => ?_)
          refine j_iadd (pc := 85) X dX12_pays_85 ?_
          refine j_iast (pc := 86) X dX12_pays_86 (hz _ sh_49) hF (fun h8 hF => ?_)
          refine j_aload_n (pc := 87) 1 X dX12_pays_87 rfl ?_
          refine j_getr (pc := 88) X dX12_pays_88 (hz _ sh_0) fl_X12_155 rfl ?_
          refine j_iload_n (pc := 91) 3 X dX12_pays_91 rfl ?_
          refine j_iconst (pc := 92) 0 X dX12_pays_92 rfl ?_
          refine j_iast (pc := 93) X dX12_pays_93 (hz _ sh_46) hF (fun h9 hF => ?_)
          refine j_aload_n (pc := 94) 1 X dX12_pays_94 rfl ?_
          refine j_iload_n (pc := 95) 3 X dX12_pays_95 rfl ?_
          refine j_iconst (pc := 96) 5 X dX12_pays_96 rfl ?_
          refine j_iload_n (pc := 97) 2 X dX12_pays_97 rfl ?_
          refine j_cVv (pc := 98) (As := [.int x2, .int 5, .int x1]) (rest := []) X dX12_pays_98 ml_X12_453 ck_X12_becomes cv_X12_becomes (hz _ sh_0) rfl (Nat.le_of_ble_eq_true rfl) rfl (Nat.le_of_ble_eq_true rfl) rfl hF (tX12_becomes Z x2 5 x1 hz h9) (fun h10 hF => ?_)
          refine j_goto (pc := 101) 124 X dX12_pays_101 rfl ?_
          refine j_lv [(0, .ref (Z.2.1 0)), (1, .int x1), (2, .int x2)] [1, 2, 3] rfl ?_
          exact BX12_pays_124 X E hz r2 hr2 x1 x2 h10 hF
      · refine j_aload_n (pc := 49) 1 X dX12_pays_49 rfl ?_
        refine j_getr (pc := 50) X dX12_pays_50 (hz _ sh_0) fl_X12_164 rfl ?_
        refine j_iload_n (pc := 53) 2 X dX12_pays_53 rfl ?_
        refine j_dup2 (pc := 54) X dX12_pays_54 rfl rfl ?_
        refine j_iald (pc := 55) X dX12_pays_55 (hz _ sh_49) hF (fun hF => ?_)
        refine j_iload_n (pc := 56) 0 X dX12_pays_56 rfl ?_
        refine j_iadd (pc := 57) X dX12_pays_57 ?_
        refine j_iast (pc := 58) X dX12_pays_58 (hz _ sh_49) hF (fun h11 hF => ?_)
        refine j_goto (pc := 59) 124 X dX12_pays_59 rfl ?_
        refine j_lv [(0, .ref (Z.2.1 0)), (1, .int x1), (2, .int x2)] [1, 2, 3] rfl ?_
        exact BX12_pays_124 X E hz r2 hr2 x1 x2 h11 hF
    · refine j_goto (pc := 24) 124 X dX12_pays_24 rfl ?_
      exact BX12_pays_124 X E hz r2 hr2 x1 x2 h hF
theorem LX12_pays_2 {Z : ZT} {G : GT} {hr : Hp} (X : CX Z G cX12_pays RX12 4 3) (E : RX Z G none (none) hr) (hz : HZM Z)  : ∀ (n : Nat) (x1 : Int32) (x2 : Int32) (h : Hp), lX12_pays_2   n x1 x2 h = some hr → J Z G 4 h 2 [(0, .ref (Z.2.1 0)), (1, .int x1), (2, .int x2)] [] := by
  intro n
  induction n with
  | zero => intro x1 x2 h hF; cases hF
  | succ n ih => intro x1 x2 h hF; exact BX12_pays_2 X E hz  (lX12_pays_2   n) ih x1 x2 h hF
def fX12_pays (a1 : Int32) (h : Hp) : Option (Hp) := lt 0 (fun v1 => lX12_pays_2 FU a1 v1 h)
set_option maxRecDepth 20000 in
theorem tX12_pays (Z : ZT) (a1 : Int32) (hz : HZM Z) (h : Hp) (hr : Hp) (hF : fX12_pays a1 h = some hr) : MC Z yX12_pays cX12_pays 4 none 3 [.ref (Z.2.1 0), .int a1] h (none) hr := by
  unfold fX12_pays at hF
  refine mc_start (by decide) (Nat.le_of_ble_eq_true rfl) (fun G X E => ?_)
  refine j_iconst (pc := 0) 0 X dX12_pays_0 rfl ?_
  refine j_istore_n (pc := 1) (fun y => [(2, .int y), (0, .ref (Z.2.1 0)), (1, .int a1)]) X dX12_pays_1 (by decide) (fun _ => rfl) hF (fun v1 hF => ?_)
  refine j_lv [(0, .ref (Z.2.1 0)), (1, .int a1), (2, .int v1)] [1, 2, 0] rfl ?_
  exact LX12_pays_2 X E hz FU a1 v1 h hF
theorem dX12_isDue_0 : decode cX12_isDue 0 = .ok (.aload_n 0, 1) := by decide +kernel
theorem dX12_isDue_1 : decode cX12_isDue 1 = .ok (.getfield 149, 3) := by decide +kernel
theorem dX12_isDue_4 : decode cX12_isDue 4 = .ok (.iload_n 1, 1) := by decide +kernel
theorem dX12_isDue_5 : decode cX12_isDue 5 = .ok (.iaload, 1) := by decide +kernel
theorem dX12_isDue_6 : decode cX12_isDue 6 = .ok (.ifCond .ne 58, 3) := by decide +kernel
theorem dX12_isDue_9 : decode cX12_isDue 9 = .ok (.aload_n 0, 1) := by decide +kernel
theorem dX12_isDue_10 : decode cX12_isDue 10 = .ok (.iload_n 1, 1) := by decide +kernel
theorem dX12_isDue_11 : decode cX12_isDue 11 = .ok (.iload_n 2, 1) := by decide +kernel
theorem dX12_isDue_12 : decode cX12_isDue 12 = .ok (.aload_n 0, 1) := by decide +kernel
theorem dX12_isDue_13 : decode cX12_isDue 13 = .ok (.getfield 441, 3) := by decide +kernel
theorem dX12_isDue_16 : decode cX12_isDue 16 = .ok (.aload_n 0, 1) := by decide +kernel
theorem dX12_isDue_17 : decode cX12_isDue 17 = .ok (.getfield 444, 3) := by decide +kernel
theorem dX12_isDue_20 : decode cX12_isDue 20 = .ok (.invokevirtual 456, 3) := by decide +kernel
theorem dX12_isDue_23 : decode cX12_isDue 23 = .ok (.ifCond .eq 41, 3) := by decide +kernel
theorem dX12_isDue_26 : decode cX12_isDue 26 = .ok (.aload_n 0, 1) := by decide +kernel
theorem dX12_isDue_27 : decode cX12_isDue 27 = .ok (.getfield 158, 3) := by decide +kernel
theorem dX12_isDue_30 : decode cX12_isDue 30 = .ok (.iload_n 1, 1) := by decide +kernel
theorem dX12_isDue_31 : decode cX12_isDue 31 = .ok (.iaload, 1) := by decide +kernel
theorem dX12_isDue_32 : decode cX12_isDue 32 = .ok (.iload_n 2, 1) := by decide +kernel
theorem dX12_isDue_33 : decode cX12_isDue 33 = .ok (.if_icmp .gt 31, 3) := by decide +kernel
theorem dX12_isDue_36 : decode cX12_isDue 36 = .ok (.aload_n 0, 1) := by decide +kernel
theorem dX12_isDue_37 : decode cX12_isDue 37 = .ok (.getfield 441, 3) := by decide +kernel
theorem dX12_isDue_40 : decode cX12_isDue 40 = .ok (.aload_n 0, 1) := by decide +kernel
theorem dX12_isDue_41 : decode cX12_isDue 41 = .ok (.iload_n 1, 1) := by decide +kernel
theorem dX12_isDue_42 : decode cX12_isDue 42 = .ok (.invokevirtual 406, 3) := by decide +kernel
theorem dX12_isDue_45 : decode cX12_isDue 45 = .ok (.ishr, 1) := by decide +kernel
theorem dX12_isDue_46 : decode cX12_isDue 46 = .ok (.iconst 1, 1) := by decide +kernel
theorem dX12_isDue_47 : decode cX12_isDue 47 = .ok (.iand, 1) := by decide +kernel
theorem dX12_isDue_48 : decode cX12_isDue 48 = .ok (.ifCond .ne 16, 3) := by decide +kernel
theorem dX12_isDue_51 : decode cX12_isDue 51 = .ok (.aload_n 0, 1) := by decide +kernel
theorem dX12_isDue_52 : decode cX12_isDue 52 = .ok (.iload_n 1, 1) := by decide +kernel
theorem dX12_isDue_53 : decode cX12_isDue 53 = .ok (.iload_n 2, 1) := by decide +kernel
theorem dX12_isDue_54 : decode cX12_isDue 54 = .ok (.invokevirtual 463, 3) := by decide +kernel
theorem dX12_isDue_57 : decode cX12_isDue 57 = .ok (.ifCond .ne 7, 3) := by decide +kernel
theorem dX12_isDue_60 : decode cX12_isDue 60 = .ok (.iconst 1, 1) := by decide +kernel
theorem dX12_isDue_61 : decode cX12_isDue 61 = .ok (.goto 4, 3) := by decide +kernel
theorem dX12_isDue_64 : decode cX12_isDue 64 = .ok (.iconst 0, 1) := by decide +kernel
theorem dX12_isDue_65 : decode cX12_isDue 65 = .ok (.ireturn, 1) := by decide +kernel
def fX12_isDue (a1 : Int32) (a2 : Int32) (h : Hp) : Option (Int32 × Hp) := ck (inb a1 10) ((if (h.1 44 (ix a1)) = 0 then bi (fX12_holdsFor a1 a2 (h.1 0 69) (h.1 0 70) h) (fun w2 h1 => (if w2 = 0 then ck (zb 0) (some (0, h1)) else ck (inb a1 10) ((if a2 < (h1.1 47 (ix a1)) then ck (zb 0) (some (0, h1)) else bi (fX12_reader a1 h1) (fun w4 h3 => (if (((h1.1 0 69) >>> (w4 &&& 31)) &&& 1) = 0 then bi (fX12_isClerkBarred a1 a2 h3) (fun w6 h5 => (if w6 = 0 then ck (zb 1) (some (1, h5)) else ck (zb 0) (some (0, h5)))) else ck (zb 0) (some (0, h3)))))))) else ck (zb 0) (some (0, h))))
set_option maxRecDepth 20000 in
theorem tX12_isDue (Z : ZT) (a1 : Int32) (a2 : Int32) (hz : HZM Z) (h : Hp) (r : Int32) (hr : Hp) (hF : fX12_isDue a1 a2 h = some (r, hr)) : MC Z yX12_isDue cX12_isDue 3 (some .boolean) 4 [.ref (Z.2.1 0), .int a1, .int a2] h (some (.int r)) hr := by
  unfold fX12_isDue at hF
  refine mc_start (by decide) (Nat.le_of_ble_eq_true rfl) (fun G X E => ?_)
  refine j_aload_n (pc := 0) 0 X dX12_isDue_0 rfl ?_
  refine j_getr (pc := 1) X dX12_isDue_1 (hz _ sh_0) fl_X12_149 rfl ?_
  refine j_iload_n (pc := 4) 1 X dX12_isDue_4 rfl ?_
  refine j_iald (pc := 5) X dX12_isDue_5 (hz _ sh_44) hF (fun hF => ?_)
  refine j_if_ne (pc := 6) 64 X dX12_isDue_6 rfl hF (fun hF => ?_) (fun hF => ?_)
  · refine j_iconst (pc := 64) 0 X dX12_isDue_64 rfl ?_
    exact j_zret (pc := 65) X E dX12_isDue_65 hF
  · refine j_aload_n (pc := 9) 0 X dX12_isDue_9 rfl ?_
    refine j_iload_n (pc := 10) 1 X dX12_isDue_10 rfl ?_
    refine j_iload_n (pc := 11) 2 X dX12_isDue_11 rfl ?_
    refine j_aload_n (pc := 12) 0 X dX12_isDue_12 rfl ?_
    refine j_geti (pc := 13) X dX12_isDue_13 (hz _ sh_0) fl_X12_441 rfl ?_
    refine j_aload_n (pc := 16) 0 X dX12_isDue_16 rfl ?_
    refine j_geti (pc := 17) X dX12_isDue_17 (hz _ sh_0) fl_X12_444 rfl ?_
    refine j_cVi (pc := 20) (As := [.int a1, .int a2, .int (h.1 0 69), .int (h.1 0 70)]) (rest := []) X dX12_isDue_20 ml_X12_456 ck_X12_holdsFor cv_X12_holdsFor (hz _ sh_0) rfl (Nat.le_of_ble_eq_true rfl) rfl (Nat.le_of_ble_eq_true rfl) rfl hF (tX12_holdsFor Z a1 a2 (h.1 0 69) (h.1 0 70) hz h) (fun w2 h1 hF => ?_)
    refine j_if_eq (pc := 23) 64 X dX12_isDue_23 rfl hF (fun hF => ?_) (fun hF => ?_)
    · refine j_iconst (pc := 64) 0 X dX12_isDue_64 rfl ?_
      exact j_zret (pc := 65) X E dX12_isDue_65 hF
    · refine j_aload_n (pc := 26) 0 X dX12_isDue_26 rfl ?_
      refine j_getr (pc := 27) X dX12_isDue_27 (hz _ sh_0) fl_X12_158 rfl ?_
      refine j_iload_n (pc := 30) 1 X dX12_isDue_30 rfl ?_
      refine j_iald (pc := 31) X dX12_isDue_31 (hz _ sh_47) hF (fun hF => ?_)
      refine j_iload_n (pc := 32) 2 X dX12_isDue_32 rfl ?_
      refine j_icmp_gt (pc := 33) 64 X dX12_isDue_33 rfl hF (fun hF => ?_) (fun hF => ?_)
      · refine j_iconst (pc := 64) 0 X dX12_isDue_64 rfl ?_
        exact j_zret (pc := 65) X E dX12_isDue_65 hF
      · refine j_aload_n (pc := 36) 0 X dX12_isDue_36 rfl ?_
        refine j_geti (pc := 37) X dX12_isDue_37 (hz _ sh_0) fl_X12_441 rfl ?_
        refine j_aload_n (pc := 40) 0 X dX12_isDue_40 rfl ?_
        refine j_iload_n (pc := 41) 1 X dX12_isDue_41 rfl ?_
        refine j_cVi (pc := 42) (As := [.int a1]) (rest := [.int (h1.1 0 69)]) X dX12_isDue_42 ml_X12_406 ck_X12_reader cv_X12_reader (hz _ sh_0) rfl (Nat.le_of_ble_eq_true rfl) rfl (Nat.le_of_ble_eq_true rfl) rfl hF (tX12_reader Z a1 hz h1) (fun w4 h3 hF => ?_)
        refine j_ishr (pc := 45) X dX12_isDue_45 ?_
        refine j_iconst (pc := 46) 1 X dX12_isDue_46 rfl ?_
        refine j_iand (pc := 47) X dX12_isDue_47 ?_
        refine j_if_ne (pc := 48) 64 X dX12_isDue_48 rfl hF (fun hF => ?_) (fun hF => ?_)
        · refine j_iconst (pc := 64) 0 X dX12_isDue_64 rfl ?_
          exact j_zret (pc := 65) X E dX12_isDue_65 hF
        · refine j_aload_n (pc := 51) 0 X dX12_isDue_51 rfl ?_
          refine j_iload_n (pc := 52) 1 X dX12_isDue_52 rfl ?_
          refine j_iload_n (pc := 53) 2 X dX12_isDue_53 rfl ?_
          refine j_cVi (pc := 54) (As := [.int a1, .int a2]) (rest := []) X dX12_isDue_54 ml_X12_463 ck_X12_isClerkBarred cv_X12_isClerkBarred (hz _ sh_0) rfl (Nat.le_of_ble_eq_true rfl) rfl (Nat.le_of_ble_eq_true rfl) rfl hF (tX12_isClerkBarred Z a1 a2 hz h3) (fun w6 h5 hF => ?_)
          refine j_if_ne (pc := 57) 64 X dX12_isDue_57 rfl hF (fun hF => ?_) (fun hF => ?_)
          · refine j_iconst (pc := 64) 0 X dX12_isDue_64 rfl ?_
            exact j_zret (pc := 65) X E dX12_isDue_65 hF
          · refine j_iconst (pc := 60) 1 X dX12_isDue_60 rfl ?_
            refine j_goto (pc := 61) 65 X dX12_isDue_61 rfl ?_
            exact j_zret (pc := 65) X E dX12_isDue_65 hF
theorem dX12_looksNow_0 : decode cX12_looksNow 0 = .ok (.aload_n 0, 1) := by decide +kernel
theorem dX12_looksNow_1 : decode cX12_looksNow 1 = .ok (.iconst 0, 1) := by decide +kernel
theorem dX12_looksNow_2 : decode cX12_looksNow 2 = .ok (.putfield 450, 3) := by decide +kernel
theorem dX12_looksNow_5 : decode cX12_looksNow 5 = .ok (.iconst 1, 1) := by decide +kernel
theorem dX12_looksNow_6 : decode cX12_looksNow 6 = .ok (.istore_n 2, 1) := by decide +kernel
theorem dX12_looksNow_7 : decode cX12_looksNow 7 = .ok (.iload_n 2, 1) := by decide +kernel
theorem dX12_looksNow_8 : decode cX12_looksNow 8 = .ok (.ifCond .eq 74, 3) := by decide +kernel
theorem dX12_looksNow_11 : decode cX12_looksNow 11 = .ok (.iconst 0, 1) := by decide +kernel
theorem dX12_looksNow_12 : decode cX12_looksNow 12 = .ok (.istore_n 2, 1) := by decide +kernel
theorem dX12_looksNow_13 : decode cX12_looksNow 13 = .ok (.iconst 0, 1) := by decide +kernel
theorem dX12_looksNow_14 : decode cX12_looksNow 14 = .ok (.istore_n 3, 1) := by decide +kernel
theorem dX12_looksNow_15 : decode cX12_looksNow 15 = .ok (.iload_n 3, 1) := by decide +kernel
theorem dX12_looksNow_16 : decode cX12_looksNow 16 = .ok (.aload_n 0, 1) := by decide +kernel
theorem dX12_looksNow_17 : decode cX12_looksNow 17 = .ok (.getfield 67, 3) := by decide +kernel
theorem dX12_looksNow_20 : decode cX12_looksNow 20 = .ok (.aload_n 0, 1) := by decide +kernel
theorem dX12_looksNow_21 : decode cX12_looksNow 21 = .ok (.getfield 284, 3) := by decide +kernel
theorem dX12_looksNow_24 : decode cX12_looksNow 24 = .ok (.iaload, 1) := by decide +kernel
theorem dX12_looksNow_25 : decode cX12_looksNow 25 = .ok (.if_icmp .ge 54, 3) := by decide +kernel
theorem dX12_looksNow_28 : decode cX12_looksNow 28 = .ok (.iload_n 2, 1) := by decide +kernel
theorem dX12_looksNow_29 : decode cX12_looksNow 29 = .ok (.ifCond .ne 50, 3) := by decide +kernel
theorem dX12_looksNow_32 : decode cX12_looksNow 32 = .ok (.aload_n 0, 1) := by decide +kernel
theorem dX12_looksNow_33 : decode cX12_looksNow 33 = .ok (.iload_n 3, 1) := by decide +kernel
theorem dX12_looksNow_34 : decode cX12_looksNow 34 = .ok (.iload_n 1, 1) := by decide +kernel
theorem dX12_looksNow_35 : decode cX12_looksNow 35 = .ok (.invokevirtual 466, 3) := by decide +kernel
theorem dX12_looksNow_38 : decode cX12_looksNow 38 = .ok (.ifCond .ne 6, 3) := by decide +kernel
theorem dX12_looksNow_41 : decode cX12_looksNow 41 = .ok (.goto 32, 3) := by decide +kernel
theorem dX12_looksNow_44 : decode cX12_looksNow 44 = .ok (.aload_n 0, 1) := by decide +kernel
theorem dX12_looksNow_45 : decode cX12_looksNow 45 = .ok (.iload_n 3, 1) := by decide +kernel
theorem dX12_looksNow_46 : decode cX12_looksNow 46 = .ok (.iconst 1, 1) := by decide +kernel
theorem dX12_looksNow_47 : decode cX12_looksNow 47 = .ok (.iload_n 1, 1) := by decide +kernel
theorem dX12_looksNow_48 : decode cX12_looksNow 48 = .ok (.invokevirtual 453, 3) := by decide +kernel
theorem dX12_looksNow_51 : decode cX12_looksNow 51 = .ok (.aload_n 0, 1) := by decide +kernel
theorem dX12_looksNow_52 : decode cX12_looksNow 52 = .ok (.getfield 167, 3) := by decide +kernel
theorem dX12_looksNow_55 : decode cX12_looksNow 55 = .ok (.aload_n 0, 1) := by decide +kernel
theorem dX12_looksNow_56 : decode cX12_looksNow 56 = .ok (.getfield 450, 3) := by decide +kernel
theorem dX12_looksNow_59 : decode cX12_looksNow 59 = .ok (.iload_n 3, 1) := by decide +kernel
theorem dX12_looksNow_60 : decode cX12_looksNow 60 = .ok (.iastore, 1) := by decide +kernel
theorem dX12_looksNow_61 : decode cX12_looksNow 61 = .ok (.aload_n 0, 1) := by decide +kernel
theorem dX12_looksNow_62 : decode cX12_looksNow 62 = .ok (.dup, 1) := by decide +kernel
theorem dX12_looksNow_63 : decode cX12_looksNow 63 = .ok (.getfield 450, 3) := by decide +kernel
theorem dX12_looksNow_66 : decode cX12_looksNow 66 = .ok (.iconst 1, 1) := by decide +kernel
theorem dX12_looksNow_67 : decode cX12_looksNow 67 = .ok (.iadd, 1) := by decide +kernel
theorem dX12_looksNow_68 : decode cX12_looksNow 68 = .ok (.putfield 450, 3) := by decide +kernel
theorem dX12_looksNow_71 : decode cX12_looksNow 71 = .ok (.iconst 1, 1) := by decide +kernel
theorem dX12_looksNow_72 : decode cX12_looksNow 72 = .ok (.istore_n 2, 1) := by decide +kernel
theorem dX12_looksNow_73 : decode cX12_looksNow 73 = .ok (.iinc 3 1, 3) := by decide +kernel
theorem dX12_looksNow_76 : decode cX12_looksNow 76 = .ok (.goto (-61), 3) := by decide +kernel
theorem dX12_looksNow_79 : decode cX12_looksNow 79 = .ok (.goto (-72), 3) := by decide +kernel
theorem dX12_looksNow_82 : decode cX12_looksNow 82 = .ok (.return_, 1) := by decide +kernel
def bX12_looksNow_73  (r7 : Int32 → Int32 → Hp → Option (Hp)) (r15 : Int32 → Int32 → Int32 → Hp → Option (Hp)) (x1 : Int32) (x2 : Int32) (x3 : Int32) (h : Hp) : Option (Hp) := lt (x3 + 1) (fun v1 => r15 x1 x2 v1 h)
set_option maxRecDepth 20000 in
theorem BX12_looksNow_73 {Z : ZT} {G : GT} {hr : Hp} (X : CX Z G cX12_looksNow RX12 4 5) (E : RX Z G none (none) hr) (hz : HZM Z) (r7 : Int32 → Int32 → Hp → Option (Hp)) (hr7 : ∀ (x1 : Int32) (x2 : Int32) (h : Hp), r7 x1 x2 h = some hr → J Z G 4 h 7 [(0, .ref (Z.2.1 0)), (1, .int x1), (2, .int x2)] []) (r15 : Int32 → Int32 → Int32 → Hp → Option (Hp)) (hr15 : ∀ (x1 : Int32) (x2 : Int32) (x3 : Int32) (h : Hp), r15 x1 x2 x3 h = some hr → J Z G 4 h 15 [(0, .ref (Z.2.1 0)), (1, .int x1), (2, .int x2), (3, .int x3)] []) (x1 : Int32) (x2 : Int32) (x3 : Int32) (h : Hp) (hF : bX12_looksNow_73  r7 r15 x1 x2 x3 h = some hr) : J Z G 4 h 73 [(0, .ref (Z.2.1 0)), (1, .int x1), (2, .int x2), (3, .int x3)] [] := by
  unfold bX12_looksNow_73 at hF
  refine j_iinc (pc := 73) 3 (x3 + 1) (fun y => [(3, .int y), (0, .ref (Z.2.1 0)), (1, .int x1), (2, .int x2)]) X dX12_looksNow_73 rfl rfl (by decide) (fun _ => rfl) hF (fun v1 hF => ?_)
  refine j_goto (pc := 76) 15 X dX12_looksNow_76 rfl ?_
  refine j_lv [(0, .ref (Z.2.1 0)), (1, .int x1), (2, .int x2), (3, .int v1)] [1, 2, 3, 0] rfl ?_
  exact hr15 x1 x2 v1 h hF
def bX12_looksNow_79  (r7 : Int32 → Int32 → Hp → Option (Hp)) (x1 : Int32) (x2 : Int32) (h : Hp) : Option (Hp) := r7 x1 x2 h
set_option maxRecDepth 20000 in
theorem BX12_looksNow_79 {Z : ZT} {G : GT} {hr : Hp} (X : CX Z G cX12_looksNow RX12 4 5) (E : RX Z G none (none) hr) (hz : HZM Z) (r7 : Int32 → Int32 → Hp → Option (Hp)) (hr7 : ∀ (x1 : Int32) (x2 : Int32) (h : Hp), r7 x1 x2 h = some hr → J Z G 4 h 7 [(0, .ref (Z.2.1 0)), (1, .int x1), (2, .int x2)] []) (x1 : Int32) (x2 : Int32) (h : Hp) (hF : bX12_looksNow_79  r7 x1 x2 h = some hr) : J Z G 4 h 79 [(0, .ref (Z.2.1 0)), (1, .int x1), (2, .int x2)] [] := by
  unfold bX12_looksNow_79 at hF
  refine j_goto (pc := 79) 7 X dX12_looksNow_79 rfl ?_
  exact hr7 x1 x2 h hF
def bX12_looksNow_15  (r7 : Int32 → Int32 → Hp → Option (Hp)) (r15 : Int32 → Int32 → Int32 → Hp → Option (Hp)) (x1 : Int32) (x2 : Int32) (x3 : Int32) (h : Hp) : Option (Hp) := ck (inb (h.1 0 18) 2) ((if (h.1 17 (ix (h.1 0 18))) ≤ x3 then bX12_looksNow_79 r7 x1 x2 h else (if x2 = 0 then bi (fX12_isDue x3 x1 h) (fun w2 h1 => (if w2 = 0 then bX12_looksNow_73 r7 r15 x1 x2 x3 h1 else bv (fX12_becomes x3 1 x1 h1) (fun h3 => ck (inb (h3.1 0 73) 10) (lt (wI h3 50 (ix (h3.1 0 73)) x3) (fun h4 => lt (wI h4 0 73 ((h4.1 0 73) + 1)) (fun h5 => lt 1 (fun v6 => bX12_looksNow_73 r7 r15 x1 v6 x3 h5))))))) else bX12_looksNow_79 r7 x1 x2 h)))
def lX12_looksNow_15  (r7 : Int32 → Int32 → Hp → Option (Hp)) : Nat → Int32 → Int32 → Int32 → Hp → Option (Hp)
  | 0 => fun _ _ _ _ => none
  | n + 1 => bX12_looksNow_15  r7 (lX12_looksNow_15  r7 n)
set_option maxRecDepth 20000 in
theorem BX12_looksNow_15 {Z : ZT} {G : GT} {hr : Hp} (X : CX Z G cX12_looksNow RX12 4 5) (E : RX Z G none (none) hr) (hz : HZM Z) (r7 : Int32 → Int32 → Hp → Option (Hp)) (hr7 : ∀ (x1 : Int32) (x2 : Int32) (h : Hp), r7 x1 x2 h = some hr → J Z G 4 h 7 [(0, .ref (Z.2.1 0)), (1, .int x1), (2, .int x2)] []) (r15 : Int32 → Int32 → Int32 → Hp → Option (Hp)) (hr15 : ∀ (x1 : Int32) (x2 : Int32) (x3 : Int32) (h : Hp), r15 x1 x2 x3 h = some hr → J Z G 4 h 15 [(0, .ref (Z.2.1 0)), (1, .int x1), (2, .int x2), (3, .int x3)] []) (x1 : Int32) (x2 : Int32) (x3 : Int32) (h : Hp) (hF : bX12_looksNow_15  r7 r15 x1 x2 x3 h = some hr) : J Z G 4 h 15 [(0, .ref (Z.2.1 0)), (1, .int x1), (2, .int x2), (3, .int x3)] [] := by
  unfold bX12_looksNow_15 at hF
  refine j_iload_n (pc := 15) 3 X dX12_looksNow_15 rfl ?_
  refine j_aload_n (pc := 16) 0 X dX12_looksNow_16 rfl ?_
  refine j_getr (pc := 17) X dX12_looksNow_17 (hz _ sh_0) fl_X12_67 rfl ?_
  refine j_aload_n (pc := 20) 0 X dX12_looksNow_20 rfl ?_
  refine j_geti (pc := 21) X dX12_looksNow_21 (hz _ sh_0) fl_X12_284 rfl ?_
  refine j_iald (pc := 24) X dX12_looksNow_24 (hz _ sh_17) hF (fun hF => ?_)
  refine j_icmp_ge (pc := 25) 79 X dX12_looksNow_25 rfl hF (fun hF => ?_) (fun hF => ?_)
  · refine j_lv [(0, .ref (Z.2.1 0)), (1, .int x1), (2, .int x2)] [0, 1, 2] rfl ?_
    exact BX12_looksNow_79 X E hz r7 hr7 x1 x2 h hF
  · refine j_iload_n (pc := 28) 2 X dX12_looksNow_28 rfl ?_
    refine j_if_ne (pc := 29) 79 X dX12_looksNow_29 rfl hF (fun hF => ?_) (fun hF => ?_)
    · refine j_lv [(0, .ref (Z.2.1 0)), (1, .int x1), (2, .int x2)] [0, 1, 2] rfl ?_
      exact BX12_looksNow_79 X E hz r7 hr7 x1 x2 h hF
    · refine j_aload_n (pc := 32) 0 X dX12_looksNow_32 rfl ?_
      refine j_iload_n (pc := 33) 3 X dX12_looksNow_33 rfl ?_
      refine j_iload_n (pc := 34) 1 X dX12_looksNow_34 rfl ?_
      refine j_cVi (pc := 35) (As := [.int x3, .int x1]) (rest := []) X dX12_looksNow_35 ml_X12_466 ck_X12_isDue cv_X12_isDue (hz _ sh_0) rfl (Nat.le_of_ble_eq_true rfl) rfl (Nat.le_of_ble_eq_true rfl) rfl hF (tX12_isDue Z x3 x1 hz h) (fun w2 h1 hF => ?_)
      refine j_if_ne (pc := 38) 44 X dX12_looksNow_38 rfl hF (fun hF => ?_) (fun hF => ?_)
      · refine j_aload_n (pc := 44) 0 X dX12_looksNow_44 rfl ?_
        refine j_iload_n (pc := 45) 3 X dX12_looksNow_45 rfl ?_
        refine j_iconst (pc := 46) 1 X dX12_looksNow_46 rfl ?_
        refine j_iload_n (pc := 47) 1 X dX12_looksNow_47 rfl ?_
        refine j_cVv (pc := 48) (As := [.int x3, .int 1, .int x1]) (rest := []) X dX12_looksNow_48 ml_X12_453 ck_X12_becomes cv_X12_becomes (hz _ sh_0) rfl (Nat.le_of_ble_eq_true rfl) rfl (Nat.le_of_ble_eq_true rfl) rfl hF (tX12_becomes Z x3 1 x1 hz h1) (fun h3 hF => ?_)
        refine j_aload_n (pc := 51) 0 X dX12_looksNow_51 rfl ?_
        refine j_getr (pc := 52) X dX12_looksNow_52 (hz _ sh_0) fl_X12_167 rfl ?_
        refine j_aload_n (pc := 55) 0 X dX12_looksNow_55 rfl ?_
        refine j_geti (pc := 56) X dX12_looksNow_56 (hz _ sh_0) fl_X12_450 rfl ?_
        refine j_iload_n (pc := 59) 3 X dX12_looksNow_59 rfl ?_
        refine j_iast (pc := 60) X dX12_looksNow_60 (hz _ sh_50) hF (fun h4 hF => ?_)
        refine j_aload_n (pc := 61) 0 X dX12_looksNow_61 rfl ?_
        refine j_dup (pc := 62) X dX12_looksNow_62 rfl ?_
        refine j_geti (pc := 63) X dX12_looksNow_63 (hz _ sh_0) fl_X12_450 rfl ?_
        refine j_iconst (pc := 66) 1 X dX12_looksNow_66 rfl ?_
        refine j_iadd (pc := 67) X dX12_looksNow_67 ?_
        refine j_puti (pc := 68) X dX12_looksNow_68 (hz _ sh_0) fp_X12_450 rfl hF (fun h5 hF => ?_)
        refine j_iconst (pc := 71) 1 X dX12_looksNow_71 rfl ?_
        refine j_istore_n (pc := 72) (fun y => [(2, .int y), (0, .ref (Z.2.1 0)), (1, .int x1), (3, .int x3)]) X dX12_looksNow_72 (by decide) (fun _ => rfl) hF (fun v6 hF => ?_)
        refine j_lv [(0, .ref (Z.2.1 0)), (1, .int x1), (2, .int v6), (3, .int x3)] [1, 2, 0, 3] rfl ?_
        exact BX12_looksNow_73 X E hz r7 hr7 r15 hr15 x1 v6 x3 h5 hF
      · refine j_goto (pc := 41) 73 X dX12_looksNow_41 rfl ?_
        exact BX12_looksNow_73 X E hz r7 hr7 r15 hr15 x1 x2 x3 h1 hF
theorem LX12_looksNow_15 {Z : ZT} {G : GT} {hr : Hp} (X : CX Z G cX12_looksNow RX12 4 5) (E : RX Z G none (none) hr) (hz : HZM Z) (r7 : Int32 → Int32 → Hp → Option (Hp)) (hr7 : ∀ (x1 : Int32) (x2 : Int32) (h : Hp), r7 x1 x2 h = some hr → J Z G 4 h 7 [(0, .ref (Z.2.1 0)), (1, .int x1), (2, .int x2)] []) : ∀ (n : Nat) (x1 : Int32) (x2 : Int32) (x3 : Int32) (h : Hp), lX12_looksNow_15  r7 n x1 x2 x3 h = some hr → J Z G 4 h 15 [(0, .ref (Z.2.1 0)), (1, .int x1), (2, .int x2), (3, .int x3)] [] := by
  intro n
  induction n with
  | zero => intro x1 x2 x3 h hF; cases hF
  | succ n ih => intro x1 x2 x3 h hF; exact BX12_looksNow_15 X E hz r7 hr7 (lX12_looksNow_15  r7 n) ih x1 x2 x3 h hF
def bX12_looksNow_7   (r7 : Int32 → Int32 → Hp → Option (Hp)) (x1 : Int32) (x2 : Int32) (h : Hp) : Option (Hp) := (if x2 = 0 then some h else lt 0 (fun v1 => lt 0 (fun v2 => lX12_looksNow_15 r7 FU x1 v1 v2 h)))
def lX12_looksNow_7   : Nat → Int32 → Int32 → Hp → Option (Hp)
  | 0 => fun _ _ _ => none
  | n + 1 => bX12_looksNow_7   (lX12_looksNow_7   n)
set_option maxRecDepth 20000 in
theorem BX12_looksNow_7 {Z : ZT} {G : GT} {hr : Hp} (X : CX Z G cX12_looksNow RX12 4 5) (E : RX Z G none (none) hr) (hz : HZM Z)  (r7 : Int32 → Int32 → Hp → Option (Hp)) (hr7 : ∀ (x1 : Int32) (x2 : Int32) (h : Hp), r7 x1 x2 h = some hr → J Z G 4 h 7 [(0, .ref (Z.2.1 0)), (1, .int x1), (2, .int x2)] []) (x1 : Int32) (x2 : Int32) (h : Hp) (hF : bX12_looksNow_7   r7 x1 x2 h = some hr) : J Z G 4 h 7 [(0, .ref (Z.2.1 0)), (1, .int x1), (2, .int x2)] [] := by
  unfold bX12_looksNow_7 at hF
  refine j_iload_n (pc := 7) 2 X dX12_looksNow_7 rfl ?_
  refine j_if_eq (pc := 8) 82 X dX12_looksNow_8 rfl hF (fun hF => ?_) (fun hF => ?_)
  · exact j_vret (pc := 82) X E dX12_looksNow_82 hF
  · refine j_iconst (pc := 11) 0 X dX12_looksNow_11 rfl ?_
    refine j_istore_n (pc := 12) (fun y => [(2, .int y), (0, .ref (Z.2.1 0)), (1, .int x1)]) X dX12_looksNow_12 (by decide) (fun _ => rfl) hF (fun v1 hF => ?_)
    refine j_iconst (pc := 13) 0 X dX12_looksNow_13 rfl ?_
    refine j_istore_n (pc := 14) (fun y => [(3, .int y), (2, .int v1), (0, .ref (Z.2.1 0)), (1, .int x1)]) X dX12_looksNow_14 (by decide) (fun _ => rfl) hF (fun v2 hF => ?_)
    refine j_lv [(0, .ref (Z.2.1 0)), (1, .int x1), (2, .int v1), (3, .int v2)] [2, 3, 1, 0] rfl ?_
    exact LX12_looksNow_15 X E hz r7 hr7 FU x1 v1 v2 h hF
theorem LX12_looksNow_7 {Z : ZT} {G : GT} {hr : Hp} (X : CX Z G cX12_looksNow RX12 4 5) (E : RX Z G none (none) hr) (hz : HZM Z)  : ∀ (n : Nat) (x1 : Int32) (x2 : Int32) (h : Hp), lX12_looksNow_7   n x1 x2 h = some hr → J Z G 4 h 7 [(0, .ref (Z.2.1 0)), (1, .int x1), (2, .int x2)] [] := by
  intro n
  induction n with
  | zero => intro x1 x2 h hF; cases hF
  | succ n ih => intro x1 x2 h hF; exact BX12_looksNow_7 X E hz  (lX12_looksNow_7   n) ih x1 x2 h hF
def fX12_looksNow (a1 : Int32) (h : Hp) : Option (Hp) := lt (wI h 0 73 0) (fun h1 => lt 1 (fun v2 => lX12_looksNow_7 FU a1 v2 h1))
set_option maxRecDepth 20000 in
theorem tX12_looksNow (Z : ZT) (a1 : Int32) (hz : HZM Z) (h : Hp) (hr : Hp) (hF : fX12_looksNow a1 h = some hr) : MC Z yX12_looksNow cX12_looksNow 4 none 5 [.ref (Z.2.1 0), .int a1] h (none) hr := by
  unfold fX12_looksNow at hF
  refine mc_start (by decide) (Nat.le_of_ble_eq_true rfl) (fun G X E => ?_)
  refine j_aload_n (pc := 0) 0 X dX12_looksNow_0 rfl ?_
  refine j_iconst (pc := 1) 0 X dX12_looksNow_1 rfl ?_
  refine j_puti (pc := 2) X dX12_looksNow_2 (hz _ sh_0) fp_X12_450 rfl hF (fun h1 hF => ?_)
  refine j_iconst (pc := 5) 1 X dX12_looksNow_5 rfl ?_
  refine j_istore_n (pc := 6) (fun y => [(2, .int y), (0, .ref (Z.2.1 0)), (1, .int a1)]) X dX12_looksNow_6 (by decide) (fun _ => rfl) hF (fun v2 hF => ?_)
  refine j_lv [(0, .ref (Z.2.1 0)), (1, .int a1), (2, .int v2)] [1, 2, 0] rfl ?_
  exact LX12_looksNow_7 X E hz FU a1 v2 h1 hF
theorem dX12_runs_0 : decode cX12_runs 0 = .ok (.aload_n 0, 1) := by decide +kernel
theorem dX12_runs_1 : decode cX12_runs 1 = .ok (.invokevirtual 469, 3) := by decide +kernel
theorem dX12_runs_4 : decode cX12_runs 4 = .ok (.iconst 0, 1) := by decide +kernel
theorem dX12_runs_5 : decode cX12_runs 5 = .ok (.istore 7, 2) := by decide +kernel
theorem dX12_runs_7 : decode cX12_runs 7 = .ok (.iload 7, 2) := by decide +kernel
theorem dX12_runs_9 : decode cX12_runs 9 = .ok (.iload_n 1, 1) := by decide +kernel
theorem dX12_runs_10 : decode cX12_runs 10 = .ok (.if_icmp .ge 23, 3) := by decide +kernel
theorem dX12_runs_13 : decode cX12_runs 13 = .ok (.aload_n 0, 1) := by decide +kernel
theorem dX12_runs_14 : decode cX12_runs 14 = .ok (.getfield 170, 3) := by decide +kernel
theorem dX12_runs_17 : decode cX12_runs 17 = .ok (.iload 7, 2) := by decide +kernel
theorem dX12_runs_19 : decode cX12_runs 19 = .ok (.aload_n 0, 1) := by decide +kernel
theorem dX12_runs_20 : decode cX12_runs 20 = .ok (.iload 7, 2) := by decide +kernel
theorem dX12_runs_22 : decode cX12_runs 22 = .ok (.iload_n 1, 1) := by decide +kernel
theorem dX12_runs_23 : decode cX12_runs 23 = .ok (.invokevirtual 432, 3) := by decide +kernel
theorem dX12_runs_26 : decode cX12_runs 26 = .ok (.bastore, 1) := by decide +kernel
theorem dX12_runs_27 : decode cX12_runs 27 = .ok (.iinc 7 1, 3) := by decide +kernel
theorem dX12_runs_30 : decode cX12_runs 30 = .ok (.goto (-23), 3) := by decide +kernel
theorem dX12_runs_33 : decode cX12_runs 33 = .ok (.iconst 0, 1) := by decide +kernel
theorem dX12_runs_34 : decode cX12_runs 34 = .ok (.istore 7, 2) := by decide +kernel
theorem dX12_runs_36 : decode cX12_runs 36 = .ok (.iload 7, 2) := by decide +kernel
theorem dX12_runs_38 : decode cX12_runs 38 = .ok (.iload 6, 2) := by decide +kernel
theorem dX12_runs_40 : decode cX12_runs 40 = .ok (.if_icmp .gt 98, 3) := by decide +kernel
theorem dX12_runs_43 : decode cX12_runs 43 = .ok (.iconst 0, 1) := by decide +kernel
theorem dX12_runs_44 : decode cX12_runs 44 = .ok (.istore 8, 2) := by decide +kernel
theorem dX12_runs_46 : decode cX12_runs 46 = .ok (.iload 8, 2) := by decide +kernel
theorem dX12_runs_48 : decode cX12_runs 48 = .ok (.iload_n 1, 1) := by decide +kernel
theorem dX12_runs_49 : decode cX12_runs 49 = .ok (.if_icmp .ge 39, 3) := by decide +kernel
theorem dX12_runs_52 : decode cX12_runs 52 = .ok (.aload_n 0, 1) := by decide +kernel
theorem dX12_runs_53 : decode cX12_runs 53 = .ok (.getfield 170, 3) := by decide +kernel
theorem dX12_runs_56 : decode cX12_runs 56 = .ok (.iload 8, 2) := by decide +kernel
theorem dX12_runs_58 : decode cX12_runs 58 = .ok (.baload, 1) := by decide +kernel
theorem dX12_runs_59 : decode cX12_runs 59 = .ok (.ifCond .eq 23, 3) := by decide +kernel
theorem dX12_runs_62 : decode cX12_runs 62 = .ok (.aload_n 0, 1) := by decide +kernel
theorem dX12_runs_63 : decode cX12_runs 63 = .ok (.getfield 140, 3) := by decide +kernel
theorem dX12_runs_66 : decode cX12_runs 66 = .ok (.iload 8, 2) := by decide +kernel
theorem dX12_runs_68 : decode cX12_runs 68 = .ok (.iaload, 1) := by decide +kernel
theorem dX12_runs_69 : decode cX12_runs 69 = .ok (.iload 7, 2) := by decide +kernel
theorem dX12_runs_71 : decode cX12_runs 71 = .ok (.if_icmp .ne 11, 3) := by decide +kernel
theorem dX12_runs_74 : decode cX12_runs 74 = .ok (.aload_n 0, 1) := by decide +kernel
theorem dX12_runs_75 : decode cX12_runs 75 = .ok (.iload 8, 2) := by decide +kernel
theorem dX12_runs_77 : decode cX12_runs 77 = .ok (.iload 5, 2) := by decide +kernel
theorem dX12_runs_79 : decode cX12_runs 79 = .ok (.invokevirtual 472, 3) := by decide +kernel
theorem dX12_runs_82 : decode cX12_runs 82 = .ok (.iinc 8 1, 3) := by decide +kernel
theorem dX12_runs_85 : decode cX12_runs 85 = .ok (.goto (-39), 3) := by decide +kernel
theorem dX12_runs_88 : decode cX12_runs 88 = .ok (.aload_n 0, 1) := by decide +kernel
theorem dX12_runs_89 : decode cX12_runs 89 = .ok (.iload 7, 2) := by decide +kernel
theorem dX12_runs_91 : decode cX12_runs 91 = .ok (.invokevirtual 476, 3) := by decide +kernel
theorem dX12_runs_94 : decode cX12_runs 94 = .ok (.aload_n 0, 1) := by decide +kernel
theorem dX12_runs_95 : decode cX12_runs 95 = .ok (.iconst 0, 1) := by decide +kernel
theorem dX12_runs_96 : decode cX12_runs 96 = .ok (.putfield 450, 3) := by decide +kernel
theorem dX12_runs_99 : decode cX12_runs 99 = .ok (.iload_n 2, 1) := by decide +kernel
theorem dX12_runs_100 : decode cX12_runs 100 = .ok (.ifCond .ne 19, 3) := by decide +kernel
theorem dX12_runs_103 : decode cX12_runs 103 = .ok (.iload 7, 2) := by decide +kernel
theorem dX12_runs_105 : decode cX12_runs 105 = .ok (.iload_n 3, 1) := by decide +kernel
theorem dX12_runs_106 : decode cX12_runs 106 = .ok (.if_icmp .eq 20, 3) := by decide +kernel
theorem dX12_runs_109 : decode cX12_runs 109 = .ok (.iload 7, 2) := by decide +kernel
theorem dX12_runs_111 : decode cX12_runs 111 = .ok (.iload 4, 2) := by decide +kernel
theorem dX12_runs_113 : decode cX12_runs 113 = .ok (.if_icmp .ne 19, 3) := by decide +kernel
theorem dX12_runs_116 : decode cX12_runs 116 = .ok (.goto 10, 3) := by decide +kernel
theorem dX12_runs_119 : decode cX12_runs 119 = .ok (.iload 7, 2) := by decide +kernel
theorem dX12_runs_121 : decode cX12_runs 121 = .ok (.iload_n 2, 1) := by decide +kernel
theorem dX12_runs_122 : decode cX12_runs 122 = .ok (.irem, 1) := by decide +kernel
theorem dX12_runs_123 : decode cX12_runs 123 = .ok (.ifCond .ne 9, 3) := by decide +kernel
theorem dX12_runs_126 : decode cX12_runs 126 = .ok (.aload_n 0, 1) := by decide +kernel
theorem dX12_runs_127 : decode cX12_runs 127 = .ok (.iload 7, 2) := by decide +kernel
theorem dX12_runs_129 : decode cX12_runs 129 = .ok (.invokevirtual 479, 3) := by decide +kernel
theorem dX12_runs_132 : decode cX12_runs 132 = .ok (.iinc 7 1, 3) := by decide +kernel
theorem dX12_runs_135 : decode cX12_runs 135 = .ok (.goto (-99), 3) := by decide +kernel
theorem dX12_runs_138 : decode cX12_runs 138 = .ok (.return_, 1) := by decide +kernel
def bX12_runs_82  (r36 : Int32 → Int32 → Int32 → Int32 → Int32 → Int32 → Int32 → Hp → Option (Hp)) (r46 : Int32 → Int32 → Int32 → Int32 → Int32 → Int32 → Int32 → Int32 → Hp → Option (Hp)) (x1 : Int32) (x2 : Int32) (x3 : Int32) (x4 : Int32) (x5 : Int32) (x6 : Int32) (x7 : Int32) (x8 : Int32) (h : Hp) : Option (Hp) := lt (x8 + 1) (fun v1 => r46 x1 x2 x3 x4 x5 x6 x7 v1 h)
set_option maxRecDepth 20000 in
theorem BX12_runs_82 {Z : ZT} {G : GT} {hr : Hp} (X : CX Z G cX12_runs RX12 9 6) (E : RX Z G none (none) hr) (hz : HZM Z) (r36 : Int32 → Int32 → Int32 → Int32 → Int32 → Int32 → Int32 → Hp → Option (Hp)) (hr36 : ∀ (x1 : Int32) (x2 : Int32) (x3 : Int32) (x4 : Int32) (x5 : Int32) (x6 : Int32) (x7 : Int32) (h : Hp), r36 x1 x2 x3 x4 x5 x6 x7 h = some hr → J Z G 9 h 36 [(0, .ref (Z.2.1 0)), (1, .int x1), (2, .int x2), (3, .int x3), (4, .int x4), (5, .int x5), (6, .int x6), (7, .int x7)] []) (r46 : Int32 → Int32 → Int32 → Int32 → Int32 → Int32 → Int32 → Int32 → Hp → Option (Hp)) (hr46 : ∀ (x1 : Int32) (x2 : Int32) (x3 : Int32) (x4 : Int32) (x5 : Int32) (x6 : Int32) (x7 : Int32) (x8 : Int32) (h : Hp), r46 x1 x2 x3 x4 x5 x6 x7 x8 h = some hr → J Z G 9 h 46 [(0, .ref (Z.2.1 0)), (1, .int x1), (2, .int x2), (3, .int x3), (4, .int x4), (5, .int x5), (6, .int x6), (7, .int x7), (8, .int x8)] []) (x1 : Int32) (x2 : Int32) (x3 : Int32) (x4 : Int32) (x5 : Int32) (x6 : Int32) (x7 : Int32) (x8 : Int32) (h : Hp) (hF : bX12_runs_82  r36 r46 x1 x2 x3 x4 x5 x6 x7 x8 h = some hr) : J Z G 9 h 82 [(0, .ref (Z.2.1 0)), (1, .int x1), (2, .int x2), (3, .int x3), (4, .int x4), (5, .int x5), (6, .int x6), (7, .int x7), (8, .int x8)] [] := by
  unfold bX12_runs_82 at hF
  refine j_iinc (pc := 82) 8 (x8 + 1) (fun y => [(8, .int y), (0, .ref (Z.2.1 0)), (1, .int x1), (2, .int x2), (3, .int x3), (4, .int x4), (5, .int x5), (6, .int x6), (7, .int x7)]) X dX12_runs_82 rfl rfl (by decide) (fun _ => rfl) hF (fun v1 hF => ?_)
  refine j_goto (pc := 85) 46 X dX12_runs_85 rfl ?_
  refine j_lv [(0, .ref (Z.2.1 0)), (1, .int x1), (2, .int x2), (3, .int x3), (4, .int x4), (5, .int x5), (6, .int x6), (7, .int x7), (8, .int v1)] [1, 2, 3, 4, 5, 6, 7, 8, 0] rfl ?_
  exact hr46 x1 x2 x3 x4 x5 x6 x7 v1 h hF
def bX12_runs_132  (r36 : Int32 → Int32 → Int32 → Int32 → Int32 → Int32 → Int32 → Hp → Option (Hp)) (x1 : Int32) (x2 : Int32) (x3 : Int32) (x4 : Int32) (x5 : Int32) (x6 : Int32) (x7 : Int32) (h : Hp) : Option (Hp) := lt (x7 + 1) (fun v1 => r36 x1 x2 x3 x4 x5 x6 v1 h)
set_option maxRecDepth 20000 in
theorem BX12_runs_132 {Z : ZT} {G : GT} {hr : Hp} (X : CX Z G cX12_runs RX12 9 6) (E : RX Z G none (none) hr) (hz : HZM Z) (r36 : Int32 → Int32 → Int32 → Int32 → Int32 → Int32 → Int32 → Hp → Option (Hp)) (hr36 : ∀ (x1 : Int32) (x2 : Int32) (x3 : Int32) (x4 : Int32) (x5 : Int32) (x6 : Int32) (x7 : Int32) (h : Hp), r36 x1 x2 x3 x4 x5 x6 x7 h = some hr → J Z G 9 h 36 [(0, .ref (Z.2.1 0)), (1, .int x1), (2, .int x2), (3, .int x3), (4, .int x4), (5, .int x5), (6, .int x6), (7, .int x7)] []) (x1 : Int32) (x2 : Int32) (x3 : Int32) (x4 : Int32) (x5 : Int32) (x6 : Int32) (x7 : Int32) (h : Hp) (hF : bX12_runs_132  r36 x1 x2 x3 x4 x5 x6 x7 h = some hr) : J Z G 9 h 132 [(0, .ref (Z.2.1 0)), (1, .int x1), (2, .int x2), (3, .int x3), (4, .int x4), (5, .int x5), (6, .int x6), (7, .int x7)] [] := by
  unfold bX12_runs_132 at hF
  refine j_iinc (pc := 132) 7 (x7 + 1) (fun y => [(7, .int y), (0, .ref (Z.2.1 0)), (1, .int x1), (2, .int x2), (3, .int x3), (4, .int x4), (5, .int x5), (6, .int x6)]) X dX12_runs_132 rfl rfl (by decide) (fun _ => rfl) hF (fun v1 hF => ?_)
  refine j_goto (pc := 135) 36 X dX12_runs_135 rfl ?_
  refine j_lv [(0, .ref (Z.2.1 0)), (1, .int x1), (2, .int x2), (3, .int x3), (4, .int x4), (5, .int x5), (6, .int x6), (7, .int v1)] [1, 2, 3, 4, 5, 6, 7, 0] rfl ?_
  exact hr36 x1 x2 x3 x4 x5 x6 v1 h hF
def bX12_runs_126  (r36 : Int32 → Int32 → Int32 → Int32 → Int32 → Int32 → Int32 → Hp → Option (Hp)) (x1 : Int32) (x2 : Int32) (x3 : Int32) (x4 : Int32) (x5 : Int32) (x6 : Int32) (x7 : Int32) (h : Hp) : Option (Hp) := bv (fX12_looksNow x7 h) (fun h1 => bX12_runs_132 r36 x1 x2 x3 x4 x5 x6 x7 h1)
set_option maxRecDepth 20000 in
theorem BX12_runs_126 {Z : ZT} {G : GT} {hr : Hp} (X : CX Z G cX12_runs RX12 9 6) (E : RX Z G none (none) hr) (hz : HZM Z) (r36 : Int32 → Int32 → Int32 → Int32 → Int32 → Int32 → Int32 → Hp → Option (Hp)) (hr36 : ∀ (x1 : Int32) (x2 : Int32) (x3 : Int32) (x4 : Int32) (x5 : Int32) (x6 : Int32) (x7 : Int32) (h : Hp), r36 x1 x2 x3 x4 x5 x6 x7 h = some hr → J Z G 9 h 36 [(0, .ref (Z.2.1 0)), (1, .int x1), (2, .int x2), (3, .int x3), (4, .int x4), (5, .int x5), (6, .int x6), (7, .int x7)] []) (x1 : Int32) (x2 : Int32) (x3 : Int32) (x4 : Int32) (x5 : Int32) (x6 : Int32) (x7 : Int32) (h : Hp) (hF : bX12_runs_126  r36 x1 x2 x3 x4 x5 x6 x7 h = some hr) : J Z G 9 h 126 [(0, .ref (Z.2.1 0)), (1, .int x1), (2, .int x2), (3, .int x3), (4, .int x4), (5, .int x5), (6, .int x6), (7, .int x7)] [] := by
  unfold bX12_runs_126 at hF
  refine j_aload_n (pc := 126) 0 X dX12_runs_126 rfl ?_
  refine j_iload (pc := 127) 7 X dX12_runs_127 rfl ?_
  refine j_cVv (pc := 129) (As := [.int x7]) (rest := []) X dX12_runs_129 ml_X12_479 ck_X12_looksNow cv_X12_looksNow (hz _ sh_0) rfl (Nat.le_of_ble_eq_true rfl) rfl (Nat.le_of_ble_eq_true rfl) rfl hF (tX12_looksNow Z x7 hz h) (fun h1 hF => ?_)
  exact BX12_runs_132 X E hz r36 hr36 x1 x2 x3 x4 x5 x6 x7 h1 hF
def bX12_runs_46  (r36 : Int32 → Int32 → Int32 → Int32 → Int32 → Int32 → Int32 → Hp → Option (Hp)) (r46 : Int32 → Int32 → Int32 → Int32 → Int32 → Int32 → Int32 → Int32 → Hp → Option (Hp)) (x1 : Int32) (x2 : Int32) (x3 : Int32) (x4 : Int32) (x5 : Int32) (x6 : Int32) (x7 : Int32) (x8 : Int32) (h : Hp) : Option (Hp) := (if x1 ≤ x8 then bv (fX12_pays x7 h) (fun h1 => lt (wI h1 0 73 0) (fun h2 => (if x2 = 0 then (if x7 = x3 then bX12_runs_126 r36 x1 x2 x3 x4 x5 x6 x7 h2 else (if x7 = x4 then bX12_runs_126 r36 x1 x2 x3 x4 x5 x6 x7 h2 else bX12_runs_132 r36 x1 x2 x3 x4 x5 x6 x7 h2)) else ck (nz x2) ((if (x7 - x7 / x2 * x2) = 0 then bX12_runs_126 r36 x1 x2 x3 x4 x5 x6 x7 h2 else bX12_runs_132 r36 x1 x2 x3 x4 x5 x6 x7 h2))))) else ck (inb x8 60) ((if (h.1 51 (ix x8)) = 0 then bX12_runs_82 r36 r46 x1 x2 x3 x4 x5 x6 x7 x8 h else ck (inb x8 60) ((if (h.1 41 (ix x8)) = x7 then bv (fX12_happens x8 x5 h) (fun h3 => bX12_runs_82 r36 r46 x1 x2 x3 x4 x5 x6 x7 x8 h3) else bX12_runs_82 r36 r46 x1 x2 x3 x4 x5 x6 x7 x8 h)))))
def lX12_runs_46  (r36 : Int32 → Int32 → Int32 → Int32 → Int32 → Int32 → Int32 → Hp → Option (Hp)) : Nat → Int32 → Int32 → Int32 → Int32 → Int32 → Int32 → Int32 → Int32 → Hp → Option (Hp)
  | 0 => fun _ _ _ _ _ _ _ _ _ => none
  | n + 1 => bX12_runs_46  r36 (lX12_runs_46  r36 n)
set_option maxRecDepth 20000 in
theorem BX12_runs_46 {Z : ZT} {G : GT} {hr : Hp} (X : CX Z G cX12_runs RX12 9 6) (E : RX Z G none (none) hr) (hz : HZM Z) (r36 : Int32 → Int32 → Int32 → Int32 → Int32 → Int32 → Int32 → Hp → Option (Hp)) (hr36 : ∀ (x1 : Int32) (x2 : Int32) (x3 : Int32) (x4 : Int32) (x5 : Int32) (x6 : Int32) (x7 : Int32) (h : Hp), r36 x1 x2 x3 x4 x5 x6 x7 h = some hr → J Z G 9 h 36 [(0, .ref (Z.2.1 0)), (1, .int x1), (2, .int x2), (3, .int x3), (4, .int x4), (5, .int x5), (6, .int x6), (7, .int x7)] []) (r46 : Int32 → Int32 → Int32 → Int32 → Int32 → Int32 → Int32 → Int32 → Hp → Option (Hp)) (hr46 : ∀ (x1 : Int32) (x2 : Int32) (x3 : Int32) (x4 : Int32) (x5 : Int32) (x6 : Int32) (x7 : Int32) (x8 : Int32) (h : Hp), r46 x1 x2 x3 x4 x5 x6 x7 x8 h = some hr → J Z G 9 h 46 [(0, .ref (Z.2.1 0)), (1, .int x1), (2, .int x2), (3, .int x3), (4, .int x4), (5, .int x5), (6, .int x6), (7, .int x7), (8, .int x8)] []) (x1 : Int32) (x2 : Int32) (x3 : Int32) (x4 : Int32) (x5 : Int32) (x6 : Int32) (x7 : Int32) (x8 : Int32) (h : Hp) (hF : bX12_runs_46  r36 r46 x1 x2 x3 x4 x5 x6 x7 x8 h = some hr) : J Z G 9 h 46 [(0, .ref (Z.2.1 0)), (1, .int x1), (2, .int x2), (3, .int x3), (4, .int x4), (5, .int x5), (6, .int x6), (7, .int x7), (8, .int x8)] [] := by
  unfold bX12_runs_46 at hF
  refine j_iload (pc := 46) 8 X dX12_runs_46 rfl ?_
  refine j_iload_n (pc := 48) 1 X dX12_runs_48 rfl ?_
  refine j_icmp_ge (pc := 49) 88 X dX12_runs_49 rfl hF (fun hF => ?_) (fun hF => ?_)
  · refine j_aload_n (pc := 88) 0 X dX12_runs_88 rfl ?_
    refine j_iload (pc := 89) 7 X dX12_runs_89 rfl ?_
    refine j_cVv (pc := 91) (As := [.int x7]) (rest := []) X dX12_runs_91 ml_X12_476 ck_X12_pays cv_X12_pays (hz _ sh_0) rfl (Nat.le_of_ble_eq_true rfl) rfl (Nat.le_of_ble_eq_true rfl) rfl hF (tX12_pays Z x7 hz h) (fun h1 hF => ?_)
    refine j_aload_n (pc := 94) 0 X dX12_runs_94 rfl ?_
    refine j_iconst (pc := 95) 0 X dX12_runs_95 rfl ?_
    refine j_puti (pc := 96) X dX12_runs_96 (hz _ sh_0) fp_X12_450 rfl hF (fun h2 hF => ?_)
    refine j_iload_n (pc := 99) 2 X dX12_runs_99 rfl ?_
    refine j_if_ne (pc := 100) 119 X dX12_runs_100 rfl hF (fun hF => ?_) (fun hF => ?_)
    · refine j_iload (pc := 119) 7 X dX12_runs_119 rfl ?_
      refine j_iload_n (pc := 121) 2 X dX12_runs_121 rfl ?_
      refine j_irem (pc := 122) X dX12_runs_122 hF (fun hF => ?_)
      refine j_if_ne (pc := 123) 132 X dX12_runs_123 rfl hF (fun hF => ?_) (fun hF => ?_)
      · refine j_lv [(0, .ref (Z.2.1 0)), (1, .int x1), (2, .int x2), (3, .int x3), (4, .int x4), (5, .int x5), (6, .int x6), (7, .int x7)] [0, 1, 2, 3, 4, 5, 6, 7] rfl ?_
        exact BX12_runs_132 X E hz r36 hr36 x1 x2 x3 x4 x5 x6 x7 h2 hF
      · refine j_lv [(0, .ref (Z.2.1 0)), (1, .int x1), (2, .int x2), (3, .int x3), (4, .int x4), (5, .int x5), (6, .int x6), (7, .int x7)] [0, 1, 2, 3, 4, 5, 6, 7] rfl ?_
        exact BX12_runs_126 X E hz r36 hr36 x1 x2 x3 x4 x5 x6 x7 h2 hF
    · refine j_iload (pc := 103) 7 X dX12_runs_103 rfl ?_
      refine j_iload_n (pc := 105) 3 X dX12_runs_105 rfl ?_
      refine j_icmp_eq (pc := 106) 126 X dX12_runs_106 rfl hF (fun hF => ?_) (fun hF => ?_)
      · refine j_lv [(0, .ref (Z.2.1 0)), (1, .int x1), (2, .int x2), (3, .int x3), (4, .int x4), (5, .int x5), (6, .int x6), (7, .int x7)] [0, 1, 2, 3, 4, 5, 6, 7] rfl ?_
        exact BX12_runs_126 X E hz r36 hr36 x1 x2 x3 x4 x5 x6 x7 h2 hF
      · refine j_iload (pc := 109) 7 X dX12_runs_109 rfl ?_
        refine j_iload (pc := 111) 4 X dX12_runs_111 rfl ?_
        refine j_icmp_ne (pc := 113) 132 X dX12_runs_113 rfl hF (fun hF => ?_) (fun hF => ?_)
        · refine j_lv [(0, .ref (Z.2.1 0)), (1, .int x1), (2, .int x2), (3, .int x3), (4, .int x4), (5, .int x5), (6, .int x6), (7, .int x7)] [0, 1, 2, 3, 4, 5, 6, 7] rfl ?_
          exact BX12_runs_132 X E hz r36 hr36 x1 x2 x3 x4 x5 x6 x7 h2 hF
        · refine j_goto (pc := 116) 126 X dX12_runs_116 rfl ?_
          refine j_lv [(0, .ref (Z.2.1 0)), (1, .int x1), (2, .int x2), (3, .int x3), (4, .int x4), (5, .int x5), (6, .int x6), (7, .int x7)] [0, 1, 2, 3, 4, 5, 6, 7] rfl ?_
          exact BX12_runs_126 X E hz r36 hr36 x1 x2 x3 x4 x5 x6 x7 h2 hF
  · refine j_aload_n (pc := 52) 0 X dX12_runs_52 rfl ?_
    refine j_getr (pc := 53) X dX12_runs_53 (hz _ sh_0) fl_X12_170 rfl ?_
    refine j_iload (pc := 56) 8 X dX12_runs_56 rfl ?_
    refine j_zald (pc := 58) X dX12_runs_58 (hz _ sh_51) hF (fun hF => ?_)
    refine j_if_eq (pc := 59) 82 X dX12_runs_59 rfl hF (fun hF => ?_) (fun hF => ?_)
    · exact BX12_runs_82 X E hz r36 hr36 r46 hr46 x1 x2 x3 x4 x5 x6 x7 x8 h hF
    · refine j_aload_n (pc := 62) 0 X dX12_runs_62 rfl ?_
      refine j_getr (pc := 63) X dX12_runs_63 (hz _ sh_0) fl_X12_140 rfl ?_
      refine j_iload (pc := 66) 8 X dX12_runs_66 rfl ?_
      refine j_iald (pc := 68) X dX12_runs_68 (hz _ sh_41) hF (fun hF => ?_)
      refine j_iload (pc := 69) 7 X dX12_runs_69 rfl ?_
      refine j_icmp_ne (pc := 71) 82 X dX12_runs_71 rfl hF (fun hF => ?_) (fun hF => ?_)
      · exact BX12_runs_82 X E hz r36 hr36 r46 hr46 x1 x2 x3 x4 x5 x6 x7 x8 h hF
      · refine j_aload_n (pc := 74) 0 X dX12_runs_74 rfl ?_
        refine j_iload (pc := 75) 8 X dX12_runs_75 rfl ?_
        refine j_iload (pc := 77) 5 X dX12_runs_77 rfl ?_
        refine j_cVv (pc := 79) (As := [.int x8, .int x5]) (rest := []) X dX12_runs_79 ml_X12_472 ck_X12_happens cv_X12_happens (hz _ sh_0) rfl (Nat.le_of_ble_eq_true rfl) rfl (Nat.le_of_ble_eq_true rfl) rfl hF (tX12_happens Z x8 x5 hz h) (fun h3 hF => ?_)
        exact BX12_runs_82 X E hz r36 hr36 r46 hr46 x1 x2 x3 x4 x5 x6 x7 x8 h3 hF
theorem LX12_runs_46 {Z : ZT} {G : GT} {hr : Hp} (X : CX Z G cX12_runs RX12 9 6) (E : RX Z G none (none) hr) (hz : HZM Z) (r36 : Int32 → Int32 → Int32 → Int32 → Int32 → Int32 → Int32 → Hp → Option (Hp)) (hr36 : ∀ (x1 : Int32) (x2 : Int32) (x3 : Int32) (x4 : Int32) (x5 : Int32) (x6 : Int32) (x7 : Int32) (h : Hp), r36 x1 x2 x3 x4 x5 x6 x7 h = some hr → J Z G 9 h 36 [(0, .ref (Z.2.1 0)), (1, .int x1), (2, .int x2), (3, .int x3), (4, .int x4), (5, .int x5), (6, .int x6), (7, .int x7)] []) : ∀ (n : Nat) (x1 : Int32) (x2 : Int32) (x3 : Int32) (x4 : Int32) (x5 : Int32) (x6 : Int32) (x7 : Int32) (x8 : Int32) (h : Hp), lX12_runs_46  r36 n x1 x2 x3 x4 x5 x6 x7 x8 h = some hr → J Z G 9 h 46 [(0, .ref (Z.2.1 0)), (1, .int x1), (2, .int x2), (3, .int x3), (4, .int x4), (5, .int x5), (6, .int x6), (7, .int x7), (8, .int x8)] [] := by
  intro n
  induction n with
  | zero => intro x1 x2 x3 x4 x5 x6 x7 x8 h hF; cases hF
  | succ n ih => intro x1 x2 x3 x4 x5 x6 x7 x8 h hF; exact BX12_runs_46 X E hz r36 hr36 (lX12_runs_46  r36 n) ih x1 x2 x3 x4 x5 x6 x7 x8 h hF
def bX12_runs_36   (r36 : Int32 → Int32 → Int32 → Int32 → Int32 → Int32 → Int32 → Hp → Option (Hp)) (x1 : Int32) (x2 : Int32) (x3 : Int32) (x4 : Int32) (x5 : Int32) (x6 : Int32) (x7 : Int32) (h : Hp) : Option (Hp) := (if x6 < x7 then some h else lt 0 (fun v1 => lX12_runs_46 r36 FU x1 x2 x3 x4 x5 x6 x7 v1 h))
def lX12_runs_36   : Nat → Int32 → Int32 → Int32 → Int32 → Int32 → Int32 → Int32 → Hp → Option (Hp)
  | 0 => fun _ _ _ _ _ _ _ _ => none
  | n + 1 => bX12_runs_36   (lX12_runs_36   n)
set_option maxRecDepth 20000 in
theorem BX12_runs_36 {Z : ZT} {G : GT} {hr : Hp} (X : CX Z G cX12_runs RX12 9 6) (E : RX Z G none (none) hr) (hz : HZM Z)  (r36 : Int32 → Int32 → Int32 → Int32 → Int32 → Int32 → Int32 → Hp → Option (Hp)) (hr36 : ∀ (x1 : Int32) (x2 : Int32) (x3 : Int32) (x4 : Int32) (x5 : Int32) (x6 : Int32) (x7 : Int32) (h : Hp), r36 x1 x2 x3 x4 x5 x6 x7 h = some hr → J Z G 9 h 36 [(0, .ref (Z.2.1 0)), (1, .int x1), (2, .int x2), (3, .int x3), (4, .int x4), (5, .int x5), (6, .int x6), (7, .int x7)] []) (x1 : Int32) (x2 : Int32) (x3 : Int32) (x4 : Int32) (x5 : Int32) (x6 : Int32) (x7 : Int32) (h : Hp) (hF : bX12_runs_36   r36 x1 x2 x3 x4 x5 x6 x7 h = some hr) : J Z G 9 h 36 [(0, .ref (Z.2.1 0)), (1, .int x1), (2, .int x2), (3, .int x3), (4, .int x4), (5, .int x5), (6, .int x6), (7, .int x7)] [] := by
  unfold bX12_runs_36 at hF
  refine j_iload (pc := 36) 7 X dX12_runs_36 rfl ?_
  refine j_iload (pc := 38) 6 X dX12_runs_38 rfl ?_
  refine j_icmp_gt (pc := 40) 138 X dX12_runs_40 rfl hF (fun hF => ?_) (fun hF => ?_)
  · exact j_vret (pc := 138) X E dX12_runs_138 hF
  · refine j_iconst (pc := 43) 0 X dX12_runs_43 rfl ?_
    refine j_istore (pc := 44) (fun y => [(8, .int y), (0, .ref (Z.2.1 0)), (1, .int x1), (2, .int x2), (3, .int x3), (4, .int x4), (5, .int x5), (6, .int x6), (7, .int x7)]) X dX12_runs_44 (by decide) (fun _ => rfl) hF (fun v1 hF => ?_)
    refine j_lv [(0, .ref (Z.2.1 0)), (1, .int x1), (2, .int x2), (3, .int x3), (4, .int x4), (5, .int x5), (6, .int x6), (7, .int x7), (8, .int v1)] [1, 2, 3, 4, 5, 6, 7, 8, 0] rfl ?_
    exact LX12_runs_46 X E hz r36 hr36 FU x1 x2 x3 x4 x5 x6 x7 v1 h hF
theorem LX12_runs_36 {Z : ZT} {G : GT} {hr : Hp} (X : CX Z G cX12_runs RX12 9 6) (E : RX Z G none (none) hr) (hz : HZM Z)  : ∀ (n : Nat) (x1 : Int32) (x2 : Int32) (x3 : Int32) (x4 : Int32) (x5 : Int32) (x6 : Int32) (x7 : Int32) (h : Hp), lX12_runs_36   n x1 x2 x3 x4 x5 x6 x7 h = some hr → J Z G 9 h 36 [(0, .ref (Z.2.1 0)), (1, .int x1), (2, .int x2), (3, .int x3), (4, .int x4), (5, .int x5), (6, .int x6), (7, .int x7)] [] := by
  intro n
  induction n with
  | zero => intro x1 x2 x3 x4 x5 x6 x7 h hF; cases hF
  | succ n ih => intro x1 x2 x3 x4 x5 x6 x7 h hF; exact BX12_runs_36 X E hz  (lX12_runs_36   n) ih x1 x2 x3 x4 x5 x6 x7 h hF
def bX12_runs_7   (r7 : Int32 → Int32 → Int32 → Int32 → Int32 → Int32 → Int32 → Hp → Option (Hp)) (x1 : Int32) (x2 : Int32) (x3 : Int32) (x4 : Int32) (x5 : Int32) (x6 : Int32) (x7 : Int32) (h : Hp) : Option (Hp) := (if x1 ≤ x7 then lt 0 (fun v1 => lX12_runs_36 FU x1 x2 x3 x4 x5 x6 v1 h) else bi (fX12_counts x7 x1 h) (fun w3 h2 => ck (inb x7 60) (lt (wI h2 51 (ix x7) (vp_nar .boolean w3)) (fun h4 => lt (x7 + 1) (fun v5 => r7 x1 x2 x3 x4 x5 x6 v5 h4)))))
def lX12_runs_7   : Nat → Int32 → Int32 → Int32 → Int32 → Int32 → Int32 → Int32 → Hp → Option (Hp)
  | 0 => fun _ _ _ _ _ _ _ _ => none
  | n + 1 => bX12_runs_7   (lX12_runs_7   n)
set_option maxRecDepth 20000 in
theorem BX12_runs_7 {Z : ZT} {G : GT} {hr : Hp} (X : CX Z G cX12_runs RX12 9 6) (E : RX Z G none (none) hr) (hz : HZM Z)  (r7 : Int32 → Int32 → Int32 → Int32 → Int32 → Int32 → Int32 → Hp → Option (Hp)) (hr7 : ∀ (x1 : Int32) (x2 : Int32) (x3 : Int32) (x4 : Int32) (x5 : Int32) (x6 : Int32) (x7 : Int32) (h : Hp), r7 x1 x2 x3 x4 x5 x6 x7 h = some hr → J Z G 9 h 7 [(0, .ref (Z.2.1 0)), (1, .int x1), (2, .int x2), (3, .int x3), (4, .int x4), (5, .int x5), (6, .int x6), (7, .int x7)] []) (x1 : Int32) (x2 : Int32) (x3 : Int32) (x4 : Int32) (x5 : Int32) (x6 : Int32) (x7 : Int32) (h : Hp) (hF : bX12_runs_7   r7 x1 x2 x3 x4 x5 x6 x7 h = some hr) : J Z G 9 h 7 [(0, .ref (Z.2.1 0)), (1, .int x1), (2, .int x2), (3, .int x3), (4, .int x4), (5, .int x5), (6, .int x6), (7, .int x7)] [] := by
  unfold bX12_runs_7 at hF
  refine j_iload (pc := 7) 7 X dX12_runs_7 rfl ?_
  refine j_iload_n (pc := 9) 1 X dX12_runs_9 rfl ?_
  refine j_icmp_ge (pc := 10) 33 X dX12_runs_10 rfl hF (fun hF => ?_) (fun hF => ?_)
  · refine j_iconst (pc := 33) 0 X dX12_runs_33 rfl ?_
    refine j_istore (pc := 34) (fun y => [(7, .int y), (0, .ref (Z.2.1 0)), (1, .int x1), (2, .int x2), (3, .int x3), (4, .int x4), (5, .int x5), (6, .int x6)]) X dX12_runs_34 (by decide) (fun _ => rfl) hF (fun v1 hF => ?_)
    refine j_lv [(0, .ref (Z.2.1 0)), (1, .int x1), (2, .int x2), (3, .int x3), (4, .int x4), (5, .int x5), (6, .int x6), (7, .int v1)] [1, 2, 3, 4, 5, 6, 7, 0] rfl ?_
    exact LX12_runs_36 X E hz FU x1 x2 x3 x4 x5 x6 v1 h hF
  · refine j_aload_n (pc := 13) 0 X dX12_runs_13 rfl ?_
    refine j_getr (pc := 14) X dX12_runs_14 (hz _ sh_0) fl_X12_170 rfl ?_
    refine j_iload (pc := 17) 7 X dX12_runs_17 rfl ?_
    refine j_aload_n (pc := 19) 0 X dX12_runs_19 rfl ?_
    refine j_iload (pc := 20) 7 X dX12_runs_20 rfl ?_
    refine j_iload_n (pc := 22) 1 X dX12_runs_22 rfl ?_
    refine j_cVi (pc := 23) (As := [.int x7, .int x1]) (rest := [.int x7, .ref (Z.2.1 51)]) X dX12_runs_23 ml_X12_432 ck_X12_counts cv_X12_counts (hz _ sh_0) rfl (Nat.le_of_ble_eq_true rfl) rfl (Nat.le_of_ble_eq_true rfl) rfl hF (tX12_counts Z x7 x1 hz h) (fun w3 h2 hF => ?_)
    refine j_zast (pc := 26) X dX12_runs_26 (hz _ sh_51) hF (fun h4 hF => ?_)
    refine j_iinc (pc := 27) 7 (x7 + 1) (fun y => [(7, .int y), (0, .ref (Z.2.1 0)), (1, .int x1), (2, .int x2), (3, .int x3), (4, .int x4), (5, .int x5), (6, .int x6)]) X dX12_runs_27 rfl rfl (by decide) (fun _ => rfl) hF (fun v5 hF => ?_)
    refine j_goto (pc := 30) 7 X dX12_runs_30 rfl ?_
    refine j_lv [(0, .ref (Z.2.1 0)), (1, .int x1), (2, .int x2), (3, .int x3), (4, .int x4), (5, .int x5), (6, .int x6), (7, .int v5)] [1, 2, 3, 4, 5, 6, 7, 0] rfl ?_
    exact hr7 x1 x2 x3 x4 x5 x6 v5 h4 hF
theorem LX12_runs_7 {Z : ZT} {G : GT} {hr : Hp} (X : CX Z G cX12_runs RX12 9 6) (E : RX Z G none (none) hr) (hz : HZM Z)  : ∀ (n : Nat) (x1 : Int32) (x2 : Int32) (x3 : Int32) (x4 : Int32) (x5 : Int32) (x6 : Int32) (x7 : Int32) (h : Hp), lX12_runs_7   n x1 x2 x3 x4 x5 x6 x7 h = some hr → J Z G 9 h 7 [(0, .ref (Z.2.1 0)), (1, .int x1), (2, .int x2), (3, .int x3), (4, .int x4), (5, .int x5), (6, .int x6), (7, .int x7)] [] := by
  intro n
  induction n with
  | zero => intro x1 x2 x3 x4 x5 x6 x7 h hF; cases hF
  | succ n ih => intro x1 x2 x3 x4 x5 x6 x7 h hF; exact BX12_runs_7 X E hz  (lX12_runs_7   n) ih x1 x2 x3 x4 x5 x6 x7 h hF
def fX12_runs (a1 : Int32) (a2 : Int32) (a3 : Int32) (a4 : Int32) (a5 : Int32) (a6 : Int32) (h : Hp) : Option (Hp) := bv (fX12_starts h) (fun h1 => lt 0 (fun v2 => lX12_runs_7 FU a1 a2 a3 a4 a5 a6 v2 h1))
set_option maxRecDepth 20000 in
theorem tX12_runs (Z : ZT) (a1 : Int32) (a2 : Int32) (a3 : Int32) (a4 : Int32) (a5 : Int32) (a6 : Int32) (hz : HZM Z) (h : Hp) (hr : Hp) (hF : fX12_runs a1 a2 a3 a4 a5 a6 h = some hr) : MC Z yX12_runs cX12_runs 9 none 6 [.ref (Z.2.1 0), .int a1, .int a2, .int a3, .int a4, .int a5, .int a6] h (none) hr := by
  unfold fX12_runs at hF
  refine mc_start (by decide) (Nat.le_of_ble_eq_true rfl) (fun G X E => ?_)
  refine j_aload_n (pc := 0) 0 X dX12_runs_0 rfl ?_
  refine j_cVv (pc := 1) (As := []) (rest := []) X dX12_runs_1 ml_X12_469 ck_X12_starts cv_X12_starts (hz _ sh_0) rfl (Nat.le_of_ble_eq_true rfl) rfl (Nat.le_of_ble_eq_true rfl) rfl hF (tX12_starts Z hz h) (fun h1 hF => ?_)
  refine j_iconst (pc := 4) 0 X dX12_runs_4 rfl ?_
  refine j_istore (pc := 5) (fun y => [(7, .int y), (0, .ref (Z.2.1 0)), (1, .int a1), (2, .int a2), (3, .int a3), (4, .int a4), (5, .int a5), (6, .int a6)]) X dX12_runs_5 (by decide) (fun _ => rfl) hF (fun v2 hF => ?_)
  refine j_lv [(0, .ref (Z.2.1 0)), (1, .int a1), (2, .int a2), (3, .int a3), (4, .int a4), (5, .int a5), (6, .int a6), (7, .int v2)] [1, 2, 3, 4, 5, 6, 7, 0] rfl ?_
  exact LX12_runs_7 X E hz FU a1 a2 a3 a4 a5 a6 v2 h1 hF
theorem dX12_runsAll_0 : decode cX12_runsAll 0 = .ok (.aload_n 0, 1) := by decide +kernel
theorem dX12_runsAll_1 : decode cX12_runsAll 1 = .ok (.iload_n 1, 1) := by decide +kernel
theorem dX12_runsAll_2 : decode cX12_runsAll 2 = .ok (.iconst 1, 1) := by decide +kernel
theorem dX12_runsAll_3 : decode cX12_runsAll 3 = .ok (.iconst 0, 1) := by decide +kernel
theorem dX12_runsAll_4 : decode cX12_runsAll 4 = .ok (.iconst 0, 1) := by decide +kernel
theorem dX12_runsAll_5 : decode cX12_runsAll 5 = .ok (.iconst 0, 1) := by decide +kernel
theorem dX12_runsAll_6 : decode cX12_runsAll 6 = .ok (.bipush 59, 2) := by decide +kernel
theorem dX12_runsAll_8 : decode cX12_runsAll 8 = .ok (.invokevirtual 482, 3) := by decide +kernel
theorem dX12_runsAll_11 : decode cX12_runsAll 11 = .ok (.return_, 1) := by decide +kernel
def fX12_runsAll (a1 : Int32) (h : Hp) : Option (Hp) := bv (fX12_runs a1 1 0 0 0 59 h) (fun h1 => some h1)
set_option maxRecDepth 20000 in
theorem tX12_runsAll (Z : ZT) (a1 : Int32) (hz : HZM Z) (h : Hp) (hr : Hp) (hF : fX12_runsAll a1 h = some hr) : MC Z yX12_runsAll cX12_runsAll 2 none 7 [.ref (Z.2.1 0), .int a1] h (none) hr := by
  unfold fX12_runsAll at hF
  refine mc_start (by decide) (Nat.le_of_ble_eq_true rfl) (fun G X E => ?_)
  refine j_aload_n (pc := 0) 0 X dX12_runsAll_0 rfl ?_
  refine j_iload_n (pc := 1) 1 X dX12_runsAll_1 rfl ?_
  refine j_iconst (pc := 2) 1 X dX12_runsAll_2 rfl ?_
  refine j_iconst (pc := 3) 0 X dX12_runsAll_3 rfl ?_
  refine j_iconst (pc := 4) 0 X dX12_runsAll_4 rfl ?_
  refine j_iconst (pc := 5) 0 X dX12_runsAll_5 rfl ?_
  refine j_bipush (pc := 6) 59 X dX12_runsAll_6 rfl ?_
  refine j_cVv (pc := 8) (As := [.int a1, .int 1, .int 0, .int 0, .int 0, .int 59]) (rest := []) X dX12_runsAll_8 ml_X12_482 ck_X12_runs cv_X12_runs (hz _ sh_0) rfl (Nat.le_of_ble_eq_true rfl) rfl (Nat.le_of_ble_eq_true rfl) rfl hF (tX12_runs Z a1 1 0 0 0 59 hz h) (fun h1 hF => ?_)
  exact j_vret (pc := 11) X E dX12_runsAll_11 hF
theorem dX12_run_0 : decode cX12_run 0 = .ok (.aload_n 0, 1) := by decide +kernel
theorem dX12_run_1 : decode cX12_run 1 = .ok (.iload_n 1, 1) := by decide +kernel
theorem dX12_run_2 : decode cX12_run 2 = .ok (.invokevirtual 400, 3) := by decide +kernel
theorem dX12_run_5 : decode cX12_run 5 = .ok (.ifCond .eq 31, 3) := by decide +kernel
theorem dX12_run_8 : decode cX12_run 8 = .ok (.aload_n 0, 1) := by decide +kernel
theorem dX12_run_9 : decode cX12_run 9 = .ok (.iload_n 2, 1) := by decide +kernel
theorem dX12_run_10 : decode cX12_run 10 = .ok (.invokevirtual 435, 3) := by decide +kernel
theorem dX12_run_13 : decode cX12_run 13 = .ok (.ifCond .eq 23, 3) := by decide +kernel
theorem dX12_run_16 : decode cX12_run 16 = .ok (.iload_n 3, 1) := by decide +kernel
theorem dX12_run_17 : decode cX12_run 17 = .ok (.iconst 1, 1) := by decide +kernel
theorem dX12_run_18 : decode cX12_run 18 = .ok (.bipush 20, 2) := by decide +kernel
theorem dX12_run_20 : decode cX12_run 20 = .ok (.invokestatic 383, 3) := by decide +kernel
theorem dX12_run_23 : decode cX12_run 23 = .ok (.ifCond .eq 13, 3) := by decide +kernel
theorem dX12_run_26 : decode cX12_run 26 = .ok (.iload 4, 2) := by decide +kernel
theorem dX12_run_28 : decode cX12_run 28 = .ok (.iconst 0, 1) := by decide +kernel
theorem dX12_run_29 : decode cX12_run 29 = .ok (.iconst 2, 1) := by decide +kernel
theorem dX12_run_30 : decode cX12_run 30 = .ok (.invokestatic 383, 3) := by decide +kernel
theorem dX12_run_33 : decode cX12_run 33 = .ok (.ifCond .ne 5, 3) := by decide +kernel
theorem dX12_run_36 : decode cX12_run 36 = .ok (.iconst (-1), 1) := by decide +kernel
theorem dX12_run_37 : decode cX12_run 37 = .ok (.ireturn, 1) := by decide +kernel
theorem dX12_run_38 : decode cX12_run 38 = .ok (.aload_n 0, 1) := by decide +kernel
theorem dX12_run_39 : decode cX12_run 39 = .ok (.iload_n 2, 1) := by decide +kernel
theorem dX12_run_40 : decode cX12_run 40 = .ok (.iload_n 3, 1) := by decide +kernel
theorem dX12_run_41 : decode cX12_run 41 = .ok (.iconst 0, 1) := by decide +kernel
theorem dX12_run_42 : decode cX12_run 42 = .ok (.iconst 0, 1) := by decide +kernel
theorem dX12_run_43 : decode cX12_run 43 = .ok (.iconst 0, 1) := by decide +kernel
theorem dX12_run_44 : decode cX12_run 44 = .ok (.bipush 59, 2) := by decide +kernel
theorem dX12_run_46 : decode cX12_run 46 = .ok (.invokevirtual 482, 3) := by decide +kernel
theorem dX12_run_49 : decode cX12_run 49 = .ok (.iload 4, 2) := by decide +kernel
theorem dX12_run_51 : decode cX12_run 51 = .ok (.ifCond .ne 12, 3) := by decide +kernel
theorem dX12_run_54 : decode cX12_run 54 = .ok (.aload_n 0, 1) := by decide +kernel
theorem dX12_run_55 : decode cX12_run 55 = .ok (.getfield 149, 3) := by decide +kernel
theorem dX12_run_58 : decode cX12_run 58 = .ok (.iload_n 1, 1) := by decide +kernel
theorem dX12_run_59 : decode cX12_run 59 = .ok (.iaload, 1) := by decide +kernel
theorem dX12_run_60 : decode cX12_run 60 = .ok (.goto 24, 3) := by decide +kernel
theorem dX12_run_63 : decode cX12_run 63 = .ok (.iload 4, 2) := by decide +kernel
theorem dX12_run_65 : decode cX12_run 65 = .ok (.iconst 1, 1) := by decide +kernel
theorem dX12_run_66 : decode cX12_run 66 = .ok (.if_icmp .ne 12, 3) := by decide +kernel
theorem dX12_run_69 : decode cX12_run 69 = .ok (.aload_n 0, 1) := by decide +kernel
theorem dX12_run_70 : decode cX12_run 70 = .ok (.getfield 152, 3) := by decide +kernel
theorem dX12_run_73 : decode cX12_run 73 = .ok (.iload_n 1, 1) := by decide +kernel
theorem dX12_run_74 : decode cX12_run 74 = .ok (.iaload, 1) := by decide +kernel
theorem dX12_run_75 : decode cX12_run 75 = .ok (.goto 9, 3) := by decide +kernel
theorem dX12_run_78 : decode cX12_run 78 = .ok (.aload_n 0, 1) := by decide +kernel
theorem dX12_run_79 : decode cX12_run 79 = .ok (.getfield 155, 3) := by decide +kernel
theorem dX12_run_82 : decode cX12_run 82 = .ok (.iload_n 1, 1) := by decide +kernel
theorem dX12_run_83 : decode cX12_run 83 = .ok (.iaload, 1) := by decide +kernel
theorem dX12_run_84 : decode cX12_run 84 = .ok (.ireturn, 1) := by decide +kernel
def fX12_run (a1 : Int32) (a2 : Int32) (a3 : Int32) (a4 : Int32) (h : Hp) : Option (Int32 × Hp) := bi (fX12_hasLetter a1 h) (fun w2 h1 => (if w2 = 0 then some ((-1), h1) else bi (fX12_isKnown a2 h1) (fun w4 h3 => (if w4 = 0 then some ((-1), h3) else bi (fX12_in a3 1 20 h3) (fun w6 h5 => (if w6 = 0 then some ((-1), h5) else bi (fX12_in a4 0 2 h5) (fun w8 h7 => (if w8 = 0 then some ((-1), h7) else bv (fX12_runs a2 a3 0 0 0 59 h7) (fun h9 => (if a4 = 0 then ck (inb a1 10) (some ((h9.1 44 (ix a1)), h9)) else (if a4 = 1 then ck (inb a1 10) (some ((h9.1 45 (ix a1)), h9)) else ck (inb a1 10) (some ((h9.1 46 (ix a1)), h9)))))))))))))
set_option maxRecDepth 20000 in
theorem tX12_run (Z : ZT) (a1 : Int32) (a2 : Int32) (a3 : Int32) (a4 : Int32) (hz : HZM Z) (h : Hp) (r : Int32) (hr : Hp) (hF : fX12_run a1 a2 a3 a4 h = some (r, hr)) : MC Z yX12_run cX12_run 5 (some .int) 7 [.ref (Z.2.1 0), .int a1, .int a2, .int a3, .int a4] h (some (.int r)) hr := by
  unfold fX12_run at hF
  refine mc_start (by decide) (Nat.le_of_ble_eq_true rfl) (fun G X E => ?_)
  refine j_aload_n (pc := 0) 0 X dX12_run_0 rfl ?_
  refine j_iload_n (pc := 1) 1 X dX12_run_1 rfl ?_
  refine j_cVi (pc := 2) (As := [.int a1]) (rest := []) X dX12_run_2 ml_X12_400 ck_X12_hasLetter cv_X12_hasLetter (hz _ sh_0) rfl (Nat.le_of_ble_eq_true rfl) rfl (Nat.le_of_ble_eq_true rfl) rfl hF (tX12_hasLetter Z a1 hz h) (fun w2 h1 hF => ?_)
  refine j_if_eq (pc := 5) 36 X dX12_run_5 rfl hF (fun hF => ?_) (fun hF => ?_)
  · refine j_iconst (pc := 36) (-1) X dX12_run_36 rfl ?_
    exact j_iret (pc := 37) X E dX12_run_37 hF
  · refine j_aload_n (pc := 8) 0 X dX12_run_8 rfl ?_
    refine j_iload_n (pc := 9) 2 X dX12_run_9 rfl ?_
    refine j_cVi (pc := 10) (As := [.int a2]) (rest := []) X dX12_run_10 ml_X12_435 ck_X12_isKnown cv_X12_isKnown (hz _ sh_0) rfl (Nat.le_of_ble_eq_true rfl) rfl (Nat.le_of_ble_eq_true rfl) rfl hF (tX12_isKnown Z a2 hz h1) (fun w4 h3 hF => ?_)
    refine j_if_eq (pc := 13) 36 X dX12_run_13 rfl hF (fun hF => ?_) (fun hF => ?_)
    · refine j_iconst (pc := 36) (-1) X dX12_run_36 rfl ?_
      exact j_iret (pc := 37) X E dX12_run_37 hF
    · refine j_iload_n (pc := 16) 3 X dX12_run_16 rfl ?_
      refine j_iconst (pc := 17) 1 X dX12_run_17 rfl ?_
      refine j_bipush (pc := 18) 20 X dX12_run_18 rfl ?_
      refine j_cSi (pc := 20) (As := [.int a3, .int 1, .int 20]) (rest := []) X dX12_run_20 ml_X12_383 ck_X12_in sk_X12_in (Nat.le_of_ble_eq_true rfl) rfl (Nat.le_of_ble_eq_true rfl) rfl hF (tX12_in Z a3 1 20 trivial h3) (fun w6 h5 hF => ?_)
      refine j_if_eq (pc := 23) 36 X dX12_run_23 rfl hF (fun hF => ?_) (fun hF => ?_)
      · refine j_iconst (pc := 36) (-1) X dX12_run_36 rfl ?_
        exact j_iret (pc := 37) X E dX12_run_37 hF
      · refine j_iload (pc := 26) 4 X dX12_run_26 rfl ?_
        refine j_iconst (pc := 28) 0 X dX12_run_28 rfl ?_
        refine j_iconst (pc := 29) 2 X dX12_run_29 rfl ?_
        refine j_cSi (pc := 30) (As := [.int a4, .int 0, .int 2]) (rest := []) X dX12_run_30 ml_X12_383 ck_X12_in sk_X12_in (Nat.le_of_ble_eq_true rfl) rfl (Nat.le_of_ble_eq_true rfl) rfl hF (tX12_in Z a4 0 2 trivial h5) (fun w8 h7 hF => ?_)
        refine j_if_ne (pc := 33) 38 X dX12_run_33 rfl hF (fun hF => ?_) (fun hF => ?_)
        · refine j_aload_n (pc := 38) 0 X dX12_run_38 rfl ?_
          refine j_iload_n (pc := 39) 2 X dX12_run_39 rfl ?_
          refine j_iload_n (pc := 40) 3 X dX12_run_40 rfl ?_
          refine j_iconst (pc := 41) 0 X dX12_run_41 rfl ?_
          refine j_iconst (pc := 42) 0 X dX12_run_42 rfl ?_
          refine j_iconst (pc := 43) 0 X dX12_run_43 rfl ?_
          refine j_bipush (pc := 44) 59 X dX12_run_44 rfl ?_
          refine j_cVv (pc := 46) (As := [.int a2, .int a3, .int 0, .int 0, .int 0, .int 59]) (rest := []) X dX12_run_46 ml_X12_482 ck_X12_runs cv_X12_runs (hz _ sh_0) rfl (Nat.le_of_ble_eq_true rfl) rfl (Nat.le_of_ble_eq_true rfl) rfl hF (tX12_runs Z a2 a3 0 0 0 59 hz h7) (fun h9 hF => ?_)
          refine j_iload (pc := 49) 4 X dX12_run_49 rfl ?_
          refine j_if_ne (pc := 51) 63 X dX12_run_51 rfl hF (fun hF => ?_) (fun hF => ?_)
          · refine j_iload (pc := 63) 4 X dX12_run_63 rfl ?_
            refine j_iconst (pc := 65) 1 X dX12_run_65 rfl ?_
            refine j_icmp_ne (pc := 66) 78 X dX12_run_66 rfl hF (fun hF => ?_) (fun hF => ?_)
            · refine j_aload_n (pc := 78) 0 X dX12_run_78 rfl ?_
              refine j_getr (pc := 79) X dX12_run_79 (hz _ sh_0) fl_X12_155 rfl ?_
              refine j_iload_n (pc := 82) 1 X dX12_run_82 rfl ?_
              refine j_iald (pc := 83) X dX12_run_83 (hz _ sh_46) hF (fun hF => ?_)
              exact j_iret (pc := 84) X E dX12_run_84 hF
            · refine j_aload_n (pc := 69) 0 X dX12_run_69 rfl ?_
              refine j_getr (pc := 70) X dX12_run_70 (hz _ sh_0) fl_X12_152 rfl ?_
              refine j_iload_n (pc := 73) 1 X dX12_run_73 rfl ?_
              refine j_iald (pc := 74) X dX12_run_74 (hz _ sh_45) hF (fun hF => ?_)
              refine j_goto (pc := 75) 84 X dX12_run_75 rfl ?_
              exact j_iret (pc := 84) X E dX12_run_84 hF
          · refine j_aload_n (pc := 54) 0 X dX12_run_54 rfl ?_
            refine j_getr (pc := 55) X dX12_run_55 (hz _ sh_0) fl_X12_149 rfl ?_
            refine j_iload_n (pc := 58) 1 X dX12_run_58 rfl ?_
            refine j_iald (pc := 59) X dX12_run_59 (hz _ sh_44) hF (fun hF => ?_)
            refine j_goto (pc := 60) 84 X dX12_run_60 rfl ?_
            exact j_iret (pc := 84) X E dX12_run_84 hF
        · refine j_iconst (pc := 36) (-1) X dX12_run_36 rfl ?_
          exact j_iret (pc := 37) X E dX12_run_37 hF
theorem dX12_opened_0 : decode cX12_opened 0 = .ok (.iload_n 1, 1) := by decide +kernel
theorem dX12_opened_1 : decode cX12_opened 1 = .ok (.invokestatic 412, 3) := by decide +kernel
theorem dX12_opened_4 : decode cX12_opened 4 = .ok (.ifCond .eq 11, 3) := by decide +kernel
theorem dX12_opened_7 : decode cX12_opened 7 = .ok (.aload_n 0, 1) := by decide +kernel
theorem dX12_opened_8 : decode cX12_opened 8 = .ok (.iload_n 2, 1) := by decide +kernel
theorem dX12_opened_9 : decode cX12_opened 9 = .ok (.invokevirtual 435, 3) := by decide +kernel
theorem dX12_opened_12 : decode cX12_opened 12 = .ok (.ifCond .ne 5, 3) := by decide +kernel
theorem dX12_opened_15 : decode cX12_opened 15 = .ok (.iconst (-1), 1) := by decide +kernel
theorem dX12_opened_16 : decode cX12_opened 16 = .ok (.ireturn, 1) := by decide +kernel
theorem dX12_opened_17 : decode cX12_opened 17 = .ok (.aload_n 0, 1) := by decide +kernel
theorem dX12_opened_18 : decode cX12_opened 18 = .ok (.iload_n 2, 1) := by decide +kernel
theorem dX12_opened_19 : decode cX12_opened 19 = .ok (.iconst 1, 1) := by decide +kernel
theorem dX12_opened_20 : decode cX12_opened 20 = .ok (.iconst 0, 1) := by decide +kernel
theorem dX12_opened_21 : decode cX12_opened 21 = .ok (.iconst 0, 1) := by decide +kernel
theorem dX12_opened_22 : decode cX12_opened 22 = .ok (.iconst 0, 1) := by decide +kernel
theorem dX12_opened_23 : decode cX12_opened 23 = .ok (.iload_n 1, 1) := by decide +kernel
theorem dX12_opened_24 : decode cX12_opened 24 = .ok (.invokevirtual 482, 3) := by decide +kernel
theorem dX12_opened_27 : decode cX12_opened 27 = .ok (.iload_n 3, 1) := by decide +kernel
theorem dX12_opened_28 : decode cX12_opened 28 = .ok (.iconst 0, 1) := by decide +kernel
theorem dX12_opened_29 : decode cX12_opened 29 = .ok (.aload_n 0, 1) := by decide +kernel
theorem dX12_opened_30 : decode cX12_opened 30 = .ok (.getfield 450, 3) := by decide +kernel
theorem dX12_opened_33 : decode cX12_opened 33 = .ok (.iconst 1, 1) := by decide +kernel
theorem dX12_opened_34 : decode cX12_opened 34 = .ok (.isub, 1) := by decide +kernel
theorem dX12_opened_35 : decode cX12_opened 35 = .ok (.invokestatic 383, 3) := by decide +kernel
theorem dX12_opened_38 : decode cX12_opened 38 = .ok (.ifCond .eq 12, 3) := by decide +kernel
theorem dX12_opened_41 : decode cX12_opened 41 = .ok (.aload_n 0, 1) := by decide +kernel
theorem dX12_opened_42 : decode cX12_opened 42 = .ok (.getfield 167, 3) := by decide +kernel
theorem dX12_opened_45 : decode cX12_opened 45 = .ok (.iload_n 3, 1) := by decide +kernel
theorem dX12_opened_46 : decode cX12_opened 46 = .ok (.iaload, 1) := by decide +kernel
theorem dX12_opened_47 : decode cX12_opened 47 = .ok (.goto 4, 3) := by decide +kernel
theorem dX12_opened_50 : decode cX12_opened 50 = .ok (.iconst (-1), 1) := by decide +kernel
theorem dX12_opened_51 : decode cX12_opened 51 = .ok (.ireturn, 1) := by decide +kernel
def fX12_opened (a1 : Int32) (a2 : Int32) (a3 : Int32) (h : Hp) : Option (Int32 × Hp) := bi (fX12_isYear a1 h) (fun w2 h1 => (if w2 = 0 then some ((-1), h1) else bi (fX12_isKnown a2 h1) (fun w4 h3 => (if w4 = 0 then some ((-1), h3) else bv (fX12_runs a2 1 0 0 0 a1 h3) (fun h5 => bi (fX12_in a3 0 ((h5.1 0 73) - 1) h5) (fun w7 h6 => (if w7 = 0 then some ((-1), h6) else ck (inb a3 10) (some ((h6.1 50 (ix a3)), h6)))))))))
set_option maxRecDepth 20000 in
theorem tX12_opened (Z : ZT) (a1 : Int32) (a2 : Int32) (a3 : Int32) (hz : HZM Z) (h : Hp) (r : Int32) (hr : Hp) (hF : fX12_opened a1 a2 a3 h = some (r, hr)) : MC Z yX12_opened cX12_opened 4 (some .int) 7 [.ref (Z.2.1 0), .int a1, .int a2, .int a3] h (some (.int r)) hr := by
  unfold fX12_opened at hF
  refine mc_start (by decide) (Nat.le_of_ble_eq_true rfl) (fun G X E => ?_)
  refine j_iload_n (pc := 0) 1 X dX12_opened_0 rfl ?_
  refine j_cSi (pc := 1) (As := [.int a1]) (rest := []) X dX12_opened_1 ml_X12_412 ck_X12_isYear sk_X12_isYear (Nat.le_of_ble_eq_true rfl) rfl (Nat.le_of_ble_eq_true rfl) rfl hF (tX12_isYear Z a1 trivial h) (fun w2 h1 hF => ?_)
  refine j_if_eq (pc := 4) 15 X dX12_opened_4 rfl hF (fun hF => ?_) (fun hF => ?_)
  · refine j_iconst (pc := 15) (-1) X dX12_opened_15 rfl ?_
    exact j_iret (pc := 16) X E dX12_opened_16 hF
  · refine j_aload_n (pc := 7) 0 X dX12_opened_7 rfl ?_
    refine j_iload_n (pc := 8) 2 X dX12_opened_8 rfl ?_
    refine j_cVi (pc := 9) (As := [.int a2]) (rest := []) X dX12_opened_9 ml_X12_435 ck_X12_isKnown cv_X12_isKnown (hz _ sh_0) rfl (Nat.le_of_ble_eq_true rfl) rfl (Nat.le_of_ble_eq_true rfl) rfl hF (tX12_isKnown Z a2 hz h1) (fun w4 h3 hF => ?_)
    refine j_if_ne (pc := 12) 17 X dX12_opened_12 rfl hF (fun hF => ?_) (fun hF => ?_)
    · refine j_aload_n (pc := 17) 0 X dX12_opened_17 rfl ?_
      refine j_iload_n (pc := 18) 2 X dX12_opened_18 rfl ?_
      refine j_iconst (pc := 19) 1 X dX12_opened_19 rfl ?_
      refine j_iconst (pc := 20) 0 X dX12_opened_20 rfl ?_
      refine j_iconst (pc := 21) 0 X dX12_opened_21 rfl ?_
      refine j_iconst (pc := 22) 0 X dX12_opened_22 rfl ?_
      refine j_iload_n (pc := 23) 1 X dX12_opened_23 rfl ?_
      refine j_cVv (pc := 24) (As := [.int a2, .int 1, .int 0, .int 0, .int 0, .int a1]) (rest := []) X dX12_opened_24 ml_X12_482 ck_X12_runs cv_X12_runs (hz _ sh_0) rfl (Nat.le_of_ble_eq_true rfl) rfl (Nat.le_of_ble_eq_true rfl) rfl hF (tX12_runs Z a2 1 0 0 0 a1 hz h3) (fun h5 hF => ?_)
      refine j_iload_n (pc := 27) 3 X dX12_opened_27 rfl ?_
      refine j_iconst (pc := 28) 0 X dX12_opened_28 rfl ?_
      refine j_aload_n (pc := 29) 0 X dX12_opened_29 rfl ?_
      refine j_geti (pc := 30) X dX12_opened_30 (hz _ sh_0) fl_X12_450 rfl ?_
      refine j_iconst (pc := 33) 1 X dX12_opened_33 rfl ?_
      refine j_isub (pc := 34) X dX12_opened_34 ?_
      refine j_cSi (pc := 35) (As := [.int a3, .int 0, .int ((h5.1 0 73) - 1)]) (rest := []) X dX12_opened_35 ml_X12_383 ck_X12_in sk_X12_in (Nat.le_of_ble_eq_true rfl) rfl (Nat.le_of_ble_eq_true rfl) rfl hF (tX12_in Z a3 0 ((h5.1 0 73) - 1) trivial h5) (fun w7 h6 hF => ?_)
      refine j_if_eq (pc := 38) 50 X dX12_opened_38 rfl hF (fun hF => ?_) (fun hF => ?_)
      · refine j_iconst (pc := 50) (-1) X dX12_opened_50 rfl ?_
        exact j_iret (pc := 51) X E dX12_opened_51 hF
      · refine j_aload_n (pc := 41) 0 X dX12_opened_41 rfl ?_
        refine j_getr (pc := 42) X dX12_opened_42 (hz _ sh_0) fl_X12_167 rfl ?_
        refine j_iload_n (pc := 45) 3 X dX12_opened_45 rfl ?_
        refine j_iald (pc := 46) X dX12_opened_46 (hz _ sh_50) hF (fun hF => ?_)
        refine j_goto (pc := 47) 51 X dX12_opened_47 rfl ?_
        exact j_iret (pc := 51) X E dX12_opened_51 hF
    · refine j_iconst (pc := 15) (-1) X dX12_opened_15 rfl ?_
      exact j_iret (pc := 16) X E dX12_opened_16 hF
theorem dX12_why_0 : decode cX12_why 0 = .ok (.aload_n 0, 1) := by decide +kernel
theorem dX12_why_1 : decode cX12_why 1 = .ok (.iload_n 1, 1) := by decide +kernel
theorem dX12_why_2 : decode cX12_why 2 = .ok (.invokevirtual 400, 3) := by decide +kernel
theorem dX12_why_5 : decode cX12_why 5 = .ok (.ifCond .eq 18, 3) := by decide +kernel
theorem dX12_why_8 : decode cX12_why 8 = .ok (.iload_n 2, 1) := by decide +kernel
theorem dX12_why_9 : decode cX12_why 9 = .ok (.invokestatic 412, 3) := by decide +kernel
theorem dX12_why_12 : decode cX12_why 12 = .ok (.ifCond .eq 11, 3) := by decide +kernel
theorem dX12_why_15 : decode cX12_why 15 = .ok (.aload_n 0, 1) := by decide +kernel
theorem dX12_why_16 : decode cX12_why 16 = .ok (.iload_n 3, 1) := by decide +kernel
theorem dX12_why_17 : decode cX12_why 17 = .ok (.invokevirtual 435, 3) := by decide +kernel
theorem dX12_why_20 : decode cX12_why 20 = .ok (.ifCond .ne 5, 3) := by decide +kernel
theorem dX12_why_23 : decode cX12_why 23 = .ok (.iconst (-1), 1) := by decide +kernel
theorem dX12_why_24 : decode cX12_why 24 = .ok (.ireturn, 1) := by decide +kernel
theorem dX12_why_25 : decode cX12_why 25 = .ok (.aload_n 0, 1) := by decide +kernel
theorem dX12_why_26 : decode cX12_why 26 = .ok (.iload_n 3, 1) := by decide +kernel
theorem dX12_why_27 : decode cX12_why 27 = .ok (.iconst 1, 1) := by decide +kernel
theorem dX12_why_28 : decode cX12_why 28 = .ok (.iconst 0, 1) := by decide +kernel
theorem dX12_why_29 : decode cX12_why 29 = .ok (.iconst 0, 1) := by decide +kernel
theorem dX12_why_30 : decode cX12_why 30 = .ok (.iconst 0, 1) := by decide +kernel
theorem dX12_why_31 : decode cX12_why 31 = .ok (.iload_n 2, 1) := by decide +kernel
theorem dX12_why_32 : decode cX12_why 32 = .ok (.invokevirtual 482, 3) := by decide +kernel
theorem dX12_why_35 : decode cX12_why 35 = .ok (.aload_n 0, 1) := by decide +kernel
theorem dX12_why_36 : decode cX12_why 36 = .ok (.getfield 149, 3) := by decide +kernel
theorem dX12_why_39 : decode cX12_why 39 = .ok (.iload_n 1, 1) := by decide +kernel
theorem dX12_why_40 : decode cX12_why 40 = .ok (.iaload, 1) := by decide +kernel
theorem dX12_why_41 : decode cX12_why 41 = .ok (.iconst 1, 1) := by decide +kernel
theorem dX12_why_42 : decode cX12_why 42 = .ok (.if_icmp .eq 13, 3) := by decide +kernel
theorem dX12_why_45 : decode cX12_why 45 = .ok (.aload_n 0, 1) := by decide +kernel
theorem dX12_why_46 : decode cX12_why 46 = .ok (.getfield 149, 3) := by decide +kernel
theorem dX12_why_49 : decode cX12_why 49 = .ok (.iload_n 1, 1) := by decide +kernel
theorem dX12_why_50 : decode cX12_why 50 = .ok (.iaload, 1) := by decide +kernel
theorem dX12_why_51 : decode cX12_why 51 = .ok (.iconst 2, 1) := by decide +kernel
theorem dX12_why_52 : decode cX12_why 52 = .ok (.if_icmp .ne 5, 3) := by decide +kernel
theorem dX12_why_55 : decode cX12_why 55 = .ok (.iconst 0, 1) := by decide +kernel
theorem dX12_why_56 : decode cX12_why 56 = .ok (.ireturn, 1) := by decide +kernel
theorem dX12_why_57 : decode cX12_why 57 = .ok (.aload_n 0, 1) := by decide +kernel
theorem dX12_why_58 : decode cX12_why 58 = .ok (.getfield 149, 3) := by decide +kernel
theorem dX12_why_61 : decode cX12_why 61 = .ok (.iload_n 1, 1) := by decide +kernel
theorem dX12_why_62 : decode cX12_why 62 = .ok (.iaload, 1) := by decide +kernel
theorem dX12_why_63 : decode cX12_why 63 = .ok (.ifCond .eq 5, 3) := by decide +kernel
theorem dX12_why_66 : decode cX12_why 66 = .ok (.iconst 1, 1) := by decide +kernel
theorem dX12_why_67 : decode cX12_why 67 = .ok (.ireturn, 1) := by decide +kernel
theorem dX12_why_68 : decode cX12_why 68 = .ok (.aload_n 0, 1) := by decide +kernel
theorem dX12_why_69 : decode cX12_why 69 = .ok (.iload_n 1, 1) := by decide +kernel
theorem dX12_why_70 : decode cX12_why 70 = .ok (.iload_n 2, 1) := by decide +kernel
theorem dX12_why_71 : decode cX12_why 71 = .ok (.aload_n 0, 1) := by decide +kernel
theorem dX12_why_72 : decode cX12_why 72 = .ok (.getfield 441, 3) := by decide +kernel
theorem dX12_why_75 : decode cX12_why 75 = .ok (.aload_n 0, 1) := by decide +kernel
theorem dX12_why_76 : decode cX12_why 76 = .ok (.getfield 444, 3) := by decide +kernel
theorem dX12_why_79 : decode cX12_why 79 = .ok (.invokevirtual 456, 3) := by decide +kernel
theorem dX12_why_82 : decode cX12_why 82 = .ok (.ifCond .ne 5, 3) := by decide +kernel
theorem dX12_why_85 : decode cX12_why 85 = .ok (.iconst 2, 1) := by decide +kernel
theorem dX12_why_86 : decode cX12_why 86 = .ok (.ireturn, 1) := by decide +kernel
theorem dX12_why_87 : decode cX12_why 87 = .ok (.aload_n 0, 1) := by decide +kernel
theorem dX12_why_88 : decode cX12_why 88 = .ok (.getfield 158, 3) := by decide +kernel
theorem dX12_why_91 : decode cX12_why 91 = .ok (.iload_n 1, 1) := by decide +kernel
theorem dX12_why_92 : decode cX12_why 92 = .ok (.iaload, 1) := by decide +kernel
theorem dX12_why_93 : decode cX12_why 93 = .ok (.iload_n 2, 1) := by decide +kernel
theorem dX12_why_94 : decode cX12_why 94 = .ok (.if_icmp .le 5, 3) := by decide +kernel
theorem dX12_why_97 : decode cX12_why 97 = .ok (.iconst 3, 1) := by decide +kernel
theorem dX12_why_98 : decode cX12_why 98 = .ok (.ireturn, 1) := by decide +kernel
theorem dX12_why_99 : decode cX12_why 99 = .ok (.aload_n 0, 1) := by decide +kernel
theorem dX12_why_100 : decode cX12_why 100 = .ok (.getfield 441, 3) := by decide +kernel
theorem dX12_why_103 : decode cX12_why 103 = .ok (.aload_n 0, 1) := by decide +kernel
theorem dX12_why_104 : decode cX12_why 104 = .ok (.iload_n 1, 1) := by decide +kernel
theorem dX12_why_105 : decode cX12_why 105 = .ok (.invokevirtual 406, 3) := by decide +kernel
theorem dX12_why_108 : decode cX12_why 108 = .ok (.ishr, 1) := by decide +kernel
theorem dX12_why_109 : decode cX12_why 109 = .ok (.iconst 1, 1) := by decide +kernel
theorem dX12_why_110 : decode cX12_why 110 = .ok (.iand, 1) := by decide +kernel
theorem dX12_why_111 : decode cX12_why 111 = .ok (.iconst 1, 1) := by decide +kernel
theorem dX12_why_112 : decode cX12_why 112 = .ok (.if_icmp .ne 7, 3) := by decide +kernel
theorem dX12_why_115 : decode cX12_why 115 = .ok (.iconst 4, 1) := by decide +kernel
theorem dX12_why_116 : decode cX12_why 116 = .ok (.goto 4, 3) := by decide +kernel
theorem dX12_why_119 : decode cX12_why 119 = .ok (.iconst 5, 1) := by decide +kernel
theorem dX12_why_120 : decode cX12_why 120 = .ok (.ireturn, 1) := by decide +kernel
def fX12_why (a1 : Int32) (a2 : Int32) (a3 : Int32) (h : Hp) : Option (Int32 × Hp) := bi (fX12_hasLetter a1 h) (fun w2 h1 => (if w2 = 0 then some ((-1), h1) else bi (fX12_isYear a2 h1) (fun w4 h3 => (if w4 = 0 then some ((-1), h3) else bi (fX12_isKnown a3 h3) (fun w6 h5 => (if w6 = 0 then some ((-1), h5) else bv (fX12_runs a3 1 0 0 0 a2 h5) (fun h7 => ck (inb a1 10) ((if (h7.1 44 (ix a1)) = 1 then some (0, h7) else ck (inb a1 10) ((if (h7.1 44 (ix a1)) = 2 then some (0, h7) else ck (inb a1 10) ((if (h7.1 44 (ix a1)) = 0 then bi (fX12_holdsFor a1 a2 (h7.1 0 69) (h7.1 0 70) h7) (fun w9 h8 => (if w9 = 0 then some (2, h8) else ck (inb a1 10) ((if (h8.1 47 (ix a1)) ≤ a2 then bi (fX12_reader a1 h8) (fun w11 h10 => (if (((h8.1 0 69) >>> (w11 &&& 31)) &&& 1) = 1 then some (4, h10) else some (5, h10))) else some (3, h8))))) else some (1, h7))))))))))))))
set_option maxRecDepth 20000 in
theorem tX12_why (Z : ZT) (a1 : Int32) (a2 : Int32) (a3 : Int32) (hz : HZM Z) (h : Hp) (r : Int32) (hr : Hp) (hF : fX12_why a1 a2 a3 h = some (r, hr)) : MC Z yX12_why cX12_why 4 (some .int) 7 [.ref (Z.2.1 0), .int a1, .int a2, .int a3] h (some (.int r)) hr := by
  unfold fX12_why at hF
  refine mc_start (by decide) (Nat.le_of_ble_eq_true rfl) (fun G X E => ?_)
  refine j_aload_n (pc := 0) 0 X dX12_why_0 rfl ?_
  refine j_iload_n (pc := 1) 1 X dX12_why_1 rfl ?_
  refine j_cVi (pc := 2) (As := [.int a1]) (rest := []) X dX12_why_2 ml_X12_400 ck_X12_hasLetter cv_X12_hasLetter (hz _ sh_0) rfl (Nat.le_of_ble_eq_true rfl) rfl (Nat.le_of_ble_eq_true rfl) rfl hF (tX12_hasLetter Z a1 hz h) (fun w2 h1 hF => ?_)
  refine j_if_eq (pc := 5) 23 X dX12_why_5 rfl hF (fun hF => ?_) (fun hF => ?_)
  · refine j_iconst (pc := 23) (-1) X dX12_why_23 rfl ?_
    exact j_iret (pc := 24) X E dX12_why_24 hF
  · refine j_iload_n (pc := 8) 2 X dX12_why_8 rfl ?_
    refine j_cSi (pc := 9) (As := [.int a2]) (rest := []) X dX12_why_9 ml_X12_412 ck_X12_isYear sk_X12_isYear (Nat.le_of_ble_eq_true rfl) rfl (Nat.le_of_ble_eq_true rfl) rfl hF (tX12_isYear Z a2 trivial h1) (fun w4 h3 hF => ?_)
    refine j_if_eq (pc := 12) 23 X dX12_why_12 rfl hF (fun hF => ?_) (fun hF => ?_)
    · refine j_iconst (pc := 23) (-1) X dX12_why_23 rfl ?_
      exact j_iret (pc := 24) X E dX12_why_24 hF
    · refine j_aload_n (pc := 15) 0 X dX12_why_15 rfl ?_
      refine j_iload_n (pc := 16) 3 X dX12_why_16 rfl ?_
      refine j_cVi (pc := 17) (As := [.int a3]) (rest := []) X dX12_why_17 ml_X12_435 ck_X12_isKnown cv_X12_isKnown (hz _ sh_0) rfl (Nat.le_of_ble_eq_true rfl) rfl (Nat.le_of_ble_eq_true rfl) rfl hF (tX12_isKnown Z a3 hz h3) (fun w6 h5 hF => ?_)
      refine j_if_ne (pc := 20) 25 X dX12_why_20 rfl hF (fun hF => ?_) (fun hF => ?_)
      · refine j_aload_n (pc := 25) 0 X dX12_why_25 rfl ?_
        refine j_iload_n (pc := 26) 3 X dX12_why_26 rfl ?_
        refine j_iconst (pc := 27) 1 X dX12_why_27 rfl ?_
        refine j_iconst (pc := 28) 0 X dX12_why_28 rfl ?_
        refine j_iconst (pc := 29) 0 X dX12_why_29 rfl ?_
        refine j_iconst (pc := 30) 0 X dX12_why_30 rfl ?_
        refine j_iload_n (pc := 31) 2 X dX12_why_31 rfl ?_
        refine j_cVv (pc := 32) (As := [.int a3, .int 1, .int 0, .int 0, .int 0, .int a2]) (rest := []) X dX12_why_32 ml_X12_482 ck_X12_runs cv_X12_runs (hz _ sh_0) rfl (Nat.le_of_ble_eq_true rfl) rfl (Nat.le_of_ble_eq_true rfl) rfl hF (tX12_runs Z a3 1 0 0 0 a2 hz h5) (fun h7 hF => ?_)
        refine j_aload_n (pc := 35) 0 X dX12_why_35 rfl ?_
        refine j_getr (pc := 36) X dX12_why_36 (hz _ sh_0) fl_X12_149 rfl ?_
        refine j_iload_n (pc := 39) 1 X dX12_why_39 rfl ?_
        refine j_iald (pc := 40) X dX12_why_40 (hz _ sh_44) hF (fun hF => ?_)
        refine j_iconst (pc := 41) 1 X dX12_why_41 rfl ?_
        refine j_icmp_eq (pc := 42) 55 X dX12_why_42 rfl hF (fun hF => ?_) (fun hF => ?_)
        · refine j_iconst (pc := 55) 0 X dX12_why_55 rfl ?_
          exact j_iret (pc := 56) X E dX12_why_56 hF
        · refine j_aload_n (pc := 45) 0 X dX12_why_45 rfl ?_
          refine j_getr (pc := 46) X dX12_why_46 (hz _ sh_0) fl_X12_149 rfl ?_
          refine j_iload_n (pc := 49) 1 X dX12_why_49 rfl ?_
          refine j_iald (pc := 50) X dX12_why_50 (hz _ sh_44) hF (fun hF => ?_)
          refine j_iconst (pc := 51) 2 X dX12_why_51 rfl ?_
          refine j_icmp_ne (pc := 52) 57 X dX12_why_52 rfl hF (fun hF => ?_) (fun hF => ?_)
          · refine j_aload_n (pc := 57) 0 X dX12_why_57 rfl ?_
            refine j_getr (pc := 58) X dX12_why_58 (hz _ sh_0) fl_X12_149 rfl ?_
            refine j_iload_n (pc := 61) 1 X dX12_why_61 rfl ?_
            refine j_iald (pc := 62) X dX12_why_62 (hz _ sh_44) hF (fun hF => ?_)
            refine j_if_eq (pc := 63) 68 X dX12_why_63 rfl hF (fun hF => ?_) (fun hF => ?_)
            · refine j_aload_n (pc := 68) 0 X dX12_why_68 rfl ?_
              refine j_iload_n (pc := 69) 1 X dX12_why_69 rfl ?_
              refine j_iload_n (pc := 70) 2 X dX12_why_70 rfl ?_
              refine j_aload_n (pc := 71) 0 X dX12_why_71 rfl ?_
              refine j_geti (pc := 72) X dX12_why_72 (hz _ sh_0) fl_X12_441 rfl ?_
              refine j_aload_n (pc := 75) 0 X dX12_why_75 rfl ?_
              refine j_geti (pc := 76) X dX12_why_76 (hz _ sh_0) fl_X12_444 rfl ?_
              refine j_cVi (pc := 79) (As := [.int a1, .int a2, .int (h7.1 0 69), .int (h7.1 0 70)]) (rest := []) X dX12_why_79 ml_X12_456 ck_X12_holdsFor cv_X12_holdsFor (hz _ sh_0) rfl (Nat.le_of_ble_eq_true rfl) rfl (Nat.le_of_ble_eq_true rfl) rfl hF (tX12_holdsFor Z a1 a2 (h7.1 0 69) (h7.1 0 70) hz h7) (fun w9 h8 hF => ?_)
              refine j_if_ne (pc := 82) 87 X dX12_why_82 rfl hF (fun hF => ?_) (fun hF => ?_)
              · refine j_aload_n (pc := 87) 0 X dX12_why_87 rfl ?_
                refine j_getr (pc := 88) X dX12_why_88 (hz _ sh_0) fl_X12_158 rfl ?_
                refine j_iload_n (pc := 91) 1 X dX12_why_91 rfl ?_
                refine j_iald (pc := 92) X dX12_why_92 (hz _ sh_47) hF (fun hF => ?_)
                refine j_iload_n (pc := 93) 2 X dX12_why_93 rfl ?_
                refine j_icmp_le (pc := 94) 99 X dX12_why_94 rfl hF (fun hF => ?_) (fun hF => ?_)
                · refine j_aload_n (pc := 99) 0 X dX12_why_99 rfl ?_
                  refine j_geti (pc := 100) X dX12_why_100 (hz _ sh_0) fl_X12_441 rfl ?_
                  refine j_aload_n (pc := 103) 0 X dX12_why_103 rfl ?_
                  refine j_iload_n (pc := 104) 1 X dX12_why_104 rfl ?_
                  refine j_cVi (pc := 105) (As := [.int a1]) (rest := [.int (h8.1 0 69)]) X dX12_why_105 ml_X12_406 ck_X12_reader cv_X12_reader (hz _ sh_0) rfl (Nat.le_of_ble_eq_true rfl) rfl (Nat.le_of_ble_eq_true rfl) rfl hF (tX12_reader Z a1 hz h8) (fun w11 h10 hF => ?_)
                  refine j_ishr (pc := 108) X dX12_why_108 ?_
                  refine j_iconst (pc := 109) 1 X dX12_why_109 rfl ?_
                  refine j_iand (pc := 110) X dX12_why_110 ?_
                  refine j_iconst (pc := 111) 1 X dX12_why_111 rfl ?_
                  refine j_icmp_ne (pc := 112) 119 X dX12_why_112 rfl hF (fun hF => ?_) (fun hF => ?_)
                  · refine j_iconst (pc := 119) 5 X dX12_why_119 rfl ?_
                    exact j_iret (pc := 120) X E dX12_why_120 hF
                  · refine j_iconst (pc := 115) 4 X dX12_why_115 rfl ?_
                    refine j_goto (pc := 116) 120 X dX12_why_116 rfl ?_
                    exact j_iret (pc := 120) X E dX12_why_120 hF
                · refine j_iconst (pc := 97) 3 X dX12_why_97 rfl ?_
                  exact j_iret (pc := 98) X E dX12_why_98 hF
              · refine j_iconst (pc := 85) 2 X dX12_why_85 rfl ?_
                exact j_iret (pc := 86) X E dX12_why_86 hF
            · refine j_iconst (pc := 66) 1 X dX12_why_66 rfl ?_
              exact j_iret (pc := 67) X E dX12_why_67 hF
          · refine j_iconst (pc := 55) 0 X dX12_why_55 rfl ?_
            exact j_iret (pc := 56) X E dX12_why_56 hF
      · refine j_iconst (pc := 23) (-1) X dX12_why_23 rfl ?_
        exact j_iret (pc := 24) X E dX12_why_24 hF
theorem dX12_harm_0 : decode cX12_harm 0 = .ok (.aload_n 0, 1) := by decide +kernel
theorem dX12_harm_1 : decode cX12_harm 1 = .ok (.iload_n 1, 1) := by decide +kernel
theorem dX12_harm_2 : decode cX12_harm 2 = .ok (.invokevirtual 435, 3) := by decide +kernel
theorem dX12_harm_5 : decode cX12_harm 5 = .ok (.ifCond .ne 5, 3) := by decide +kernel
theorem dX12_harm_8 : decode cX12_harm 8 = .ok (.iconst (-1), 1) := by decide +kernel
theorem dX12_harm_9 : decode cX12_harm 9 = .ok (.ireturn, 1) := by decide +kernel
theorem dX12_harm_10 : decode cX12_harm 10 = .ok (.aload_n 0, 1) := by decide +kernel
theorem dX12_harm_11 : decode cX12_harm 11 = .ok (.iload_n 1, 1) := by decide +kernel
theorem dX12_harm_12 : decode cX12_harm 12 = .ok (.invokevirtual 486, 3) := by decide +kernel
theorem dX12_harm_15 : decode cX12_harm 15 = .ok (.aload_n 0, 1) := by decide +kernel
theorem dX12_harm_16 : decode cX12_harm 16 = .ok (.getfield 447, 3) := by decide +kernel
theorem dX12_harm_19 : decode cX12_harm 19 = .ok (.ireturn, 1) := by decide +kernel
def fX12_harm (a1 : Int32) (h : Hp) : Option (Int32 × Hp) := bi (fX12_isKnown a1 h) (fun w2 h1 => (if w2 = 0 then some ((-1), h1) else bv (fX12_runsAll a1 h1) (fun h3 => some ((h3.1 0 71), h3))))
set_option maxRecDepth 20000 in
theorem tX12_harm (Z : ZT) (a1 : Int32) (hz : HZM Z) (h : Hp) (r : Int32) (hr : Hp) (hF : fX12_harm a1 h = some (r, hr)) : MC Z yX12_harm cX12_harm 2 (some .int) 8 [.ref (Z.2.1 0), .int a1] h (some (.int r)) hr := by
  unfold fX12_harm at hF
  refine mc_start (by decide) (Nat.le_of_ble_eq_true rfl) (fun G X E => ?_)
  refine j_aload_n (pc := 0) 0 X dX12_harm_0 rfl ?_
  refine j_iload_n (pc := 1) 1 X dX12_harm_1 rfl ?_
  refine j_cVi (pc := 2) (As := [.int a1]) (rest := []) X dX12_harm_2 ml_X12_435 ck_X12_isKnown cv_X12_isKnown (hz _ sh_0) rfl (Nat.le_of_ble_eq_true rfl) rfl (Nat.le_of_ble_eq_true rfl) rfl hF (tX12_isKnown Z a1 hz h) (fun w2 h1 hF => ?_)
  refine j_if_ne (pc := 5) 10 X dX12_harm_5 rfl hF (fun hF => ?_) (fun hF => ?_)
  · refine j_aload_n (pc := 10) 0 X dX12_harm_10 rfl ?_
    refine j_iload_n (pc := 11) 1 X dX12_harm_11 rfl ?_
    refine j_cVv (pc := 12) (As := [.int a1]) (rest := []) X dX12_harm_12 ml_X12_486 ck_X12_runsAll cv_X12_runsAll (hz _ sh_0) rfl (Nat.le_of_ble_eq_true rfl) rfl (Nat.le_of_ble_eq_true rfl) rfl hF (tX12_runsAll Z a1 hz h1) (fun h3 hF => ?_)
    refine j_aload_n (pc := 15) 0 X dX12_harm_15 rfl ?_
    refine j_geti (pc := 16) X dX12_harm_16 (hz _ sh_0) fl_X12_447 rfl ?_
    exact j_iret (pc := 19) X E dX12_harm_19 hF
  · refine j_iconst (pc := 8) (-1) X dX12_harm_8 rfl ?_
    exact j_iret (pc := 9) X E dX12_harm_9 hF
theorem dX12_keepsYearly_0 : decode cX12_keepsYearly 0 = .ok (.iconst 0, 1) := by decide +kernel
theorem dX12_keepsYearly_1 : decode cX12_keepsYearly 1 = .ok (.istore_n 1, 1) := by decide +kernel
theorem dX12_keepsYearly_2 : decode cX12_keepsYearly 2 = .ok (.iload_n 1, 1) := by decide +kernel
theorem dX12_keepsYearly_3 : decode cX12_keepsYearly 3 = .ok (.bipush 10, 2) := by decide +kernel
theorem dX12_keepsYearly_5 : decode cX12_keepsYearly 5 = .ok (.if_icmp .ge 33, 3) := by decide +kernel
theorem dX12_keepsYearly_8 : decode cX12_keepsYearly 8 = .ok (.aload_n 0, 1) := by decide +kernel
theorem dX12_keepsYearly_9 : decode cX12_keepsYearly 9 = .ok (.getfield 173, 3) := by decide +kernel
theorem dX12_keepsYearly_12 : decode cX12_keepsYearly 12 = .ok (.iload_n 1, 1) := by decide +kernel
theorem dX12_keepsYearly_13 : decode cX12_keepsYearly 13 = .ok (.aload_n 0, 1) := by decide +kernel
theorem dX12_keepsYearly_14 : decode cX12_keepsYearly 14 = .ok (.getfield 149, 3) := by decide +kernel
theorem dX12_keepsYearly_17 : decode cX12_keepsYearly 17 = .ok (.iload_n 1, 1) := by decide +kernel
theorem dX12_keepsYearly_18 : decode cX12_keepsYearly 18 = .ok (.iaload, 1) := by decide +kernel
theorem dX12_keepsYearly_19 : decode cX12_keepsYearly 19 = .ok (.iastore, 1) := by decide +kernel
theorem dX12_keepsYearly_20 : decode cX12_keepsYearly 20 = .ok (.aload_n 0, 1) := by decide +kernel
theorem dX12_keepsYearly_21 : decode cX12_keepsYearly 21 = .ok (.getfield 176, 3) := by decide +kernel
theorem dX12_keepsYearly_24 : decode cX12_keepsYearly 24 = .ok (.iload_n 1, 1) := by decide +kernel
theorem dX12_keepsYearly_25 : decode cX12_keepsYearly 25 = .ok (.aload_n 0, 1) := by decide +kernel
theorem dX12_keepsYearly_26 : decode cX12_keepsYearly 26 = .ok (.getfield 152, 3) := by decide +kernel
theorem dX12_keepsYearly_29 : decode cX12_keepsYearly 29 = .ok (.iload_n 1, 1) := by decide +kernel
theorem dX12_keepsYearly_30 : decode cX12_keepsYearly 30 = .ok (.iaload, 1) := by decide +kernel
theorem dX12_keepsYearly_31 : decode cX12_keepsYearly 31 = .ok (.iastore, 1) := by decide +kernel
theorem dX12_keepsYearly_32 : decode cX12_keepsYearly 32 = .ok (.iinc 1 1, 3) := by decide +kernel
theorem dX12_keepsYearly_35 : decode cX12_keepsYearly 35 = .ok (.goto (-33), 3) := by decide +kernel
theorem dX12_keepsYearly_38 : decode cX12_keepsYearly 38 = .ok (.return_, 1) := by decide +kernel
def bX12_keepsYearly_2   (r2 : Int32 → Hp → Option (Hp)) (x1 : Int32) (h : Hp) : Option (Hp) := (if 10 ≤ x1 then some h else ck (inb x1 10) (ck (inb x1 10) (lt (wI h 52 (ix x1) (h.1 44 (ix x1))) (fun h1 => ck (inb x1 10) (ck (inb x1 10) (lt (wI h1 53 (ix x1) (h1.1 45 (ix x1))) (fun h2 => lt (x1 + 1) (fun v3 => r2 v3 h2))))))))
def lX12_keepsYearly_2   : Nat → Int32 → Hp → Option (Hp)
  | 0 => fun _ _ => none
  | n + 1 => bX12_keepsYearly_2   (lX12_keepsYearly_2   n)
set_option maxRecDepth 20000 in
theorem BX12_keepsYearly_2 {Z : ZT} {G : GT} {hr : Hp} (X : CX Z G cX12_keepsYearly RX12 2 0) (E : RX Z G none (none) hr) (hz : HZM Z)  (r2 : Int32 → Hp → Option (Hp)) (hr2 : ∀ (x1 : Int32) (h : Hp), r2 x1 h = some hr → J Z G 2 h 2 [(0, .ref (Z.2.1 0)), (1, .int x1)] []) (x1 : Int32) (h : Hp) (hF : bX12_keepsYearly_2   r2 x1 h = some hr) : J Z G 2 h 2 [(0, .ref (Z.2.1 0)), (1, .int x1)] [] := by
  unfold bX12_keepsYearly_2 at hF
  refine j_iload_n (pc := 2) 1 X dX12_keepsYearly_2 rfl ?_
  refine j_bipush (pc := 3) 10 X dX12_keepsYearly_3 rfl ?_
  refine j_icmp_ge (pc := 5) 38 X dX12_keepsYearly_5 rfl hF (fun hF => ?_) (fun hF => ?_)
  · exact j_vret (pc := 38) X E dX12_keepsYearly_38 hF
  · refine j_aload_n (pc := 8) 0 X dX12_keepsYearly_8 rfl ?_
    refine j_getr (pc := 9) X dX12_keepsYearly_9 (hz _ sh_0) fl_X12_173 rfl ?_
    refine j_iload_n (pc := 12) 1 X dX12_keepsYearly_12 rfl ?_
    refine j_aload_n (pc := 13) 0 X dX12_keepsYearly_13 rfl ?_
    refine j_getr (pc := 14) X dX12_keepsYearly_14 (hz _ sh_0) fl_X12_149 rfl ?_
    refine j_iload_n (pc := 17) 1 X dX12_keepsYearly_17 rfl ?_
    refine j_iald (pc := 18) X dX12_keepsYearly_18 (hz _ sh_44) hF (fun hF => ?_)
    refine j_iast (pc := 19) X dX12_keepsYearly_19 (hz _ sh_52) hF (fun h1 hF => ?_)
    refine j_aload_n (pc := 20) 0 X dX12_keepsYearly_20 rfl ?_
    refine j_getr (pc := 21) X dX12_keepsYearly_21 (hz _ sh_0) fl_X12_176 rfl ?_
    refine j_iload_n (pc := 24) 1 X dX12_keepsYearly_24 rfl ?_
    refine j_aload_n (pc := 25) 0 X dX12_keepsYearly_25 rfl ?_
    refine j_getr (pc := 26) X dX12_keepsYearly_26 (hz _ sh_0) fl_X12_152 rfl ?_
    refine j_iload_n (pc := 29) 1 X dX12_keepsYearly_29 rfl ?_
    refine j_iald (pc := 30) X dX12_keepsYearly_30 (hz _ sh_45) hF (fun hF => ?_)
    refine j_iast (pc := 31) X dX12_keepsYearly_31 (hz _ sh_53) hF (fun h2 hF => ?_)
    refine j_iinc (pc := 32) 1 (x1 + 1) (fun y => [(1, .int y), (0, .ref (Z.2.1 0))]) X dX12_keepsYearly_32 rfl rfl (by decide) (fun _ => rfl) hF (fun v3 hF => ?_)
    refine j_goto (pc := 35) 2 X dX12_keepsYearly_35 rfl ?_
    refine j_lv [(0, .ref (Z.2.1 0)), (1, .int v3)] [1, 0] rfl ?_
    exact hr2 v3 h2 hF
theorem LX12_keepsYearly_2 {Z : ZT} {G : GT} {hr : Hp} (X : CX Z G cX12_keepsYearly RX12 2 0) (E : RX Z G none (none) hr) (hz : HZM Z)  : ∀ (n : Nat) (x1 : Int32) (h : Hp), lX12_keepsYearly_2   n x1 h = some hr → J Z G 2 h 2 [(0, .ref (Z.2.1 0)), (1, .int x1)] [] := by
  intro n
  induction n with
  | zero => intro x1 h hF; cases hF
  | succ n ih => intro x1 h hF; exact BX12_keepsYearly_2 X E hz  (lX12_keepsYearly_2   n) ih x1 h hF
def fX12_keepsYearly  (h : Hp) : Option (Hp) := lt 0 (fun v1 => lX12_keepsYearly_2 FU v1 h)
set_option maxRecDepth 20000 in
theorem tX12_keepsYearly (Z : ZT)  (hz : HZM Z) (h : Hp) (hr : Hp) (hF : fX12_keepsYearly  h = some hr) : MC Z yX12_keepsYearly cX12_keepsYearly 2 none 0 [.ref (Z.2.1 0)] h (none) hr := by
  unfold fX12_keepsYearly at hF
  refine mc_start (by decide) (Nat.le_of_ble_eq_true rfl) (fun G X E => ?_)
  refine j_iconst (pc := 0) 0 X dX12_keepsYearly_0 rfl ?_
  refine j_istore_n (pc := 1) (fun y => [(1, .int y), (0, .ref (Z.2.1 0))]) X dX12_keepsYearly_1 (by decide) (fun _ => rfl) hF (fun v1 hF => ?_)
  refine j_lv [(0, .ref (Z.2.1 0)), (1, .int v1)] [1, 0] rfl ?_
  exact LX12_keepsYearly_2 X E hz FU v1 h hF
