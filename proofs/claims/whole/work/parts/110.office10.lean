theorem dX1_reasonOf_0 : decode cX1_reasonOf 0 = .ok (.aload_n 0, 1) := by decide +kernel
theorem dX1_reasonOf_1 : decode cX1_reasonOf 1 = .ok (.iload_n 1, 1) := by decide +kernel
theorem dX1_reasonOf_2 : decode cX1_reasonOf 2 = .ok (.invokevirtual 166, 3) := by decide +kernel
theorem dX1_reasonOf_5 : decode cX1_reasonOf 5 = .ok (.ifCond .eq 5, 3) := by decide +kernel
theorem dX1_reasonOf_8 : decode cX1_reasonOf 8 = .ok (.iconst 0, 1) := by decide +kernel
theorem dX1_reasonOf_9 : decode cX1_reasonOf 9 = .ok (.ireturn, 1) := by decide +kernel
theorem dX1_reasonOf_10 : decode cX1_reasonOf 10 = .ok (.aload_n 0, 1) := by decide +kernel
theorem dX1_reasonOf_11 : decode cX1_reasonOf 11 = .ok (.getfield 33, 3) := by decide +kernel
theorem dX1_reasonOf_14 : decode cX1_reasonOf 14 = .ok (.getfield 57, 3) := by decide +kernel
theorem dX1_reasonOf_17 : decode cX1_reasonOf 17 = .ok (.iload_n 1, 1) := by decide +kernel
theorem dX1_reasonOf_18 : decode cX1_reasonOf 18 = .ok (.aaload, 1) := by decide +kernel
theorem dX1_reasonOf_19 : decode cX1_reasonOf 19 = .ok (.astore_n 3, 1) := by decide +kernel
theorem dX1_reasonOf_20 : decode cX1_reasonOf 20 = .ok (.aload_n 0, 1) := by decide +kernel
theorem dX1_reasonOf_21 : decode cX1_reasonOf 21 = .ok (.getfield 9, 3) := by decide +kernel
theorem dX1_reasonOf_24 : decode cX1_reasonOf 24 = .ok (.iload_n 1, 1) := by decide +kernel
theorem dX1_reasonOf_25 : decode cX1_reasonOf 25 = .ok (.iaload, 1) := by decide +kernel
theorem dX1_reasonOf_26 : decode cX1_reasonOf 26 = .ok (.ifCond .eq 5, 3) := by decide +kernel
theorem dX1_reasonOf_29 : decode cX1_reasonOf 29 = .ok (.iconst 1, 1) := by decide +kernel
theorem dX1_reasonOf_30 : decode cX1_reasonOf 30 = .ok (.ireturn, 1) := by decide +kernel
theorem dX1_reasonOf_31 : decode cX1_reasonOf 31 = .ok (.aload_n 0, 1) := by decide +kernel
theorem dX1_reasonOf_32 : decode cX1_reasonOf 32 = .ok (.getfield 41, 3) := by decide +kernel
theorem dX1_reasonOf_35 : decode cX1_reasonOf 35 = .ok (.aload_n 3, 1) := by decide +kernel
theorem dX1_reasonOf_36 : decode cX1_reasonOf 36 = .ok (.iload_n 2, 1) := by decide +kernel
theorem dX1_reasonOf_37 : decode cX1_reasonOf 37 = .ok (.aload_n 0, 1) := by decide +kernel
theorem dX1_reasonOf_38 : decode cX1_reasonOf 38 = .ok (.getfield 69, 3) := by decide +kernel
theorem dX1_reasonOf_41 : decode cX1_reasonOf 41 = .ok (.aload_n 0, 1) := by decide +kernel
theorem dX1_reasonOf_42 : decode cX1_reasonOf 42 = .ok (.getfield 72, 3) := by decide +kernel
theorem dX1_reasonOf_45 : decode cX1_reasonOf 45 = .ok (.invokevirtual 137, 3) := by decide +kernel
theorem dX1_reasonOf_48 : decode cX1_reasonOf 48 = .ok (.ifCond .ne 5, 3) := by decide +kernel
theorem dX1_reasonOf_51 : decode cX1_reasonOf 51 = .ok (.iconst 2, 1) := by decide +kernel
theorem dX1_reasonOf_52 : decode cX1_reasonOf 52 = .ok (.ireturn, 1) := by decide +kernel
theorem dX1_reasonOf_53 : decode cX1_reasonOf 53 = .ok (.aload_n 0, 1) := by decide +kernel
theorem dX1_reasonOf_54 : decode cX1_reasonOf 54 = .ok (.getfield 21, 3) := by decide +kernel
theorem dX1_reasonOf_57 : decode cX1_reasonOf 57 = .ok (.iload_n 1, 1) := by decide +kernel
theorem dX1_reasonOf_58 : decode cX1_reasonOf 58 = .ok (.iaload, 1) := by decide +kernel
theorem dX1_reasonOf_59 : decode cX1_reasonOf 59 = .ok (.iload_n 2, 1) := by decide +kernel
theorem dX1_reasonOf_60 : decode cX1_reasonOf 60 = .ok (.if_icmp .le 5, 3) := by decide +kernel
theorem dX1_reasonOf_63 : decode cX1_reasonOf 63 = .ok (.iconst 3, 1) := by decide +kernel
theorem dX1_reasonOf_64 : decode cX1_reasonOf 64 = .ok (.ireturn, 1) := by decide +kernel
theorem dX1_reasonOf_65 : decode cX1_reasonOf 65 = .ok (.aload_n 0, 1) := by decide +kernel
theorem dX1_reasonOf_66 : decode cX1_reasonOf 66 = .ok (.getfield 69, 3) := by decide +kernel
theorem dX1_reasonOf_69 : decode cX1_reasonOf 69 = .ok (.aload_n 3, 1) := by decide +kernel
theorem dX1_reasonOf_70 : decode cX1_reasonOf 70 = .ok (.getfield 160, 3) := by decide +kernel
theorem dX1_reasonOf_73 : decode cX1_reasonOf 73 = .ok (.invokestatic 129, 3) := by decide +kernel
theorem dX1_reasonOf_76 : decode cX1_reasonOf 76 = .ok (.ifCond .eq 7, 3) := by decide +kernel
theorem dX1_reasonOf_79 : decode cX1_reasonOf 79 = .ok (.iconst 4, 1) := by decide +kernel
theorem dX1_reasonOf_80 : decode cX1_reasonOf 80 = .ok (.goto 4, 3) := by decide +kernel
theorem dX1_reasonOf_83 : decode cX1_reasonOf 83 = .ok (.iconst 5, 1) := by decide +kernel
theorem dX1_reasonOf_84 : decode cX1_reasonOf 84 = .ok (.ireturn, 1) := by decide +kernel
def fX1_reasonOf (o : Nat) (a1 : Int32) (a2 : Int32) (h : Hp) : Option (Int32 × Hp) := bi (fX1_hasBeenOpened o a1 h) (fun w2 h1 => (if w2 = 0 then ck (inb a1 10) (ck (inb a1 10) ((if (h1.1 (o + 1) (ix a1)) = 0 then bi (fX6_holds (115 + ix a1) a2 (h1.1 o 11) (h1.1 o 12) h1) (fun w5 h4 => (if w5 = 0 then some (2, h4) else ck (inb a1 10) ((if (h4.1 (o + 4) (ix a1)) ≤ a2 then bi (fX11_has (h4.1 o 11) (h4.1 (115 + ix a1) 1) h4) (fun w7 h6 => (if w7 = 0 then some (5, h6) else some (4, h6))) else some (3, h4))))) else some (1, h1)))) else some (0, h1)))
set_option maxRecDepth 20000 in
theorem tX1_reasonOf (Z : ZT) (o : Nat) (ho : isC o) (a1 : Int32) (a2 : Int32) (hz : HZ Z) (h : Hp) (r : Int32) (hr : Hp) (hF : fX1_reasonOf o a1 a2 h = some (r, hr)) : MC Z yX1_reasonOf cX1_reasonOf 4 (some .int) 3 [.ref (Z.2.1 o), .int a1, .int a2] h (some (.int r)) hr := by
  unfold fX1_reasonOf at hF
  refine mc_start (by decide) (Nat.le_of_ble_eq_true rfl) (fun G X E => ?_)
  refine j_aload_n (pc := 0) 0 X dX1_reasonOf_0 rfl ?_
  refine j_iload_n (pc := 1) 1 X dX1_reasonOf_1 rfl ?_
  refine j_cVi (pc := 2) (As := [.int a1]) (rest := []) X dX1_reasonOf_2 ml_X1_166 ck_X1_hasBeenOpened cv_X1_hasBeenOpened (hz _ (shC ho)) rfl (Nat.le_of_ble_eq_true rfl) rfl (Nat.le_of_ble_eq_true rfl) rfl hF (tX1_hasBeenOpened Z o ho a1 hz h) (fun w2 h1 hF => ?_)
  refine j_if_eq (pc := 5) 10 X dX1_reasonOf_5 rfl hF (fun hF => ?_) (fun hF => ?_)
  · refine j_aload_n (pc := 10) 0 X dX1_reasonOf_10 rfl ?_
    refine j_getr (pc := 11) X dX1_reasonOf_11 (hz _ (shC ho)) fl_X1_33 rfl ?_
    refine j_getr (pc := 14) X dX1_reasonOf_14 (hz _ sh_108) fl_X1_57 rfl ?_
    refine j_iload_n (pc := 17) 1 X dX1_reasonOf_17 rfl ?_
    refine j_aald (pc := 18) (g := fun j => 115 + j) (C := "AfterOffice$Letter") X dX1_reasonOf_18 (hz _ sh_111) (fun _ => rfl) rfl al_111 hF (fun hb3 hF => ?_)
    refine j_astore_n (pc := 19) [(3, .ref (Z.2.1 (115 + ix a1))), (0, .ref (Z.2.1 o)), (1, .int a1), (2, .int a2)] X dX1_reasonOf_19 (by decide) rfl ?_
    refine j_aload_n (pc := 20) 1 X dX1_reasonOf_20 rfl ?_
    refine j_getr (pc := 21) X dX1_reasonOf_21 (hz _ (shC ho)) fl_X1_9 rfl ?_
    refine j_iload_n (pc := 24) 2 X dX1_reasonOf_24 rfl ?_
    refine j_iald (pc := 25) X dX1_reasonOf_25 (hz _ (shC_1 ho)) hF (fun hF => ?_)
    refine j_if_eq (pc := 26) 31 X dX1_reasonOf_26 rfl hF (fun hF => ?_) (fun hF => ?_)
    · refine j_aload_n (pc := 31) 1 X dX1_reasonOf_31 rfl ?_
      refine j_getr (pc := 32) X dX1_reasonOf_32 (hz _ (shC ho)) fl_X1_41 rfl ?_
      refine j_aload_n (pc := 35) 0 X dX1_reasonOf_35 rfl ?_
      refine j_iload_n (pc := 36) 3 X dX1_reasonOf_36 rfl ?_
      refine j_aload_n (pc := 37) 1 X dX1_reasonOf_37 rfl ?_
      refine j_geti (pc := 38) X dX1_reasonOf_38 (hz _ (shC ho)) fl_X1_69 rfl ?_
      refine j_aload_n (pc := 41) 1 X dX1_reasonOf_41 rfl ?_
      refine j_geti (pc := 42) X dX1_reasonOf_42 (hz _ (shC ho)) fl_X1_72 rfl ?_
      refine j_cVi (pc := 45) (As := [.ref (Z.2.1 (115 + ix a1)), .int a2, .int (h1.1 o 11), .int (h1.1 o 12)]) (rest := []) X dX1_reasonOf_45 ml_X1_137 ck_X6_holds cv_X6_holds (hz _ sh_147) rfl (Nat.le_of_ble_eq_true rfl) rfl (Nat.le_of_ble_eq_true rfl) rfl hF (tX6_holds Z (115 + ix a1) (is_111 hb3) a2 (h1.1 o 11) (h1.1 o 12) hz h1) (fun w5 h4 hF => ?_)
      refine j_if_ne (pc := 48) 53 X dX1_reasonOf_48 rfl hF (fun hF => ?_) (fun hF => ?_)
      · refine j_aload_n (pc := 53) 1 X dX1_reasonOf_53 rfl ?_
        refine j_getr (pc := 54) X dX1_reasonOf_54 (hz _ (shC ho)) fl_X1_21 rfl ?_
        refine j_iload_n (pc := 57) 2 X dX1_reasonOf_57 rfl ?_
        refine j_iald (pc := 58) X dX1_reasonOf_58 (hz _ (shC_4 ho)) hF (fun hF => ?_)
        refine j_iload_n (pc := 59) 3 X dX1_reasonOf_59 rfl ?_
        refine j_icmp_le (pc := 60) 65 X dX1_reasonOf_60 rfl hF (fun hF => ?_) (fun hF => ?_)
        · refine j_aload_n (pc := 65) 1 X dX1_reasonOf_65 rfl ?_
          refine j_geti (pc := 66) X dX1_reasonOf_66 (hz _ (shC ho)) fl_X1_69 rfl ?_
          refine j_aload_n (pc := 69) 0 X dX1_reasonOf_69 rfl ?_
          refine j_geti (pc := 70) X dX1_reasonOf_70 (hz _ (shL (is_111 hb3))) fl_X1_160 rfl ?_
          refine j_cSNi (pc := 73) (As := [.int (h4.1 o 11), .int (h4.1 (115 + ix a1) 1)]) (rest := []) X dX1_reasonOf_73 ml_X1_129 ck_X11_has sk_X11_has (Nat.le_of_ble_eq_true rfl) rfl (Nat.le_of_ble_eq_true rfl) rfl hF (tX11_has Z (h4.1 o 11) (h4.1 (115 + ix a1) 1) trivial h4) (fun w7 h6 hF => ?_)
          refine j_if_eq (pc := 76) 83 X dX1_reasonOf_76 rfl hF (fun hF => ?_) (fun hF => ?_)
          · refine j_iconst (pc := 83) 5 X dX1_reasonOf_83 rfl ?_
            exact j_iret (pc := 84) X E dX1_reasonOf_84 hF
          · refine j_iconst (pc := 79) 4 X dX1_reasonOf_79 rfl ?_
            refine j_goto (pc := 80) 84 X dX1_reasonOf_80 rfl ?_
            exact j_iret (pc := 84) X E dX1_reasonOf_84 hF
        · refine j_iconst (pc := 63) 3 X dX1_reasonOf_63 rfl ?_
          exact j_iret (pc := 64) X E dX1_reasonOf_64 hF
      · refine j_iconst (pc := 51) 2 X dX1_reasonOf_51 rfl ?_
        exact j_iret (pc := 52) X E dX1_reasonOf_52 hF
    · refine j_iconst (pc := 29) 1 X dX1_reasonOf_29 rfl ?_
      exact j_iret (pc := 30) X E dX1_reasonOf_30 hF
  · refine j_iconst (pc := 8) 0 X dX1_reasonOf_8 rfl ?_
    exact j_iret (pc := 9) X E dX1_reasonOf_9 hF
theorem dX1_paidFrom_0 : decode cX1_paidFrom 0 = .ok (.iconst 0, 1) := by decide +kernel
theorem dX1_paidFrom_1 : decode cX1_paidFrom 1 = .ok (.istore_n 3, 1) := by decide +kernel
theorem dX1_paidFrom_2 : decode cX1_paidFrom 2 = .ok (.iload_n 1, 1) := by decide +kernel
theorem dX1_paidFrom_3 : decode cX1_paidFrom 3 = .ok (.istore 4, 2) := by decide +kernel
theorem dX1_paidFrom_5 : decode cX1_paidFrom 5 = .ok (.iload 4, 2) := by decide +kernel
theorem dX1_paidFrom_7 : decode cX1_paidFrom 7 = .ok (.iload_n 2, 1) := by decide +kernel
theorem dX1_paidFrom_8 : decode cX1_paidFrom 8 = .ok (.if_icmp .gt 26, 3) := by decide +kernel
theorem dX1_paidFrom_11 : decode cX1_paidFrom 11 = .ok (.iload 4, 2) := by decide +kernel
theorem dX1_paidFrom_13 : decode cX1_paidFrom 13 = .ok (.bipush 60, 2) := by decide +kernel
theorem dX1_paidFrom_15 : decode cX1_paidFrom 15 = .ok (.if_icmp .ge 19, 3) := by decide +kernel
theorem dX1_paidFrom_18 : decode cX1_paidFrom 18 = .ok (.iload_n 3, 1) := by decide +kernel
theorem dX1_paidFrom_19 : decode cX1_paidFrom 19 = .ok (.aload_n 0, 1) := by decide +kernel
theorem dX1_paidFrom_20 : decode cX1_paidFrom 20 = .ok (.getfield 30, 3) := by decide +kernel
theorem dX1_paidFrom_23 : decode cX1_paidFrom 23 = .ok (.iload 4, 2) := by decide +kernel
theorem dX1_paidFrom_25 : decode cX1_paidFrom 25 = .ok (.iaload, 1) := by decide +kernel
theorem dX1_paidFrom_26 : decode cX1_paidFrom 26 = .ok (.iadd, 1) := by decide +kernel
theorem dX1_paidFrom_27 : decode cX1_paidFrom 27 = .ok (.istore_n 3, 1) := by decide +kernel
theorem dX1_paidFrom_28 : decode cX1_paidFrom 28 = .ok (.iinc 4 1, 3) := by decide +kernel
theorem dX1_paidFrom_31 : decode cX1_paidFrom 31 = .ok (.goto (-26), 3) := by decide +kernel
theorem dX1_paidFrom_34 : decode cX1_paidFrom 34 = .ok (.iload_n 3, 1) := by decide +kernel
theorem dX1_paidFrom_35 : decode cX1_paidFrom 35 = .ok (.ireturn, 1) := by decide +kernel
def bX1_paidFrom_5 (o : Nat)  (r5 : Int32 → Int32 → Int32 → Hp → Option (Int32 × Hp)) (x2 : Int32) (x3 : Int32) (x4 : Int32) (h : Hp) : Option (Int32 × Hp) := (if x2 < x4 then some (x3, h) else (if 60 ≤ x4 then some (x3, h) else ck (inb x4 60) (lt (x3 + (h.1 (o + 7) (ix x4))) (fun v1 => lt (x4 + 1) (fun v2 => r5 x2 v1 v2 h)))))
def lX1_paidFrom_5 (o : Nat)  : Nat → Int32 → Int32 → Int32 → Hp → Option (Int32 × Hp)
  | 0 => fun _ _ _ _ => none
  | n + 1 => bX1_paidFrom_5 o  (lX1_paidFrom_5 o  n)
set_option maxRecDepth 20000 in
theorem BX1_paidFrom_5 {Z : ZT} {G : GT} {r : Int32} {hr : Hp} (X : CX Z G cX1_paidFrom RX1 5 0) (E : RX Z G (some .int) (some (.int r)) hr) (o : Nat) (ho : isC o) (hz : HZ Z)  (r5 : Int32 → Int32 → Int32 → Hp → Option (Int32 × Hp)) (hr5 : ∀ (x2 : Int32) (x3 : Int32) (x4 : Int32) (h : Hp), r5 x2 x3 x4 h = some (r, hr) → J Z G 5 h 5 [(0, .ref (Z.2.1 o)), (2, .int x2), (3, .int x3), (4, .int x4)] []) (x2 : Int32) (x3 : Int32) (x4 : Int32) (h : Hp) (hF : bX1_paidFrom_5 o  r5 x2 x3 x4 h = some (r, hr)) : J Z G 5 h 5 [(0, .ref (Z.2.1 o)), (2, .int x2), (3, .int x3), (4, .int x4)] [] := by
  unfold bX1_paidFrom_5 at hF
  refine j_iload (pc := 5) 3 X dX1_paidFrom_5 rfl ?_
  refine j_iload_n (pc := 7) 1 X dX1_paidFrom_7 rfl ?_
  refine j_icmp_gt (pc := 8) 34 X dX1_paidFrom_8 rfl hF (fun hF => ?_) (fun hF => ?_)
  · refine j_iload_n (pc := 34) 2 X dX1_paidFrom_34 rfl ?_
    exact j_iret (pc := 35) X E dX1_paidFrom_35 hF
  · refine j_iload (pc := 11) 3 X dX1_paidFrom_11 rfl ?_
    refine j_bipush (pc := 13) 60 X dX1_paidFrom_13 rfl ?_
    refine j_icmp_ge (pc := 15) 34 X dX1_paidFrom_15 rfl hF (fun hF => ?_) (fun hF => ?_)
    · refine j_iload_n (pc := 34) 2 X dX1_paidFrom_34 rfl ?_
      exact j_iret (pc := 35) X E dX1_paidFrom_35 hF
    · refine j_iload_n (pc := 18) 2 X dX1_paidFrom_18 rfl ?_
      refine j_aload_n (pc := 19) 0 X dX1_paidFrom_19 rfl ?_
      refine j_getr (pc := 20) X dX1_paidFrom_20 (hz _ (shC ho)) fl_X1_30 rfl ?_
      refine j_iload (pc := 23) 3 X dX1_paidFrom_23 rfl ?_
      refine j_iald (pc := 25) X dX1_paidFrom_25 (hz _ (shC_7 ho)) hF (fun hF => ?_)
      refine j_iadd (pc := 26) X dX1_paidFrom_26 ?_
      refine j_istore_n (pc := 27) (fun y => [(3, .int y), (0, .ref (Z.2.1 o)), (2, .int x2), (4, .int x4)]) X dX1_paidFrom_27 (by decide) (fun _ => rfl) hF (fun v1 hF => ?_)
      refine j_iinc (pc := 28) 3 (x4 + 1) (fun y => [(4, .int y), (3, .int v1), (0, .ref (Z.2.1 o)), (2, .int x2)]) X dX1_paidFrom_28 rfl rfl (by decide) (fun _ => rfl) hF (fun v2 hF => ?_)
      refine j_goto (pc := 31) 5 X dX1_paidFrom_31 rfl ?_
      refine j_lv [(0, .ref (Z.2.1 o)), (2, .int x2), (3, .int v1), (4, .int v2)] [2, 3, 1, 0] rfl ?_
      exact hr5 x2 v1 v2 h hF
theorem LX1_paidFrom_5 {Z : ZT} {G : GT} {r : Int32} {hr : Hp} (X : CX Z G cX1_paidFrom RX1 5 0) (E : RX Z G (some .int) (some (.int r)) hr) (o : Nat) (ho : isC o) (hz : HZ Z)  : ∀ (n : Nat) (x2 : Int32) (x3 : Int32) (x4 : Int32) (h : Hp), lX1_paidFrom_5 o  n x2 x3 x4 h = some (r, hr) → J Z G 5 h 5 [(0, .ref (Z.2.1 o)), (2, .int x2), (3, .int x3), (4, .int x4)] [] := by
  intro n
  induction n with
  | zero => intro x2 x3 x4 h hF; cases hF
  | succ n ih => intro x2 x3 x4 h hF; exact BX1_paidFrom_5 X E o ho hz  (lX1_paidFrom_5 o  n) ih x2 x3 x4 h hF
def fX1_paidFrom (o : Nat) (a1 : Int32) (a2 : Int32) (h : Hp) : Option (Int32 × Hp) := lt 0 (fun v1 => lt a1 (fun v2 => lX1_paidFrom_5 o FU a2 v1 v2 h))
set_option maxRecDepth 20000 in
theorem tX1_paidFrom (Z : ZT) (o : Nat) (ho : isC o) (a1 : Int32) (a2 : Int32) (hz : HZ Z) (h : Hp) (r : Int32) (hr : Hp) (hF : fX1_paidFrom o a1 a2 h = some (r, hr)) : MC Z yX1_paidFrom cX1_paidFrom 5 (some .int) 0 [.ref (Z.2.1 o), .int a1, .int a2] h (some (.int r)) hr := by
  unfold fX1_paidFrom at hF
  refine mc_start (by decide) (Nat.le_of_ble_eq_true rfl) (fun G X E => ?_)
  refine j_iconst (pc := 0) 0 X dX1_paidFrom_0 rfl ?_
  refine j_istore_n (pc := 1) (fun y => [(3, .int y), (0, .ref (Z.2.1 o)), (1, .int a1), (2, .int a2)]) X dX1_paidFrom_1 (by decide) (fun _ => rfl) hF (fun v1 hF => ?_)
  refine j_iload_n (pc := 2) 2 X dX1_paidFrom_2 rfl ?_
  refine j_istore (pc := 3) (fun y => [(4, .int y), (3, .int v1), (0, .ref (Z.2.1 o)), (1, .int a1), (2, .int a2)]) X dX1_paidFrom_3 (by decide) (fun _ => rfl) hF (fun v2 hF => ?_)
  refine j_lv [(0, .ref (Z.2.1 o)), (2, .int a2), (3, .int v1), (4, .int v2)] [2, 4, 1, 0] rfl ?_
  exact LX1_paidFrom_5 X E o ho hz FU a2 v1 v2 h hF
theorem dX1_openingBehind_0 : decode cX1_openingBehind 0 = .ok (.bipush 60, 2) := by decide +kernel
theorem dX1_openingBehind_2 : decode cX1_openingBehind 2 = .ok (.istore_n 2, 1) := by decide +kernel
theorem dX1_openingBehind_3 : decode cX1_openingBehind 3 = .ok (.iconst 0, 1) := by decide +kernel
theorem dX1_openingBehind_4 : decode cX1_openingBehind 4 = .ok (.istore_n 3, 1) := by decide +kernel
theorem dX1_openingBehind_5 : decode cX1_openingBehind 5 = .ok (.iload_n 3, 1) := by decide +kernel
theorem dX1_openingBehind_6 : decode cX1_openingBehind 6 = .ok (.aload_n 0, 1) := by decide +kernel
theorem dX1_openingBehind_7 : decode cX1_openingBehind 7 = .ok (.getfield 66, 3) := by decide +kernel
theorem dX1_openingBehind_10 : decode cX1_openingBehind 10 = .ok (.if_icmp .ge 37, 3) := by decide +kernel
theorem dX1_openingBehind_13 : decode cX1_openingBehind 13 = .ok (.aload_n 0, 1) := by decide +kernel
theorem dX1_openingBehind_14 : decode cX1_openingBehind 14 = .ok (.getfield 15, 3) := by decide +kernel
theorem dX1_openingBehind_17 : decode cX1_openingBehind 17 = .ok (.aload_n 0, 1) := by decide +kernel
theorem dX1_openingBehind_18 : decode cX1_openingBehind 18 = .ok (.getfield 24, 3) := by decide +kernel
theorem dX1_openingBehind_21 : decode cX1_openingBehind 21 = .ok (.iload_n 3, 1) := by decide +kernel
theorem dX1_openingBehind_22 : decode cX1_openingBehind 22 = .ok (.iaload, 1) := by decide +kernel
theorem dX1_openingBehind_23 : decode cX1_openingBehind 23 = .ok (.iaload, 1) := by decide +kernel
theorem dX1_openingBehind_24 : decode cX1_openingBehind 24 = .ok (.istore 4, 2) := by decide +kernel
theorem dX1_openingBehind_26 : decode cX1_openingBehind 26 = .ok (.iload 4, 2) := by decide +kernel
theorem dX1_openingBehind_28 : decode cX1_openingBehind 28 = .ok (.iload_n 1, 1) := by decide +kernel
theorem dX1_openingBehind_29 : decode cX1_openingBehind 29 = .ok (.if_icmp .le 12, 3) := by decide +kernel
theorem dX1_openingBehind_32 : decode cX1_openingBehind 32 = .ok (.iload 4, 2) := by decide +kernel
theorem dX1_openingBehind_34 : decode cX1_openingBehind 34 = .ok (.iload_n 2, 1) := by decide +kernel
theorem dX1_openingBehind_35 : decode cX1_openingBehind 35 = .ok (.if_icmp .ge 6, 3) := by decide +kernel
theorem dX1_openingBehind_38 : decode cX1_openingBehind 38 = .ok (.iload 4, 2) := by decide +kernel
theorem dX1_openingBehind_40 : decode cX1_openingBehind 40 = .ok (.istore_n 2, 1) := by decide +kernel
theorem dX1_openingBehind_41 : decode cX1_openingBehind 41 = .ok (.iinc 3 1, 3) := by decide +kernel
theorem dX1_openingBehind_44 : decode cX1_openingBehind 44 = .ok (.goto (-39), 3) := by decide +kernel
theorem dX1_openingBehind_47 : decode cX1_openingBehind 47 = .ok (.iload_n 2, 1) := by decide +kernel
theorem dX1_openingBehind_48 : decode cX1_openingBehind 48 = .ok (.bipush 60, 2) := by decide +kernel
theorem dX1_openingBehind_50 : decode cX1_openingBehind 50 = .ok (.if_icmp .ge 7, 3) := by decide +kernel
theorem dX1_openingBehind_53 : decode cX1_openingBehind 53 = .ok (.iload_n 2, 1) := by decide +kernel
theorem dX1_openingBehind_54 : decode cX1_openingBehind 54 = .ok (.goto 5, 3) := by decide +kernel
theorem dX1_openingBehind_57 : decode cX1_openingBehind 57 = .ok (.bipush (-2), 2) := by decide +kernel
theorem dX1_openingBehind_59 : decode cX1_openingBehind 59 = .ok (.ireturn, 1) := by decide +kernel
def bX1_openingBehind_41 (o : Nat) (r5 : Int32 → Int32 → Int32 → Hp → Option (Int32 × Hp)) (x1 : Int32) (x2 : Int32) (x3 : Int32) (h : Hp) : Option (Int32 × Hp) := lt (x3 + 1) (fun v1 => r5 x1 x2 v1 h)
set_option maxRecDepth 20000 in
theorem BX1_openingBehind_41 {Z : ZT} {G : GT} {r : Int32} {hr : Hp} (X : CX Z G cX1_openingBehind RX1 5 0) (E : RX Z G (some .int) (some (.int r)) hr) (o : Nat) (ho : isC o) (hz : HZ Z) (r5 : Int32 → Int32 → Int32 → Hp → Option (Int32 × Hp)) (hr5 : ∀ (x1 : Int32) (x2 : Int32) (x3 : Int32) (h : Hp), r5 x1 x2 x3 h = some (r, hr) → J Z G 5 h 5 [(0, .ref (Z.2.1 o)), (1, .int x1), (2, .int x2), (3, .int x3)] []) (x1 : Int32) (x2 : Int32) (x3 : Int32) (h : Hp) (hF : bX1_openingBehind_41 o r5 x1 x2 x3 h = some (r, hr)) : J Z G 5 h 41 [(0, .ref (Z.2.1 o)), (1, .int x1), (2, .int x2), (3, .int x3)] [] := by
  unfold bX1_openingBehind_41 at hF
  refine j_iinc (pc := 41) 3 (x3 + 1) (fun y => [(3, .int y), (0, .ref (Z.2.1 o)), (1, .int x1), (2, .int x2)]) X dX1_openingBehind_41 rfl rfl (by decide) (fun _ => rfl) hF (fun v1 hF => ?_)
  refine j_goto (pc := 44) 5 X dX1_openingBehind_44 rfl ?_
  refine j_lv [(0, .ref (Z.2.1 o)), (1, .int x1), (2, .int x2), (3, .int v1)] [1, 2, 3, 0] rfl ?_
  exact hr5 x1 x2 v1 h hF
def bX1_openingBehind_5 (o : Nat)  (r5 : Int32 → Int32 → Int32 → Hp → Option (Int32 × Hp)) (x1 : Int32) (x2 : Int32) (x3 : Int32) (h : Hp) : Option (Int32 × Hp) := (if (h.1 o 10) ≤ x3 then (if 60 ≤ x2 then some ((-2), h) else some (x2, h)) else ck (inb x3 10) (ck (inb (h.1 (o + 5) (ix x3)) 10) (lt (h.1 (o + 2) (ix (h.1 (o + 5) (ix x3)))) (fun v1 => (if v1 ≤ x1 then bX1_openingBehind_41 o r5 x1 x2 x3 h else (if x2 ≤ v1 then bX1_openingBehind_41 o r5 x1 x2 x3 h else lt v1 (fun v2 => bX1_openingBehind_41 o r5 x1 v2 x3 h)))))))
def lX1_openingBehind_5 (o : Nat)  : Nat → Int32 → Int32 → Int32 → Hp → Option (Int32 × Hp)
  | 0 => fun _ _ _ _ => none
  | n + 1 => bX1_openingBehind_5 o  (lX1_openingBehind_5 o  n)
set_option maxRecDepth 20000 in
theorem BX1_openingBehind_5 {Z : ZT} {G : GT} {r : Int32} {hr : Hp} (X : CX Z G cX1_openingBehind RX1 5 0) (E : RX Z G (some .int) (some (.int r)) hr) (o : Nat) (ho : isC o) (hz : HZ Z)  (r5 : Int32 → Int32 → Int32 → Hp → Option (Int32 × Hp)) (hr5 : ∀ (x1 : Int32) (x2 : Int32) (x3 : Int32) (h : Hp), r5 x1 x2 x3 h = some (r, hr) → J Z G 5 h 5 [(0, .ref (Z.2.1 o)), (1, .int x1), (2, .int x2), (3, .int x3)] []) (x1 : Int32) (x2 : Int32) (x3 : Int32) (h : Hp) (hF : bX1_openingBehind_5 o  r5 x1 x2 x3 h = some (r, hr)) : J Z G 5 h 5 [(0, .ref (Z.2.1 o)), (1, .int x1), (2, .int x2), (3, .int x3)] [] := by
  unfold bX1_openingBehind_5 at hF
  refine j_iload_n (pc := 5) 3 X dX1_openingBehind_5 rfl ?_
  refine j_aload_n (pc := 6) 0 X dX1_openingBehind_6 rfl ?_
  refine j_geti (pc := 7) X dX1_openingBehind_7 (hz _ (shC ho)) fl_X1_66 rfl ?_
  refine j_icmp_ge (pc := 10) 47 X dX1_openingBehind_10 rfl hF (fun hF => ?_) (fun hF => ?_)
  · refine j_iload_n (pc := 47) 2 X dX1_openingBehind_47 rfl ?_
    refine j_bipush (pc := 48) 60 X dX1_openingBehind_48 rfl ?_
    refine j_icmp_ge (pc := 50) 57 X dX1_openingBehind_50 rfl hF (fun hF => ?_) (fun hF => ?_)
    · refine j_bipush (pc := 57) (-2) X dX1_openingBehind_57 rfl ?_
      exact j_iret (pc := 59) X E dX1_openingBehind_59 hF
    · refine j_iload_n (pc := 53) 2 X dX1_openingBehind_53 rfl ?_
      refine j_goto (pc := 54) 59 X dX1_openingBehind_54 rfl ?_
      exact j_iret (pc := 59) X E dX1_openingBehind_59 hF
  · refine j_aload_n (pc := 13) 0 X dX1_openingBehind_13 rfl ?_
    refine j_getr (pc := 14) X dX1_openingBehind_14 (hz _ (shC ho)) fl_X1_15 rfl ?_
    refine j_aload_n (pc := 17) 0 X dX1_openingBehind_17 rfl ?_
    refine j_getr (pc := 18) X dX1_openingBehind_18 (hz _ (shC ho)) fl_X1_24 rfl ?_
    refine j_iload_n (pc := 21) 3 X dX1_openingBehind_21 rfl ?_
    refine j_iald (pc := 22) X dX1_openingBehind_22 (hz _ (shC_5 ho)) hF (fun hF => ?_)
    refine j_iald (pc := 23) X dX1_openingBehind_23 (hz _ (shC_2 ho)) hF (fun hF => ?_)
    refine j_istore (pc := 24) (fun y => [(4, .int y), (0, .ref (Z.2.1 o)), (1, .int x1), (2, .int x2), (3, .int x3)]) X dX1_openingBehind_24 (by decide) (fun _ => rfl) hF (fun v1 hF => ?_)
    refine j_iload (pc := 26) 0 X dX1_openingBehind_26 rfl ?_
    refine j_iload_n (pc := 28) 2 X dX1_openingBehind_28 rfl ?_
    refine j_icmp_le (pc := 29) 41 X dX1_openingBehind_29 rfl hF (fun hF => ?_) (fun hF => ?_)
    · refine j_lv [(0, .ref (Z.2.1 o)), (1, .int x1), (2, .int x2), (3, .int x3)] [1, 2, 3, 4] rfl ?_
      exact BX1_openingBehind_41 X E o ho hz r5 hr5 x1 x2 x3 h hF
    · refine j_iload (pc := 32) 0 X dX1_openingBehind_32 rfl ?_
      refine j_iload_n (pc := 34) 3 X dX1_openingBehind_34 rfl ?_
      refine j_icmp_ge (pc := 35) 41 X dX1_openingBehind_35 rfl hF (fun hF => ?_) (fun hF => ?_)
      · refine j_lv [(0, .ref (Z.2.1 o)), (1, .int x1), (2, .int x2), (3, .int x3)] [1, 2, 3, 4] rfl ?_
        exact BX1_openingBehind_41 X E o ho hz r5 hr5 x1 x2 x3 h hF
      · refine j_iload (pc := 38) 0 X dX1_openingBehind_38 rfl ?_
        refine j_istore_n (pc := 40) (fun y => [(2, .int y), (4, .int v1), (0, .ref (Z.2.1 o)), (1, .int x1), (3, .int x3)]) X dX1_openingBehind_40 (by decide) (fun _ => rfl) hF (fun v2 hF => ?_)
        refine j_lv [(0, .ref (Z.2.1 o)), (1, .int x1), (2, .int v2), (3, .int x3)] [2, 3, 0, 4] rfl ?_
        exact BX1_openingBehind_41 X E o ho hz r5 hr5 x1 v2 x3 h hF
theorem LX1_openingBehind_5 {Z : ZT} {G : GT} {r : Int32} {hr : Hp} (X : CX Z G cX1_openingBehind RX1 5 0) (E : RX Z G (some .int) (some (.int r)) hr) (o : Nat) (ho : isC o) (hz : HZ Z)  : ∀ (n : Nat) (x1 : Int32) (x2 : Int32) (x3 : Int32) (h : Hp), lX1_openingBehind_5 o  n x1 x2 x3 h = some (r, hr) → J Z G 5 h 5 [(0, .ref (Z.2.1 o)), (1, .int x1), (2, .int x2), (3, .int x3)] [] := by
  intro n
  induction n with
  | zero => intro x1 x2 x3 h hF; cases hF
  | succ n ih => intro x1 x2 x3 h hF; exact BX1_openingBehind_5 X E o ho hz  (lX1_openingBehind_5 o  n) ih x1 x2 x3 h hF
def fX1_openingBehind (o : Nat) (a1 : Int32) (h : Hp) : Option (Int32 × Hp) := lt 60 (fun v1 => lt 0 (fun v2 => lX1_openingBehind_5 o FU a1 v1 v2 h))
set_option maxRecDepth 20000 in
theorem tX1_openingBehind (Z : ZT) (o : Nat) (ho : isC o) (a1 : Int32) (hz : HZ Z) (h : Hp) (r : Int32) (hr : Hp) (hF : fX1_openingBehind o a1 h = some (r, hr)) : MC Z yX1_openingBehind cX1_openingBehind 5 (some .int) 0 [.ref (Z.2.1 o), .int a1] h (some (.int r)) hr := by
  unfold fX1_openingBehind at hF
  refine mc_start (by decide) (Nat.le_of_ble_eq_true rfl) (fun G X E => ?_)
  refine j_bipush (pc := 0) 60 X dX1_openingBehind_0 rfl ?_
  refine j_istore_n (pc := 2) (fun y => [(2, .int y), (0, .ref (Z.2.1 o)), (1, .int a1)]) X dX1_openingBehind_2 (by decide) (fun _ => rfl) hF (fun v1 hF => ?_)
  refine j_iconst (pc := 3) 0 X dX1_openingBehind_3 rfl ?_
  refine j_istore_n (pc := 4) (fun y => [(3, .int y), (2, .int v1), (0, .ref (Z.2.1 o)), (1, .int a1)]) X dX1_openingBehind_4 (by decide) (fun _ => rfl) hF (fun v2 hF => ?_)
  refine j_lv [(0, .ref (Z.2.1 o)), (1, .int a1), (2, .int v1), (3, .int v2)] [2, 3, 1, 0] rfl ?_
  exact LX1_openingBehind_5 X E o ho hz FU a1 v1 v2 h hF
theorem dX1_lettersThatAre_0 : decode cX1_lettersThatAre 0 = .ok (.iconst 0, 1) := by decide +kernel
theorem dX1_lettersThatAre_1 : decode cX1_lettersThatAre 1 = .ok (.istore_n 2, 1) := by decide +kernel
theorem dX1_lettersThatAre_2 : decode cX1_lettersThatAre 2 = .ok (.iconst 0, 1) := by decide +kernel
theorem dX1_lettersThatAre_3 : decode cX1_lettersThatAre 3 = .ok (.istore_n 3, 1) := by decide +kernel
theorem dX1_lettersThatAre_4 : decode cX1_lettersThatAre 4 = .ok (.iload_n 3, 1) := by decide +kernel
theorem dX1_lettersThatAre_5 : decode cX1_lettersThatAre 5 = .ok (.aload_n 0, 1) := by decide +kernel
theorem dX1_lettersThatAre_6 : decode cX1_lettersThatAre 6 = .ok (.getfield 33, 3) := by decide +kernel
theorem dX1_lettersThatAre_9 : decode cX1_lettersThatAre 9 = .ok (.getfield 51, 3) := by decide +kernel
theorem dX1_lettersThatAre_12 : decode cX1_lettersThatAre 12 = .ok (.if_icmp .ge 25, 3) := by decide +kernel
theorem dX1_lettersThatAre_15 : decode cX1_lettersThatAre 15 = .ok (.aload_n 0, 1) := by decide +kernel
theorem dX1_lettersThatAre_16 : decode cX1_lettersThatAre 16 = .ok (.getfield 9, 3) := by decide +kernel
theorem dX1_lettersThatAre_19 : decode cX1_lettersThatAre 19 = .ok (.iload_n 3, 1) := by decide +kernel
theorem dX1_lettersThatAre_20 : decode cX1_lettersThatAre 20 = .ok (.iaload, 1) := by decide +kernel
theorem dX1_lettersThatAre_21 : decode cX1_lettersThatAre 21 = .ok (.iload_n 1, 1) := by decide +kernel
theorem dX1_lettersThatAre_22 : decode cX1_lettersThatAre 22 = .ok (.if_icmp .ne 9, 3) := by decide +kernel
theorem dX1_lettersThatAre_25 : decode cX1_lettersThatAre 25 = .ok (.iload_n 2, 1) := by decide +kernel
theorem dX1_lettersThatAre_26 : decode cX1_lettersThatAre 26 = .ok (.iconst 1, 1) := by decide +kernel
theorem dX1_lettersThatAre_27 : decode cX1_lettersThatAre 27 = .ok (.iload_n 3, 1) := by decide +kernel
theorem dX1_lettersThatAre_28 : decode cX1_lettersThatAre 28 = .ok (.ishl, 1) := by decide +kernel
theorem dX1_lettersThatAre_29 : decode cX1_lettersThatAre 29 = .ok (.ior, 1) := by decide +kernel
theorem dX1_lettersThatAre_30 : decode cX1_lettersThatAre 30 = .ok (.istore_n 2, 1) := by decide +kernel
theorem dX1_lettersThatAre_31 : decode cX1_lettersThatAre 31 = .ok (.iinc 3 1, 3) := by decide +kernel
theorem dX1_lettersThatAre_34 : decode cX1_lettersThatAre 34 = .ok (.goto (-30), 3) := by decide +kernel
theorem dX1_lettersThatAre_37 : decode cX1_lettersThatAre 37 = .ok (.iload_n 2, 1) := by decide +kernel
theorem dX1_lettersThatAre_38 : decode cX1_lettersThatAre 38 = .ok (.ireturn, 1) := by decide +kernel
def bX1_lettersThatAre_31 (o : Nat) (r4 : Int32 → Int32 → Int32 → Hp → Option (Int32 × Hp)) (x1 : Int32) (x2 : Int32) (x3 : Int32) (h : Hp) : Option (Int32 × Hp) := lt (x3 + 1) (fun v1 => r4 x1 x2 v1 h)
set_option maxRecDepth 20000 in
theorem BX1_lettersThatAre_31 {Z : ZT} {G : GT} {r : Int32} {hr : Hp} (X : CX Z G cX1_lettersThatAre RX1 4 0) (E : RX Z G (some .int) (some (.int r)) hr) (o : Nat) (ho : isC o) (hz : HZ Z) (r4 : Int32 → Int32 → Int32 → Hp → Option (Int32 × Hp)) (hr4 : ∀ (x1 : Int32) (x2 : Int32) (x3 : Int32) (h : Hp), r4 x1 x2 x3 h = some (r, hr) → J Z G 4 h 4 [(0, .ref (Z.2.1 o)), (1, .int x1), (2, .int x2), (3, .int x3)] []) (x1 : Int32) (x2 : Int32) (x3 : Int32) (h : Hp) (hF : bX1_lettersThatAre_31 o r4 x1 x2 x3 h = some (r, hr)) : J Z G 4 h 31 [(0, .ref (Z.2.1 o)), (1, .int x1), (2, .int x2), (3, .int x3)] [] := by
  unfold bX1_lettersThatAre_31 at hF
  refine j_iinc (pc := 31) 3 (x3 + 1) (fun y => [(3, .int y), (0, .ref (Z.2.1 o)), (1, .int x1), (2, .int x2)]) X dX1_lettersThatAre_31 rfl rfl (by decide) (fun _ => rfl) hF (fun v1 hF => ?_)
  refine j_goto (pc := 34) 4 X dX1_lettersThatAre_34 rfl ?_
  refine j_lv [(0, .ref (Z.2.1 o)), (1, .int x1), (2, .int x2), (3, .int v1)] [1, 2, 3, 0] rfl ?_
  exact hr4 x1 x2 v1 h hF
def bX1_lettersThatAre_4 (o : Nat)  (r4 : Int32 → Int32 → Int32 → Hp → Option (Int32 × Hp)) (x1 : Int32) (x2 : Int32) (x3 : Int32) (h : Hp) : Option (Int32 × Hp) := (if (h.1 108 9) ≤ x3 then some (x2, h) else ck (inb x3 10) ((if (h.1 (o + 1) (ix x3)) = x1 then lt (x2 ||| ((1 : Int32) <<< (x3 &&& 31))) (fun v1 => bX1_lettersThatAre_31 o r4 x1 v1 x3 h) else bX1_lettersThatAre_31 o r4 x1 x2 x3 h)))
def lX1_lettersThatAre_4 (o : Nat)  : Nat → Int32 → Int32 → Int32 → Hp → Option (Int32 × Hp)
  | 0 => fun _ _ _ _ => none
  | n + 1 => bX1_lettersThatAre_4 o  (lX1_lettersThatAre_4 o  n)
set_option maxRecDepth 20000 in
theorem BX1_lettersThatAre_4 {Z : ZT} {G : GT} {r : Int32} {hr : Hp} (X : CX Z G cX1_lettersThatAre RX1 4 0) (E : RX Z G (some .int) (some (.int r)) hr) (o : Nat) (ho : isC o) (hz : HZ Z)  (r4 : Int32 → Int32 → Int32 → Hp → Option (Int32 × Hp)) (hr4 : ∀ (x1 : Int32) (x2 : Int32) (x3 : Int32) (h : Hp), r4 x1 x2 x3 h = some (r, hr) → J Z G 4 h 4 [(0, .ref (Z.2.1 o)), (1, .int x1), (2, .int x2), (3, .int x3)] []) (x1 : Int32) (x2 : Int32) (x3 : Int32) (h : Hp) (hF : bX1_lettersThatAre_4 o  r4 x1 x2 x3 h = some (r, hr)) : J Z G 4 h 4 [(0, .ref (Z.2.1 o)), (1, .int x1), (2, .int x2), (3, .int x3)] [] := by
  unfold bX1_lettersThatAre_4 at hF
  refine j_iload_n (pc := 4) 3 X dX1_lettersThatAre_4 rfl ?_
  refine j_aload_n (pc := 5) 0 X dX1_lettersThatAre_5 rfl ?_
  refine j_getr (pc := 6) X dX1_lettersThatAre_6 (hz _ (shC ho)) fl_X1_33 rfl ?_
  refine j_geti (pc := 9) X dX1_lettersThatAre_9 (hz _ sh_108) fl_X1_51 rfl ?_
  refine j_icmp_ge (pc := 12) 37 X dX1_lettersThatAre_12 rfl hF (fun hF => ?_) (fun hF => ?_)
  · refine j_iload_n (pc := 37) 2 X dX1_lettersThatAre_37 rfl ?_
    exact j_iret (pc := 38) X E dX1_lettersThatAre_38 hF
  · refine j_aload_n (pc := 15) 0 X dX1_lettersThatAre_15 rfl ?_
    refine j_getr (pc := 16) X dX1_lettersThatAre_16 (hz _ (shC ho)) fl_X1_9 rfl ?_
    refine j_iload_n (pc := 19) 3 X dX1_lettersThatAre_19 rfl ?_
    refine j_iald (pc := 20) X dX1_lettersThatAre_20 (hz _ (shC_1 ho)) hF (fun hF => ?_)
    refine j_iload_n (pc := 21) 1 X dX1_lettersThatAre_21 rfl ?_
    refine j_icmp_ne (pc := 22) 31 X dX1_lettersThatAre_22 rfl hF (fun hF => ?_) (fun hF => ?_)
    · exact BX1_lettersThatAre_31 X E o ho hz r4 hr4 x1 x2 x3 h hF
    · refine j_iload_n (pc := 25) 2 X dX1_lettersThatAre_25 rfl ?_
      refine j_iconst (pc := 26) 1 X dX1_lettersThatAre_26 rfl ?_
      refine j_iload_n (pc := 27) 3 X dX1_lettersThatAre_27 rfl ?_
      refine j_ishl (pc := 28) X dX1_lettersThatAre_28 ?_
      refine j_ior (pc := 29) X dX1_lettersThatAre_29 ?_
      refine j_istore_n (pc := 30) (fun y => [(2, .int y), (0, .ref (Z.2.1 o)), (1, .int x1), (3, .int x3)]) X dX1_lettersThatAre_30 (by decide) (fun _ => rfl) hF (fun v1 hF => ?_)
      refine j_lv [(0, .ref (Z.2.1 o)), (1, .int x1), (2, .int v1), (3, .int x3)] [1, 2, 0, 3] rfl ?_
      exact BX1_lettersThatAre_31 X E o ho hz r4 hr4 x1 v1 x3 h hF
theorem LX1_lettersThatAre_4 {Z : ZT} {G : GT} {r : Int32} {hr : Hp} (X : CX Z G cX1_lettersThatAre RX1 4 0) (E : RX Z G (some .int) (some (.int r)) hr) (o : Nat) (ho : isC o) (hz : HZ Z)  : ∀ (n : Nat) (x1 : Int32) (x2 : Int32) (x3 : Int32) (h : Hp), lX1_lettersThatAre_4 o  n x1 x2 x3 h = some (r, hr) → J Z G 4 h 4 [(0, .ref (Z.2.1 o)), (1, .int x1), (2, .int x2), (3, .int x3)] [] := by
  intro n
  induction n with
  | zero => intro x1 x2 x3 h hF; cases hF
  | succ n ih => intro x1 x2 x3 h hF; exact BX1_lettersThatAre_4 X E o ho hz  (lX1_lettersThatAre_4 o  n) ih x1 x2 x3 h hF
def fX1_lettersThatAre (o : Nat) (a1 : Int32) (h : Hp) : Option (Int32 × Hp) := lt 0 (fun v1 => lt 0 (fun v2 => lX1_lettersThatAre_4 o FU a1 v1 v2 h))
set_option maxRecDepth 20000 in
theorem tX1_lettersThatAre (Z : ZT) (o : Nat) (ho : isC o) (a1 : Int32) (hz : HZ Z) (h : Hp) (r : Int32) (hr : Hp) (hF : fX1_lettersThatAre o a1 h = some (r, hr)) : MC Z yX1_lettersThatAre cX1_lettersThatAre 4 (some .int) 0 [.ref (Z.2.1 o), .int a1] h (some (.int r)) hr := by
  unfold fX1_lettersThatAre at hF
  refine mc_start (by decide) (Nat.le_of_ble_eq_true rfl) (fun G X E => ?_)
  refine j_iconst (pc := 0) 0 X dX1_lettersThatAre_0 rfl ?_
  refine j_istore_n (pc := 1) (fun y => [(2, .int y), (0, .ref (Z.2.1 o)), (1, .int a1)]) X dX1_lettersThatAre_1 (by decide) (fun _ => rfl) hF (fun v1 hF => ?_)
  refine j_iconst (pc := 2) 0 X dX1_lettersThatAre_2 rfl ?_
  refine j_istore_n (pc := 3) (fun y => [(3, .int y), (2, .int v1), (0, .ref (Z.2.1 o)), (1, .int a1)]) X dX1_lettersThatAre_3 (by decide) (fun _ => rfl) hF (fun v2 hF => ?_)
  refine j_lv [(0, .ref (Z.2.1 o)), (1, .int a1), (2, .int v1), (3, .int v2)] [2, 3, 1, 0] rfl ?_
  exact LX1_lettersThatAre_4 X E o ho hz FU a1 v1 v2 h hF
theorem dX1_lot_0 : decode cX1_lot 0 = .ok (.iload_n 0, 1) := by decide +kernel
theorem dX1_lot_1 : decode cX1_lot 1 = .ok (.bipush 18, 2) := by decide +kernel
theorem dX1_lot_3 : decode cX1_lot 3 = .ok (.ixor, 1) := by decide +kernel
theorem dX1_lot_4 : decode cX1_lot 4 = .ok (.ldc 179, 2) := by decide +kernel
theorem dX1_lot_6 : decode cX1_lot 6 = .ok (.imul, 1) := by decide +kernel
theorem dX1_lot_7 : decode cX1_lot 7 = .ok (.sipush 12345, 3) := by decide +kernel
theorem dX1_lot_10 : decode cX1_lot 10 = .ok (.iadd, 1) := by decide +kernel
theorem dX1_lot_11 : decode cX1_lot 11 = .ok (.istore_n 2, 1) := by decide +kernel
theorem dX1_lot_12 : decode cX1_lot 12 = .ok (.iload_n 2, 1) := by decide +kernel
theorem dX1_lot_13 : decode cX1_lot 13 = .ok (.iload_n 2, 1) := by decide +kernel
theorem dX1_lot_14 : decode cX1_lot 14 = .ok (.bipush 15, 2) := by decide +kernel
theorem dX1_lot_16 : decode cX1_lot 16 = .ok (.iushr, 1) := by decide +kernel
theorem dX1_lot_17 : decode cX1_lot 17 = .ok (.ixor, 1) := by decide +kernel
theorem dX1_lot_18 : decode cX1_lot 18 = .ok (.istore_n 2, 1) := by decide +kernel
theorem dX1_lot_19 : decode cX1_lot 19 = .ok (.iload_n 2, 1) := by decide +kernel
theorem dX1_lot_20 : decode cX1_lot 20 = .ok (.iload_n 1, 1) := by decide +kernel
theorem dX1_lot_21 : decode cX1_lot 21 = .ok (.ixor, 1) := by decide +kernel
theorem dX1_lot_22 : decode cX1_lot 22 = .ok (.ldc 179, 2) := by decide +kernel
theorem dX1_lot_24 : decode cX1_lot 24 = .ok (.imul, 1) := by decide +kernel
theorem dX1_lot_25 : decode cX1_lot 25 = .ok (.sipush 12345, 3) := by decide +kernel
theorem dX1_lot_28 : decode cX1_lot 28 = .ok (.iadd, 1) := by decide +kernel
theorem dX1_lot_29 : decode cX1_lot 29 = .ok (.istore_n 2, 1) := by decide +kernel
theorem dX1_lot_30 : decode cX1_lot 30 = .ok (.iload_n 2, 1) := by decide +kernel
theorem dX1_lot_31 : decode cX1_lot 31 = .ok (.iload_n 2, 1) := by decide +kernel
theorem dX1_lot_32 : decode cX1_lot 32 = .ok (.bipush 15, 2) := by decide +kernel
theorem dX1_lot_34 : decode cX1_lot 34 = .ok (.iushr, 1) := by decide +kernel
theorem dX1_lot_35 : decode cX1_lot 35 = .ok (.ixor, 1) := by decide +kernel
theorem dX1_lot_36 : decode cX1_lot 36 = .ok (.istore_n 2, 1) := by decide +kernel
theorem dX1_lot_37 : decode cX1_lot 37 = .ok (.iload_n 2, 1) := by decide +kernel
theorem dX1_lot_38 : decode cX1_lot 38 = .ok (.iconst 1, 1) := by decide +kernel
theorem dX1_lot_39 : decode cX1_lot 39 = .ok (.iushr, 1) := by decide +kernel
theorem dX1_lot_40 : decode cX1_lot 40 = .ok (.bipush 100, 2) := by decide +kernel
theorem dX1_lot_42 : decode cX1_lot 42 = .ok (.irem, 1) := by decide +kernel
theorem dX1_lot_43 : decode cX1_lot 43 = .ok (.ireturn, 1) := by decide +kernel
def fX1_lot (a1 : Int32) (a2 : Int32) (h : Hp) : Option (Int32 × Hp) := lt (((a1 ^^^ 18) * 1103515245) + 12345) (fun v1 => lt (v1 ^^^ (ushr v1 15)) (fun v2 => lt (((v2 ^^^ a2) * 1103515245) + 12345) (fun v3 => lt (v3 ^^^ (ushr v3 15)) (fun v4 => ck (nz 100) (some (((ushr v4 1) - (ushr v4 1) / 100 * 100), h))))))
set_option maxRecDepth 20000 in
theorem tX1_lot (Z : ZT) (a1 : Int32) (a2 : Int32) (hz : True) (h : Hp) (r : Int32) (hr : Hp) (hF : fX1_lot a1 a2 h = some (r, hr)) : MC Z yX1_lot cX1_lot 3 (some .int) 0 [.int a1, .int a2] h (some (.int r)) hr := by
  unfold fX1_lot at hF
  refine mc_start (by decide) (Nat.le_of_ble_eq_true rfl) (fun G X E => ?_)
  refine j_iload_n (pc := 0) 0 X dX1_lot_0 rfl ?_
  refine j_bipush (pc := 1) 18 X dX1_lot_1 rfl ?_
  refine j_ixor (pc := 3) X dX1_lot_3 ?_
  refine j_ldc (pc := 4) X dX1_lot_4 k_X1_179 ?_
  refine j_imul (pc := 6) X dX1_lot_6 ?_
  refine j_sipush (pc := 7) 12345 X dX1_lot_7 rfl ?_
  refine j_iadd (pc := 10) X dX1_lot_10 ?_
  refine j_istore_n (pc := 11) (fun y => [(2, .int y), (0, .int a1), (1, .int a2)]) X dX1_lot_11 (by decide) (fun _ => rfl) hF (fun v1 hF => ?_)
  refine j_iload_n (pc := 12) 0 X dX1_lot_12 rfl ?_
  refine j_iload_n (pc := 13) 0 X dX1_lot_13 rfl ?_
  refine j_bipush (pc := 14) 15 X dX1_lot_14 rfl ?_
  refine j_iushr (pc := 16) X dX1_lot_16 ?_
  refine j_ixor (pc := 17) X dX1_lot_17 ?_
  refine j_istore_n (pc := 18) (fun y => [(2, .int y), (0, .int a1), (1, .int a2)]) X dX1_lot_18 (by decide) (fun _ => rfl) hF (fun v2 hF => ?_)
  refine j_iload_n (pc := 19) 0 X dX1_lot_19 rfl ?_
  refine j_iload_n (pc := 20) 2 X dX1_lot_20 rfl ?_
  refine j_ixor (pc := 21) X dX1_lot_21 ?_
  refine j_ldc (pc := 22) X dX1_lot_22 k_X1_179 ?_
  refine j_imul (pc := 24) X dX1_lot_24 ?_
  refine j_sipush (pc := 25) 12345 X dX1_lot_25 rfl ?_
  refine j_iadd (pc := 28) X dX1_lot_28 ?_
  refine j_istore_n (pc := 29) (fun y => [(2, .int y), (0, .int a1), (1, .int a2)]) X dX1_lot_29 (by decide) (fun _ => rfl) hF (fun v3 hF => ?_)
  refine j_iload_n (pc := 30) 0 X dX1_lot_30 rfl ?_
  refine j_iload_n (pc := 31) 0 X dX1_lot_31 rfl ?_
  refine j_bipush (pc := 32) 15 X dX1_lot_32 rfl ?_
  refine j_iushr (pc := 34) X dX1_lot_34 ?_
  refine j_ixor (pc := 35) X dX1_lot_35 ?_
  refine j_istore_n (pc := 36) (fun y => [(2, .int y), (0, .int a1), (1, .int a2)]) X dX1_lot_36 (by decide) (fun _ => rfl) hF (fun v4 hF => ?_)
  refine j_iload_n (pc := 37) 0 X dX1_lot_37 rfl ?_
  refine j_iconst (pc := 38) 1 X dX1_lot_38 rfl ?_
  refine j_iushr (pc := 39) X dX1_lot_39 ?_
  refine j_bipush (pc := 40) 100 X dX1_lot_40 rfl ?_
  refine j_irem (pc := 42) X dX1_lot_42 hF (fun hF => ?_)
  exact j_iret (pc := 43) X E dX1_lot_43 hF
theorem dX6_diesOf_0 : decode cX6_diesOf 0 = .ok (.iload_n 1, 1) := by decide +kernel
theorem dX6_diesOf_1 : decode cX6_diesOf 1 = .ok (.bipush 60, 2) := by decide +kernel
theorem dX6_diesOf_3 : decode cX6_diesOf 3 = .ok (.imul, 1) := by decide +kernel
theorem dX6_diesOf_4 : decode cX6_diesOf 4 = .ok (.iload_n 2, 1) := by decide +kernel
theorem dX6_diesOf_5 : decode cX6_diesOf 5 = .ok (.iadd, 1) := by decide +kernel
theorem dX6_diesOf_6 : decode cX6_diesOf 6 = .ok (.istore_n 3, 1) := by decide +kernel
theorem dX6_diesOf_7 : decode cX6_diesOf 7 = .ok (.iload_n 3, 1) := by decide +kernel
theorem dX6_diesOf_8 : decode cX6_diesOf 8 = .ok (.ifCond .lt 21, 3) := by decide +kernel
theorem dX6_diesOf_11 : decode cX6_diesOf 11 = .ok (.iload_n 3, 1) := by decide +kernel
theorem dX6_diesOf_12 : decode cX6_diesOf 12 = .ok (.aload_n 0, 1) := by decide +kernel
theorem dX6_diesOf_13 : decode cX6_diesOf 13 = .ok (.getfield 18, 3) := by decide +kernel
theorem dX6_diesOf_16 : decode cX6_diesOf 16 = .ok (.arraylength, 1) := by decide +kernel
theorem dX6_diesOf_17 : decode cX6_diesOf 17 = .ok (.if_icmp .ge 12, 3) := by decide +kernel
theorem dX6_diesOf_20 : decode cX6_diesOf 20 = .ok (.aload_n 0, 1) := by decide +kernel
theorem dX6_diesOf_21 : decode cX6_diesOf 21 = .ok (.getfield 18, 3) := by decide +kernel
theorem dX6_diesOf_24 : decode cX6_diesOf 24 = .ok (.iload_n 3, 1) := by decide +kernel
theorem dX6_diesOf_25 : decode cX6_diesOf 25 = .ok (.iaload, 1) := by decide +kernel
theorem dX6_diesOf_26 : decode cX6_diesOf 26 = .ok (.goto 4, 3) := by decide +kernel
theorem dX6_diesOf_29 : decode cX6_diesOf 29 = .ok (.iconst 0, 1) := by decide +kernel
theorem dX6_diesOf_30 : decode cX6_diesOf 30 = .ok (.ireturn, 1) := by decide +kernel
def fX6_diesOf (a1 : Int32) (a2 : Int32) (h : Hp) : Option (Int32 × Hp) := lt ((a1 * 60) + a2) (fun v1 => (if v1 < 0 then some (0, h) else (if 600 ≤ v1 then some (0, h) else ck (inb v1 600) (some ((h.1 150 (ix v1)), h)))))
set_option maxRecDepth 20000 in
theorem tX6_diesOf (Z : ZT) (a1 : Int32) (a2 : Int32) (hz : HZ Z) (h : Hp) (r : Int32) (hr : Hp) (hF : fX6_diesOf a1 a2 h = some (r, hr)) : MC Z yX6_diesOf cX6_diesOf 4 (some .int) 0 [.ref (Z.2.1 147), .int a1, .int a2] h (some (.int r)) hr := by
  unfold fX6_diesOf at hF
  refine mc_start (by decide) (Nat.le_of_ble_eq_true rfl) (fun G X E => ?_)
  refine j_iload_n (pc := 0) 1 X dX6_diesOf_0 rfl ?_
  refine j_bipush (pc := 1) 60 X dX6_diesOf_1 rfl ?_
  refine j_imul (pc := 3) X dX6_diesOf_3 ?_
  refine j_iload_n (pc := 4) 2 X dX6_diesOf_4 rfl ?_
  refine j_iadd (pc := 5) X dX6_diesOf_5 ?_
  refine j_istore_n (pc := 6) (fun y => [(3, .int y), (0, .ref (Z.2.1 147)), (1, .int a1), (2, .int a2)]) X dX6_diesOf_6 (by decide) (fun _ => rfl) hF (fun v1 hF => ?_)
  refine j_iload_n (pc := 7) 0 X dX6_diesOf_7 rfl ?_
  refine j_if_lt (pc := 8) 29 X dX6_diesOf_8 rfl hF (fun hF => ?_) (fun hF => ?_)
  · refine j_iconst (pc := 29) 0 X dX6_diesOf_29 rfl ?_
    exact j_iret (pc := 30) X E dX6_diesOf_30 hF
  · refine j_iload_n (pc := 11) 0 X dX6_diesOf_11 rfl ?_
    refine j_aload_n (pc := 12) 1 X dX6_diesOf_12 rfl ?_
    refine j_getr (pc := 13) X dX6_diesOf_13 (hz _ sh_147) fl_X6_18 rfl ?_
    refine j_alen (pc := 16) (v := 600) X dX6_diesOf_16 (hz _ sh_150) (by decide) rfl ?_
    refine j_icmp_ge (pc := 17) 29 X dX6_diesOf_17 rfl hF (fun hF => ?_) (fun hF => ?_)
    · refine j_iconst (pc := 29) 0 X dX6_diesOf_29 rfl ?_
      exact j_iret (pc := 30) X E dX6_diesOf_30 hF
    · refine j_aload_n (pc := 20) 1 X dX6_diesOf_20 rfl ?_
      refine j_getr (pc := 21) X dX6_diesOf_21 (hz _ sh_147) fl_X6_18 rfl ?_
      refine j_iload_n (pc := 24) 0 X dX6_diesOf_24 rfl ?_
      refine j_iald (pc := 25) X dX6_diesOf_25 (hz _ sh_150) hF (fun hF => ?_)
      refine j_goto (pc := 26) 30 X dX6_diesOf_26 rfl ?_
      exact j_iret (pc := 30) X E dX6_diesOf_30 hF
theorem dX1_liveByLots_0 : decode cX1_liveByLots 0 = .ok (.aload_n 0, 1) := by decide +kernel
theorem dX1_liveByLots_1 : decode cX1_liveByLots 1 = .ok (.iconst 1, 1) := by decide +kernel
theorem dX1_liveByLots_2 : decode cX1_liveByLots 2 = .ok (.invokevirtual 88, 3) := by decide +kernel
theorem dX1_liveByLots_5 : decode cX1_liveByLots 5 = .ok (.iconst 0, 1) := by decide +kernel
theorem dX1_liveByLots_6 : decode cX1_liveByLots 6 = .ok (.istore_n 3, 1) := by decide +kernel
theorem dX1_liveByLots_7 : decode cX1_liveByLots 7 = .ok (.iload_n 3, 1) := by decide +kernel
theorem dX1_liveByLots_8 : decode cX1_liveByLots 8 = .ok (.bipush 60, 2) := by decide +kernel
theorem dX1_liveByLots_10 : decode cX1_liveByLots 10 = .ok (.if_icmp .ge 129, 3) := by decide +kernel
theorem dX1_liveByLots_13 : decode cX1_liveByLots 13 = .ok (.iconst 0, 1) := by decide +kernel
theorem dX1_liveByLots_14 : decode cX1_liveByLots 14 = .ok (.istore 4, 2) := by decide +kernel
theorem dX1_liveByLots_16 : decode cX1_liveByLots 16 = .ok (.iload 4, 2) := by decide +kernel
theorem dX1_liveByLots_18 : decode cX1_liveByLots 18 = .ok (.aload_n 0, 1) := by decide +kernel
theorem dX1_liveByLots_19 : decode cX1_liveByLots 19 = .ok (.getfield 33, 3) := by decide +kernel
theorem dX1_liveByLots_22 : decode cX1_liveByLots 22 = .ok (.getfield 170, 3) := by decide +kernel
theorem dX1_liveByLots_25 : decode cX1_liveByLots 25 = .ok (.if_icmp .ge 58, 3) := by decide +kernel
theorem dX1_liveByLots_28 : decode cX1_liveByLots 28 = .ok (.aload_n 0, 1) := by decide +kernel
theorem dX1_liveByLots_29 : decode cX1_liveByLots 29 = .ok (.getfield 69, 3) := by decide +kernel
theorem dX1_liveByLots_32 : decode cX1_liveByLots 32 = .ok (.iload 4, 2) := by decide +kernel
theorem dX1_liveByLots_34 : decode cX1_liveByLots 34 = .ok (.invokestatic 129, 3) := by decide +kernel
theorem dX1_liveByLots_37 : decode cX1_liveByLots 37 = .ok (.ifCond .ne 40, 3) := by decide +kernel
theorem dX1_liveByLots_40 : decode cX1_liveByLots 40 = .ok (.iload_n 1, 1) := by decide +kernel
theorem dX1_liveByLots_41 : decode cX1_liveByLots 41 = .ok (.bipush 100, 2) := by decide +kernel
theorem dX1_liveByLots_43 : decode cX1_liveByLots 43 = .ok (.iload_n 3, 1) := by decide +kernel
theorem dX1_liveByLots_44 : decode cX1_liveByLots 44 = .ok (.imul, 1) := by decide +kernel
theorem dX1_liveByLots_45 : decode cX1_liveByLots 45 = .ok (.iload 4, 2) := by decide +kernel
theorem dX1_liveByLots_47 : decode cX1_liveByLots 47 = .ok (.iadd, 1) := by decide +kernel
theorem dX1_liveByLots_48 : decode cX1_liveByLots 48 = .ok (.invokestatic 173, 3) := by decide +kernel
theorem dX1_liveByLots_51 : decode cX1_liveByLots 51 = .ok (.aload_n 0, 1) := by decide +kernel
theorem dX1_liveByLots_52 : decode cX1_liveByLots 52 = .ok (.getfield 41, 3) := by decide +kernel
theorem dX1_liveByLots_55 : decode cX1_liveByLots 55 = .ok (.iload 4, 2) := by decide +kernel
theorem dX1_liveByLots_57 : decode cX1_liveByLots 57 = .ok (.iload_n 3, 1) := by decide +kernel
theorem dX1_liveByLots_58 : decode cX1_liveByLots 58 = .ok (.invokevirtual 176, 3) := by decide +kernel
theorem dX1_liveByLots_61 : decode cX1_liveByLots 61 = .ok (.if_icmp .ge 16, 3) := by decide +kernel
theorem dX1_liveByLots_64 : decode cX1_liveByLots 64 = .ok (.aload_n 0, 1) := by decide +kernel
theorem dX1_liveByLots_65 : decode cX1_liveByLots 65 = .ok (.dup, 1) := by decide +kernel
theorem dX1_liveByLots_66 : decode cX1_liveByLots 66 = .ok (.getfield 69, 3) := by decide +kernel
theorem dX1_liveByLots_69 : decode cX1_liveByLots 69 = .ok (.iconst 1, 1) := by decide +kernel
theorem dX1_liveByLots_70 : decode cX1_liveByLots 70 = .ok (.iload 4, 2) := by decide +kernel
theorem dX1_liveByLots_72 : decode cX1_liveByLots 72 = .ok (.ishl, 1) := by decide +kernel
theorem dX1_liveByLots_73 : decode cX1_liveByLots 73 = .ok (.ior, 1) := by decide +kernel
theorem dX1_liveByLots_74 : decode cX1_liveByLots 74 = .ok (.putfield 69, 3) := by decide +kernel
theorem dX1_liveByLots_77 : decode cX1_liveByLots 77 = .ok (.iinc 4 1, 3) := by decide +kernel
theorem dX1_liveByLots_80 : decode cX1_liveByLots 80 = .ok (.goto (-64), 3) := by decide +kernel
theorem dX1_liveByLots_83 : decode cX1_liveByLots 83 = .ok (.iconst 0, 1) := by decide +kernel
theorem dX1_liveByLots_84 : decode cX1_liveByLots 84 = .ok (.istore 4, 2) := by decide +kernel
theorem dX1_liveByLots_86 : decode cX1_liveByLots 86 = .ok (.iload 4, 2) := by decide +kernel
theorem dX1_liveByLots_88 : decode cX1_liveByLots 88 = .ok (.iconst 4, 1) := by decide +kernel
theorem dX1_liveByLots_89 : decode cX1_liveByLots 89 = .ok (.if_icmp .ge 34, 3) := by decide +kernel
theorem dX1_liveByLots_92 : decode cX1_liveByLots 92 = .ok (.iload_n 1, 1) := by decide +kernel
theorem dX1_liveByLots_93 : decode cX1_liveByLots 93 = .ok (.bipush 100, 2) := by decide +kernel
theorem dX1_liveByLots_95 : decode cX1_liveByLots 95 = .ok (.iload_n 3, 1) := by decide +kernel
theorem dX1_liveByLots_96 : decode cX1_liveByLots 96 = .ok (.imul, 1) := by decide +kernel
theorem dX1_liveByLots_97 : decode cX1_liveByLots 97 = .ok (.bipush 50, 2) := by decide +kernel
theorem dX1_liveByLots_99 : decode cX1_liveByLots 99 = .ok (.iadd, 1) := by decide +kernel
theorem dX1_liveByLots_100 : decode cX1_liveByLots 100 = .ok (.iload 4, 2) := by decide +kernel
theorem dX1_liveByLots_102 : decode cX1_liveByLots 102 = .ok (.iadd, 1) := by decide +kernel
theorem dX1_liveByLots_103 : decode cX1_liveByLots 103 = .ok (.invokestatic 173, 3) := by decide +kernel
theorem dX1_liveByLots_106 : decode cX1_liveByLots 106 = .ok (.iload_n 2, 1) := by decide +kernel
theorem dX1_liveByLots_107 : decode cX1_liveByLots 107 = .ok (.if_icmp .ge 10, 3) := by decide +kernel
theorem dX1_liveByLots_110 : decode cX1_liveByLots 110 = .ok (.aload_n 0, 1) := by decide +kernel
theorem dX1_liveByLots_111 : decode cX1_liveByLots 111 = .ok (.iload 4, 2) := by decide +kernel
theorem dX1_liveByLots_113 : decode cX1_liveByLots 113 = .ok (.iload_n 3, 1) := by decide +kernel
theorem dX1_liveByLots_114 : decode cX1_liveByLots 114 = .ok (.invokevirtual 146, 3) := by decide +kernel
theorem dX1_liveByLots_117 : decode cX1_liveByLots 117 = .ok (.iinc 4 1, 3) := by decide +kernel
theorem dX1_liveByLots_120 : decode cX1_liveByLots 120 = .ok (.goto (-34), 3) := by decide +kernel
theorem dX1_liveByLots_123 : decode cX1_liveByLots 123 = .ok (.aload_n 0, 1) := by decide +kernel
theorem dX1_liveByLots_124 : decode cX1_liveByLots 124 = .ok (.iload_n 3, 1) := by decide +kernel
theorem dX1_liveByLots_125 : decode cX1_liveByLots 125 = .ok (.invokevirtual 96, 3) := by decide +kernel
theorem dX1_liveByLots_128 : decode cX1_liveByLots 128 = .ok (.aload_n 0, 1) := by decide +kernel
theorem dX1_liveByLots_129 : decode cX1_liveByLots 129 = .ok (.iload_n 3, 1) := by decide +kernel
theorem dX1_liveByLots_130 : decode cX1_liveByLots 130 = .ok (.invokevirtual 99, 3) := by decide +kernel
theorem dX1_liveByLots_133 : decode cX1_liveByLots 133 = .ok (.iinc 3 1, 3) := by decide +kernel
theorem dX1_liveByLots_136 : decode cX1_liveByLots 136 = .ok (.goto (-129), 3) := by decide +kernel
theorem dX1_liveByLots_139 : decode cX1_liveByLots 139 = .ok (.return_, 1) := by decide +kernel
def bX1_liveByLots_77 (o : Nat) (r7 : Int32 → Int32 → Int32 → Hp → Option (Hp)) (r16 : Int32 → Int32 → Int32 → Int32 → Hp → Option (Hp)) (x1 : Int32) (x2 : Int32) (x3 : Int32) (x4 : Int32) (h : Hp) : Option (Hp) := lt (x4 + 1) (fun v1 => r16 x1 x2 x3 v1 h)
set_option maxRecDepth 20000 in
theorem BX1_liveByLots_77 {Z : ZT} {G : GT} {hr : Hp} (X : CX Z G cX1_liveByLots RX1 5 5) (E : RX Z G none (none) hr) (o : Nat) (ho : isC o) (hz : HZ Z) (r7 : Int32 → Int32 → Int32 → Hp → Option (Hp)) (hr7 : ∀ (x1 : Int32) (x2 : Int32) (x3 : Int32) (h : Hp), r7 x1 x2 x3 h = some hr → J Z G 5 h 7 [(0, .ref (Z.2.1 o)), (1, .int x1), (2, .int x2), (3, .int x3)] []) (r16 : Int32 → Int32 → Int32 → Int32 → Hp → Option (Hp)) (hr16 : ∀ (x1 : Int32) (x2 : Int32) (x3 : Int32) (x4 : Int32) (h : Hp), r16 x1 x2 x3 x4 h = some hr → J Z G 5 h 16 [(0, .ref (Z.2.1 o)), (1, .int x1), (2, .int x2), (3, .int x3), (4, .int x4)] []) (x1 : Int32) (x2 : Int32) (x3 : Int32) (x4 : Int32) (h : Hp) (hF : bX1_liveByLots_77 o r7 r16 x1 x2 x3 x4 h = some hr) : J Z G 5 h 77 [(0, .ref (Z.2.1 o)), (1, .int x1), (2, .int x2), (3, .int x3), (4, .int x4)] [] := by
  unfold bX1_liveByLots_77 at hF
  refine j_iinc (pc := 77) 4 (x4 + 1) (fun y => [(4, .int y), (0, .ref (Z.2.1 o)), (1, .int x1), (2, .int x2), (3, .int x3)]) X dX1_liveByLots_77 rfl rfl (by decide) (fun _ => rfl) hF (fun v1 hF => ?_)
  refine j_goto (pc := 80) 16 X dX1_liveByLots_80 rfl ?_
  refine j_lv [(0, .ref (Z.2.1 o)), (1, .int x1), (2, .int x2), (3, .int x3), (4, .int v1)] [1, 2, 3, 4, 0] rfl ?_
  exact hr16 x1 x2 x3 v1 h hF
def bX1_liveByLots_117 (o : Nat) (r7 : Int32 → Int32 → Int32 → Hp → Option (Hp)) (r86 : Int32 → Int32 → Int32 → Int32 → Hp → Option (Hp)) (x1 : Int32) (x2 : Int32) (x3 : Int32) (x4 : Int32) (h : Hp) : Option (Hp) := lt (x4 + 1) (fun v1 => r86 x1 x2 x3 v1 h)
set_option maxRecDepth 20000 in
theorem BX1_liveByLots_117 {Z : ZT} {G : GT} {hr : Hp} (X : CX Z G cX1_liveByLots RX1 5 5) (E : RX Z G none (none) hr) (o : Nat) (ho : isC o) (hz : HZ Z) (r7 : Int32 → Int32 → Int32 → Hp → Option (Hp)) (hr7 : ∀ (x1 : Int32) (x2 : Int32) (x3 : Int32) (h : Hp), r7 x1 x2 x3 h = some hr → J Z G 5 h 7 [(0, .ref (Z.2.1 o)), (1, .int x1), (2, .int x2), (3, .int x3)] []) (r86 : Int32 → Int32 → Int32 → Int32 → Hp → Option (Hp)) (hr86 : ∀ (x1 : Int32) (x2 : Int32) (x3 : Int32) (x4 : Int32) (h : Hp), r86 x1 x2 x3 x4 h = some hr → J Z G 5 h 86 [(0, .ref (Z.2.1 o)), (1, .int x1), (2, .int x2), (3, .int x3), (4, .int x4)] []) (x1 : Int32) (x2 : Int32) (x3 : Int32) (x4 : Int32) (h : Hp) (hF : bX1_liveByLots_117 o r7 r86 x1 x2 x3 x4 h = some hr) : J Z G 5 h 117 [(0, .ref (Z.2.1 o)), (1, .int x1), (2, .int x2), (3, .int x3), (4, .int x4)] [] := by
  unfold bX1_liveByLots_117 at hF
  refine j_iinc (pc := 117) 4 (x4 + 1) (fun y => [(4, .int y), (0, .ref (Z.2.1 o)), (1, .int x1), (2, .int x2), (3, .int x3)]) X dX1_liveByLots_117 rfl rfl (by decide) (fun _ => rfl) hF (fun v1 hF => ?_)
  refine j_goto (pc := 120) 86 X dX1_liveByLots_120 rfl ?_
  refine j_lv [(0, .ref (Z.2.1 o)), (1, .int x1), (2, .int x2), (3, .int x3), (4, .int v1)] [1, 2, 3, 4, 0] rfl ?_
  exact hr86 x1 x2 x3 v1 h hF
def bX1_liveByLots_86 (o : Nat) (r7 : Int32 → Int32 → Int32 → Hp → Option (Hp)) (r86 : Int32 → Int32 → Int32 → Int32 → Hp → Option (Hp)) (x1 : Int32) (x2 : Int32) (x3 : Int32) (x4 : Int32) (h : Hp) : Option (Hp) := (if 4 ≤ x4 then bv (fX1_payFees o x3 h) (fun h1 => bv (fX1_lookUp o x3 h1) (fun h2 => lt (x3 + 1) (fun v3 => r7 x1 x2 v3 h2))) else bi (fX1_lot x1 ((((100 : Int32) * x3) + 50) + x4) h) (fun w5 h4 => (if x2 ≤ w5 then bX1_liveByLots_117 o r7 r86 x1 x2 x3 x4 h4 else bv (fX1_floodShelf o x4 x3 h4) (fun h6 => bX1_liveByLots_117 o r7 r86 x1 x2 x3 x4 h6))))
def lX1_liveByLots_86 (o : Nat) (r7 : Int32 → Int32 → Int32 → Hp → Option (Hp)) : Nat → Int32 → Int32 → Int32 → Int32 → Hp → Option (Hp)
  | 0 => fun _ _ _ _ _ => none
  | n + 1 => bX1_liveByLots_86 o r7 (lX1_liveByLots_86 o r7 n)
set_option maxRecDepth 20000 in
theorem BX1_liveByLots_86 {Z : ZT} {G : GT} {hr : Hp} (X : CX Z G cX1_liveByLots RX1 5 5) (E : RX Z G none (none) hr) (o : Nat) (ho : isC o) (hz : HZ Z) (r7 : Int32 → Int32 → Int32 → Hp → Option (Hp)) (hr7 : ∀ (x1 : Int32) (x2 : Int32) (x3 : Int32) (h : Hp), r7 x1 x2 x3 h = some hr → J Z G 5 h 7 [(0, .ref (Z.2.1 o)), (1, .int x1), (2, .int x2), (3, .int x3)] []) (r86 : Int32 → Int32 → Int32 → Int32 → Hp → Option (Hp)) (hr86 : ∀ (x1 : Int32) (x2 : Int32) (x3 : Int32) (x4 : Int32) (h : Hp), r86 x1 x2 x3 x4 h = some hr → J Z G 5 h 86 [(0, .ref (Z.2.1 o)), (1, .int x1), (2, .int x2), (3, .int x3), (4, .int x4)] []) (x1 : Int32) (x2 : Int32) (x3 : Int32) (x4 : Int32) (h : Hp) (hF : bX1_liveByLots_86 o r7 r86 x1 x2 x3 x4 h = some hr) : J Z G 5 h 86 [(0, .ref (Z.2.1 o)), (1, .int x1), (2, .int x2), (3, .int x3), (4, .int x4)] [] := by
  unfold bX1_liveByLots_86 at hF
  refine j_iload (pc := 86) 4 X dX1_liveByLots_86 rfl ?_
  refine j_iconst (pc := 88) 4 X dX1_liveByLots_88 rfl ?_
  refine j_icmp_ge (pc := 89) 123 X dX1_liveByLots_89 rfl hF (fun hF => ?_) (fun hF => ?_)
  · refine j_aload_n (pc := 123) 0 X dX1_liveByLots_123 rfl ?_
    refine j_iload_n (pc := 124) 3 X dX1_liveByLots_124 rfl ?_
    refine j_cVv (pc := 125) (As := [.int x3]) (rest := []) X dX1_liveByLots_125 ml_X1_96 ck_X1_payFees cv_X1_payFees (hz _ (shC ho)) rfl (Nat.le_of_ble_eq_true rfl) rfl (Nat.le_of_ble_eq_true rfl) rfl hF (tX1_payFees Z o ho x3 hz h) (fun h1 hF => ?_)
    refine j_aload_n (pc := 128) 0 X dX1_liveByLots_128 rfl ?_
    refine j_iload_n (pc := 129) 3 X dX1_liveByLots_129 rfl ?_
    refine j_cVv (pc := 130) (As := [.int x3]) (rest := []) X dX1_liveByLots_130 ml_X1_99 ck_X1_lookUp cv_X1_lookUp (hz _ (shC ho)) rfl (Nat.le_of_ble_eq_true rfl) rfl (Nat.le_of_ble_eq_true rfl) rfl hF (tX1_lookUp Z o ho x3 hz h1) (fun h2 hF => ?_)
    refine j_iinc (pc := 133) 3 (x3 + 1) (fun y => [(3, .int y), (0, .ref (Z.2.1 o)), (1, .int x1), (2, .int x2), (4, .int x4)]) X dX1_liveByLots_133 rfl rfl (by decide) (fun _ => rfl) hF (fun v3 hF => ?_)
    refine j_goto (pc := 136) 7 X dX1_liveByLots_136 rfl ?_
    refine j_lv [(0, .ref (Z.2.1 o)), (1, .int x1), (2, .int x2), (3, .int v3)] [1, 2, 3, 0] rfl ?_
    exact hr7 x1 x2 v3 h2 hF
  · refine j_iload_n (pc := 92) 1 X dX1_liveByLots_92 rfl ?_
    refine j_bipush (pc := 93) 100 X dX1_liveByLots_93 rfl ?_
    refine j_iload_n (pc := 95) 3 X dX1_liveByLots_95 rfl ?_
    refine j_imul (pc := 96) X dX1_liveByLots_96 ?_
    refine j_bipush (pc := 97) 50 X dX1_liveByLots_97 rfl ?_
    refine j_iadd (pc := 99) X dX1_liveByLots_99 ?_
    refine j_iload (pc := 100) 4 X dX1_liveByLots_100 rfl ?_
    refine j_iadd (pc := 102) X dX1_liveByLots_102 ?_
    refine j_cSi (pc := 103) (As := [.int x1, .int ((((100 : Int32) * x3) + 50) + x4)]) (rest := []) X dX1_liveByLots_103 ml_X1_173 ck_X1_lot sk_X1_lot (Nat.le_of_ble_eq_true rfl) rfl (Nat.le_of_ble_eq_true rfl) rfl hF (tX1_lot Z x1 ((((100 : Int32) * x3) + 50) + x4) trivial h) (fun w5 h4 hF => ?_)
    refine j_iload_n (pc := 106) 2 X dX1_liveByLots_106 rfl ?_
    refine j_icmp_ge (pc := 107) 117 X dX1_liveByLots_107 rfl hF (fun hF => ?_) (fun hF => ?_)
    · exact BX1_liveByLots_117 X E o ho hz r7 hr7 r86 hr86 x1 x2 x3 x4 h4 hF
    · refine j_aload_n (pc := 110) 0 X dX1_liveByLots_110 rfl ?_
      refine j_iload (pc := 111) 4 X dX1_liveByLots_111 rfl ?_
      refine j_iload_n (pc := 113) 3 X dX1_liveByLots_113 rfl ?_
      refine j_cVv (pc := 114) (As := [.int x4, .int x3]) (rest := []) X dX1_liveByLots_114 ml_X1_146 ck_X1_floodShelf cv_X1_floodShelf (hz _ (shC ho)) rfl (Nat.le_of_ble_eq_true rfl) rfl (Nat.le_of_ble_eq_true rfl) rfl hF (tX1_floodShelf Z o ho x4 x3 hz h4) (fun h6 hF => ?_)
      exact BX1_liveByLots_117 X E o ho hz r7 hr7 r86 hr86 x1 x2 x3 x4 h6 hF
theorem LX1_liveByLots_86 {Z : ZT} {G : GT} {hr : Hp} (X : CX Z G cX1_liveByLots RX1 5 5) (E : RX Z G none (none) hr) (o : Nat) (ho : isC o) (hz : HZ Z) (r7 : Int32 → Int32 → Int32 → Hp → Option (Hp)) (hr7 : ∀ (x1 : Int32) (x2 : Int32) (x3 : Int32) (h : Hp), r7 x1 x2 x3 h = some hr → J Z G 5 h 7 [(0, .ref (Z.2.1 o)), (1, .int x1), (2, .int x2), (3, .int x3)] []) : ∀ (n : Nat) (x1 : Int32) (x2 : Int32) (x3 : Int32) (x4 : Int32) (h : Hp), lX1_liveByLots_86 o r7 n x1 x2 x3 x4 h = some hr → J Z G 5 h 86 [(0, .ref (Z.2.1 o)), (1, .int x1), (2, .int x2), (3, .int x3), (4, .int x4)] [] := by
  intro n
  induction n with
  | zero => intro x1 x2 x3 x4 h hF; cases hF
  | succ n ih => intro x1 x2 x3 x4 h hF; exact BX1_liveByLots_86 X E o ho hz r7 hr7 (lX1_liveByLots_86 o r7 n) ih x1 x2 x3 x4 h hF
def bX1_liveByLots_16 (o : Nat) (r7 : Int32 → Int32 → Int32 → Hp → Option (Hp)) (r16 : Int32 → Int32 → Int32 → Int32 → Hp → Option (Hp)) (x1 : Int32) (x2 : Int32) (x3 : Int32) (x4 : Int32) (h : Hp) : Option (Hp) := (if (h.1 108 6) ≤ x4 then lt 0 (fun v1 => lX1_liveByLots_86 o r7 FU x1 x2 x3 v1 h) else bi (fX11_has (h.1 o 11) x4 h) (fun w3 h2 => (if w3 = 0 then bi (fX1_lot x1 (((100 : Int32) * x3) + x4) h2) (fun w5 h4 => bi (fX6_diesOf x4 x3 h4) (fun w7 h6 => (if w7 ≤ w5 then bX1_liveByLots_77 o r7 r16 x1 x2 x3 x4 h6 else lt (wI h6 o 11 ((h6.1 o 11) ||| ((1 : Int32) <<< (x4 &&& 31)))) (fun h8 => bX1_liveByLots_77 o r7 r16 x1 x2 x3 x4 h8)))) else bX1_liveByLots_77 o r7 r16 x1 x2 x3 x4 h2)))
def lX1_liveByLots_16 (o : Nat) (r7 : Int32 → Int32 → Int32 → Hp → Option (Hp)) : Nat → Int32 → Int32 → Int32 → Int32 → Hp → Option (Hp)
  | 0 => fun _ _ _ _ _ => none
  | n + 1 => bX1_liveByLots_16 o r7 (lX1_liveByLots_16 o r7 n)
set_option maxRecDepth 20000 in
theorem BX1_liveByLots_16 {Z : ZT} {G : GT} {hr : Hp} (X : CX Z G cX1_liveByLots RX1 5 5) (E : RX Z G none (none) hr) (o : Nat) (ho : isC o) (hz : HZ Z) (r7 : Int32 → Int32 → Int32 → Hp → Option (Hp)) (hr7 : ∀ (x1 : Int32) (x2 : Int32) (x3 : Int32) (h : Hp), r7 x1 x2 x3 h = some hr → J Z G 5 h 7 [(0, .ref (Z.2.1 o)), (1, .int x1), (2, .int x2), (3, .int x3)] []) (r16 : Int32 → Int32 → Int32 → Int32 → Hp → Option (Hp)) (hr16 : ∀ (x1 : Int32) (x2 : Int32) (x3 : Int32) (x4 : Int32) (h : Hp), r16 x1 x2 x3 x4 h = some hr → J Z G 5 h 16 [(0, .ref (Z.2.1 o)), (1, .int x1), (2, .int x2), (3, .int x3), (4, .int x4)] []) (x1 : Int32) (x2 : Int32) (x3 : Int32) (x4 : Int32) (h : Hp) (hF : bX1_liveByLots_16 o r7 r16 x1 x2 x3 x4 h = some hr) : J Z G 5 h 16 [(0, .ref (Z.2.1 o)), (1, .int x1), (2, .int x2), (3, .int x3), (4, .int x4)] [] := by
  unfold bX1_liveByLots_16 at hF
  refine j_iload (pc := 16) 4 X dX1_liveByLots_16 rfl ?_
  refine j_aload_n (pc := 18) 0 X dX1_liveByLots_18 rfl ?_
  refine j_getr (pc := 19) X dX1_liveByLots_19 (hz _ (shC ho)) fl_X1_33 rfl ?_
  refine j_geti (pc := 22) X dX1_liveByLots_22 (hz _ sh_108) fl_X1_170 rfl ?_
  refine j_icmp_ge (pc := 25) 83 X dX1_liveByLots_25 rfl hF (fun hF => ?_) (fun hF => ?_)
  · refine j_iconst (pc := 83) 0 X dX1_liveByLots_83 rfl ?_
    refine j_istore (pc := 84) (fun y => [(4, .int y), (0, .ref (Z.2.1 o)), (1, .int x1), (2, .int x2), (3, .int x3)]) X dX1_liveByLots_84 (by decide) (fun _ => rfl) hF (fun v1 hF => ?_)
    refine j_lv [(0, .ref (Z.2.1 o)), (1, .int x1), (2, .int x2), (3, .int x3), (4, .int v1)] [1, 2, 3, 4, 0] rfl ?_
    exact LX1_liveByLots_86 X E o ho hz r7 hr7 FU x1 x2 x3 v1 h hF
  · refine j_aload_n (pc := 28) 0 X dX1_liveByLots_28 rfl ?_
    refine j_geti (pc := 29) X dX1_liveByLots_29 (hz _ (shC ho)) fl_X1_69 rfl ?_
    refine j_iload (pc := 32) 4 X dX1_liveByLots_32 rfl ?_
    refine j_cSNi (pc := 34) (As := [.int (h.1 o 11), .int x4]) (rest := []) X dX1_liveByLots_34 ml_X1_129 ck_X11_has sk_X11_has (Nat.le_of_ble_eq_true rfl) rfl (Nat.le_of_ble_eq_true rfl) rfl hF (tX11_has Z (h.1 o 11) x4 trivial h) (fun w3 h2 hF => ?_)
    refine j_if_ne (pc := 37) 77 X dX1_liveByLots_37 rfl hF (fun hF => ?_) (fun hF => ?_)
    · exact BX1_liveByLots_77 X E o ho hz r7 hr7 r16 hr16 x1 x2 x3 x4 h2 hF
    · refine j_iload_n (pc := 40) 1 X dX1_liveByLots_40 rfl ?_
      refine j_bipush (pc := 41) 100 X dX1_liveByLots_41 rfl ?_
      refine j_iload_n (pc := 43) 3 X dX1_liveByLots_43 rfl ?_
      refine j_imul (pc := 44) X dX1_liveByLots_44 ?_
      refine j_iload (pc := 45) 4 X dX1_liveByLots_45 rfl ?_
      refine j_iadd (pc := 47) X dX1_liveByLots_47 ?_
      refine j_cSi (pc := 48) (As := [.int x1, .int (((100 : Int32) * x3) + x4)]) (rest := []) X dX1_liveByLots_48 ml_X1_173 ck_X1_lot sk_X1_lot (Nat.le_of_ble_eq_true rfl) rfl (Nat.le_of_ble_eq_true rfl) rfl hF (tX1_lot Z x1 (((100 : Int32) * x3) + x4) trivial h2) (fun w5 h4 hF => ?_)
      refine j_aload_n (pc := 51) 0 X dX1_liveByLots_51 rfl ?_
      refine j_getr (pc := 52) X dX1_liveByLots_52 (hz _ (shC ho)) fl_X1_41 rfl ?_
      refine j_iload (pc := 55) 4 X dX1_liveByLots_55 rfl ?_
      refine j_iload_n (pc := 57) 3 X dX1_liveByLots_57 rfl ?_
      refine j_cVi (pc := 58) (As := [.int x4, .int x3]) (rest := [.int w5]) X dX1_liveByLots_58 ml_X1_176 ck_X6_diesOf cv_X6_diesOf (hz _ sh_147) rfl (Nat.le_of_ble_eq_true rfl) rfl (Nat.le_of_ble_eq_true rfl) rfl hF (tX6_diesOf Z x4 x3 hz h4) (fun w7 h6 hF => ?_)
      refine j_icmp_ge (pc := 61) 77 X dX1_liveByLots_61 rfl hF (fun hF => ?_) (fun hF => ?_)
      · exact BX1_liveByLots_77 X E o ho hz r7 hr7 r16 hr16 x1 x2 x3 x4 h6 hF
      · refine j_aload_n (pc := 64) 0 X dX1_liveByLots_64 rfl ?_
        refine j_dup (pc := 65) X dX1_liveByLots_65 rfl ?_
        refine j_geti (pc := 66) X dX1_liveByLots_66 (hz _ (shC ho)) fl_X1_69 rfl ?_
        refine j_iconst (pc := 69) 1 X dX1_liveByLots_69 rfl ?_
        refine j_iload (pc := 70) 4 X dX1_liveByLots_70 rfl ?_
        refine j_ishl (pc := 72) X dX1_liveByLots_72 ?_
        refine j_ior (pc := 73) X dX1_liveByLots_73 ?_
        refine j_puti (pc := 74) X dX1_liveByLots_74 (hz _ (shC ho)) fp_X1_69 rfl hF (fun h8 hF => ?_)
        exact BX1_liveByLots_77 X E o ho hz r7 hr7 r16 hr16 x1 x2 x3 x4 h8 hF
theorem LX1_liveByLots_16 {Z : ZT} {G : GT} {hr : Hp} (X : CX Z G cX1_liveByLots RX1 5 5) (E : RX Z G none (none) hr) (o : Nat) (ho : isC o) (hz : HZ Z) (r7 : Int32 → Int32 → Int32 → Hp → Option (Hp)) (hr7 : ∀ (x1 : Int32) (x2 : Int32) (x3 : Int32) (h : Hp), r7 x1 x2 x3 h = some hr → J Z G 5 h 7 [(0, .ref (Z.2.1 o)), (1, .int x1), (2, .int x2), (3, .int x3)] []) : ∀ (n : Nat) (x1 : Int32) (x2 : Int32) (x3 : Int32) (x4 : Int32) (h : Hp), lX1_liveByLots_16 o r7 n x1 x2 x3 x4 h = some hr → J Z G 5 h 16 [(0, .ref (Z.2.1 o)), (1, .int x1), (2, .int x2), (3, .int x3), (4, .int x4)] [] := by
  intro n
  induction n with
  | zero => intro x1 x2 x3 x4 h hF; cases hF
  | succ n ih => intro x1 x2 x3 x4 h hF; exact BX1_liveByLots_16 X E o ho hz r7 hr7 (lX1_liveByLots_16 o r7 n) ih x1 x2 x3 x4 h hF
def bX1_liveByLots_7 (o : Nat)  (r7 : Int32 → Int32 → Int32 → Hp → Option (Hp)) (x1 : Int32) (x2 : Int32) (x3 : Int32) (h : Hp) : Option (Hp) := (if 60 ≤ x3 then some h else lt 0 (fun v1 => lX1_liveByLots_16 o r7 FU x1 x2 x3 v1 h))
def lX1_liveByLots_7 (o : Nat)  : Nat → Int32 → Int32 → Int32 → Hp → Option (Hp)
  | 0 => fun _ _ _ _ => none
  | n + 1 => bX1_liveByLots_7 o  (lX1_liveByLots_7 o  n)
set_option maxRecDepth 20000 in
theorem BX1_liveByLots_7 {Z : ZT} {G : GT} {hr : Hp} (X : CX Z G cX1_liveByLots RX1 5 5) (E : RX Z G none (none) hr) (o : Nat) (ho : isC o) (hz : HZ Z)  (r7 : Int32 → Int32 → Int32 → Hp → Option (Hp)) (hr7 : ∀ (x1 : Int32) (x2 : Int32) (x3 : Int32) (h : Hp), r7 x1 x2 x3 h = some hr → J Z G 5 h 7 [(0, .ref (Z.2.1 o)), (1, .int x1), (2, .int x2), (3, .int x3)] []) (x1 : Int32) (x2 : Int32) (x3 : Int32) (h : Hp) (hF : bX1_liveByLots_7 o  r7 x1 x2 x3 h = some hr) : J Z G 5 h 7 [(0, .ref (Z.2.1 o)), (1, .int x1), (2, .int x2), (3, .int x3)] [] := by
  unfold bX1_liveByLots_7 at hF
  refine j_iload_n (pc := 7) 3 X dX1_liveByLots_7 rfl ?_
  refine j_bipush (pc := 8) 60 X dX1_liveByLots_8 rfl ?_
  refine j_icmp_ge (pc := 10) 139 X dX1_liveByLots_10 rfl hF (fun hF => ?_) (fun hF => ?_)
  · exact j_vret (pc := 139) X E dX1_liveByLots_139 hF
  · refine j_iconst (pc := 13) 0 X dX1_liveByLots_13 rfl ?_
    refine j_istore (pc := 14) (fun y => [(4, .int y), (0, .ref (Z.2.1 o)), (1, .int x1), (2, .int x2), (3, .int x3)]) X dX1_liveByLots_14 (by decide) (fun _ => rfl) hF (fun v1 hF => ?_)
    refine j_lv [(0, .ref (Z.2.1 o)), (1, .int x1), (2, .int x2), (3, .int x3), (4, .int v1)] [1, 2, 3, 4, 0] rfl ?_
    exact LX1_liveByLots_16 X E o ho hz r7 hr7 FU x1 x2 x3 v1 h hF
theorem LX1_liveByLots_7 {Z : ZT} {G : GT} {hr : Hp} (X : CX Z G cX1_liveByLots RX1 5 5) (E : RX Z G none (none) hr) (o : Nat) (ho : isC o) (hz : HZ Z)  : ∀ (n : Nat) (x1 : Int32) (x2 : Int32) (x3 : Int32) (h : Hp), lX1_liveByLots_7 o  n x1 x2 x3 h = some hr → J Z G 5 h 7 [(0, .ref (Z.2.1 o)), (1, .int x1), (2, .int x2), (3, .int x3)] [] := by
  intro n
  induction n with
  | zero => intro x1 x2 x3 h hF; cases hF
  | succ n ih => intro x1 x2 x3 h hF; exact BX1_liveByLots_7 X E o ho hz  (lX1_liveByLots_7 o  n) ih x1 x2 x3 h hF
def fX1_liveByLots (o : Nat) (a1 : Int32) (a2 : Int32) (h : Hp) : Option (Hp) := bv (fX1_begin o 1 h) (fun h1 => lt 0 (fun v2 => lX1_liveByLots_7 o FU a1 a2 v2 h1))
set_option maxRecDepth 20000 in
theorem tX1_liveByLots (Z : ZT) (o : Nat) (ho : isC o) (a1 : Int32) (a2 : Int32) (hz : HZ Z) (h : Hp) (hr : Hp) (hF : fX1_liveByLots o a1 a2 h = some hr) : MC Z yX1_liveByLots cX1_liveByLots 5 none 5 [.ref (Z.2.1 o), .int a1, .int a2] h (none) hr := by
  unfold fX1_liveByLots at hF
  refine mc_start (by decide) (Nat.le_of_ble_eq_true rfl) (fun G X E => ?_)
  refine j_aload_n (pc := 0) 0 X dX1_liveByLots_0 rfl ?_
  refine j_iconst (pc := 1) 1 X dX1_liveByLots_1 rfl ?_
  refine j_cVv (pc := 2) (As := [.int 1]) (rest := []) X dX1_liveByLots_2 ml_X1_88 ck_X1_begin cv_X1_begin (hz _ (shC ho)) rfl (Nat.le_of_ble_eq_true rfl) rfl (Nat.le_of_ble_eq_true rfl) rfl hF (tX1_begin Z o ho 1 hz h) (fun h1 hF => ?_)
  refine j_iconst (pc := 5) 0 X dX1_liveByLots_5 rfl ?_
  refine j_istore_n (pc := 6) (fun y => [(3, .int y), (0, .ref (Z.2.1 o)), (1, .int a1), (2, .int a2)]) X dX1_liveByLots_6 (by decide) (fun _ => rfl) hF (fun v2 hF => ?_)
  refine j_lv [(0, .ref (Z.2.1 o)), (1, .int a1), (2, .int a2), (3, .int v2)] [1, 2, 3, 0] rfl ?_
  exact LX1_liveByLots_7 X E o ho hz FU a1 a2 v2 h1 hF
theorem dX3_annulledBy_0 : decode cX3_annulledBy 0 = .ok (.lconst 0, 1) := by decide +kernel
theorem dX3_annulledBy_1 : decode cX3_annulledBy 1 = .ok (.lstore_n 2, 1) := by decide +kernel
theorem dX3_annulledBy_2 : decode cX3_annulledBy 2 = .ok (.iconst 0, 1) := by decide +kernel
theorem dX3_annulledBy_3 : decode cX3_annulledBy 3 = .ok (.istore 4, 2) := by decide +kernel
theorem dX3_annulledBy_5 : decode cX3_annulledBy 5 = .ok (.iload 4, 2) := by decide +kernel
theorem dX3_annulledBy_7 : decode cX3_annulledBy 7 = .ok (.iload_n 1, 1) := by decide +kernel
theorem dX3_annulledBy_8 : decode cX3_annulledBy 8 = .ok (.if_icmp .ge 33, 3) := by decide +kernel
theorem dX3_annulledBy_11 : decode cX3_annulledBy 11 = .ok (.aload_n 0, 1) := by decide +kernel
theorem dX3_annulledBy_12 : decode cX3_annulledBy 12 = .ok (.getfield 9, 3) := by decide +kernel
theorem dX3_annulledBy_15 : decode cX3_annulledBy 15 = .ok (.iload 4, 2) := by decide +kernel
theorem dX3_annulledBy_17 : decode cX3_annulledBy 17 = .ok (.iaload, 1) := by decide +kernel
theorem dX3_annulledBy_18 : decode cX3_annulledBy 18 = .ok (.bipush 6, 2) := by decide +kernel
theorem dX3_annulledBy_20 : decode cX3_annulledBy 20 = .ok (.if_icmp .ne 15, 3) := by decide +kernel
theorem dX3_annulledBy_23 : decode cX3_annulledBy 23 = .ok (.lload_n 2, 1) := by decide +kernel
theorem dX3_annulledBy_24 : decode cX3_annulledBy 24 = .ok (.lconst 1, 1) := by decide +kernel
theorem dX3_annulledBy_25 : decode cX3_annulledBy 25 = .ok (.aload_n 0, 1) := by decide +kernel
theorem dX3_annulledBy_26 : decode cX3_annulledBy 26 = .ok (.getfield 18, 3) := by decide +kernel
theorem dX3_annulledBy_29 : decode cX3_annulledBy 29 = .ok (.iload 4, 2) := by decide +kernel
theorem dX3_annulledBy_31 : decode cX3_annulledBy 31 = .ok (.iaload, 1) := by decide +kernel
theorem dX3_annulledBy_32 : decode cX3_annulledBy 32 = .ok (.lshl, 1) := by decide +kernel
theorem dX3_annulledBy_33 : decode cX3_annulledBy 33 = .ok (.lor, 1) := by decide +kernel
theorem dX3_annulledBy_34 : decode cX3_annulledBy 34 = .ok (.lstore_n 2, 1) := by decide +kernel
theorem dX3_annulledBy_35 : decode cX3_annulledBy 35 = .ok (.iinc 4 1, 3) := by decide +kernel
theorem dX3_annulledBy_38 : decode cX3_annulledBy 38 = .ok (.goto (-33), 3) := by decide +kernel
theorem dX3_annulledBy_41 : decode cX3_annulledBy 41 = .ok (.lload_n 2, 1) := by decide +kernel
theorem dX3_annulledBy_42 : decode cX3_annulledBy 42 = .ok (.lreturn, 1) := by decide +kernel
def bX3_annulledBy_35  (r5 : Int32 → Int64 → Int32 → Hp → Option (Int64 × Hp)) (x1 : Int32) (x2 : Int64) (x4 : Int32) (h : Hp) : Option (Int64 × Hp) := lt (x4 + 1) (fun v1 => r5 x1 x2 v1 h)
set_option maxRecDepth 20000 in
theorem BX3_annulledBy_35 {Z : ZT} {G : GT} {r : Int64} {hr : Hp} (X : CX Z G cX3_annulledBy RX3 5 0) (E : RX Z G (some .long) (some (.long r)) hr) (hz : HZ Z) (r5 : Int32 → Int64 → Int32 → Hp → Option (Int64 × Hp)) (hr5 : ∀ (x1 : Int32) (x2 : Int64) (x4 : Int32) (h : Hp), r5 x1 x2 x4 h = some (r, hr) → J Z G 5 h 5 [(0, .ref (Z.2.1 152)), (1, .int x1), (2, .long x2), (4, .int x4)] []) (x1 : Int32) (x2 : Int64) (x4 : Int32) (h : Hp) (hF : bX3_annulledBy_35  r5 x1 x2 x4 h = some (r, hr)) : J Z G 5 h 35 [(0, .ref (Z.2.1 152)), (1, .int x1), (2, .long x2), (4, .int x4)] [] := by
  unfold bX3_annulledBy_35 at hF
  refine j_iinc (pc := 35) 3 (x4 + 1) (fun y => [(4, .int y), (0, .ref (Z.2.1 152)), (1, .int x1), (2, .long x2)]) X dX3_annulledBy_35 rfl rfl (by decide) (fun _ => rfl) hF (fun v1 hF => ?_)
  refine j_goto (pc := 38) 5 X dX3_annulledBy_38 rfl ?_
  refine j_lv [(0, .ref (Z.2.1 152)), (1, .int x1), (2, .long x2), (4, .int v1)] [1, 2, 3, 0] rfl ?_
  exact hr5 x1 x2 v1 h hF
def bX3_annulledBy_5   (r5 : Int32 → Int64 → Int32 → Hp → Option (Int64 × Hp)) (x1 : Int32) (x2 : Int64) (x4 : Int32) (h : Hp) : Option (Int64 × Hp) := (if x1 ≤ x4 then some (x2, h) else ck (inb x4 60) ((if (h.1 153 (ix x4)) = 6 then ck (inb x4 60) (lt (x2 ||| (shlL 1 (h.1 155 (ix x4)))) (fun v1 => bX3_annulledBy_35 r5 x1 v1 x4 h)) else bX3_annulledBy_35 r5 x1 x2 x4 h)))
def lX3_annulledBy_5   : Nat → Int32 → Int64 → Int32 → Hp → Option (Int64 × Hp)
  | 0 => fun _ _ _ _ => none
  | n + 1 => bX3_annulledBy_5   (lX3_annulledBy_5   n)
set_option maxRecDepth 20000 in
theorem BX3_annulledBy_5 {Z : ZT} {G : GT} {r : Int64} {hr : Hp} (X : CX Z G cX3_annulledBy RX3 5 0) (E : RX Z G (some .long) (some (.long r)) hr) (hz : HZ Z)  (r5 : Int32 → Int64 → Int32 → Hp → Option (Int64 × Hp)) (hr5 : ∀ (x1 : Int32) (x2 : Int64) (x4 : Int32) (h : Hp), r5 x1 x2 x4 h = some (r, hr) → J Z G 5 h 5 [(0, .ref (Z.2.1 152)), (1, .int x1), (2, .long x2), (4, .int x4)] []) (x1 : Int32) (x2 : Int64) (x4 : Int32) (h : Hp) (hF : bX3_annulledBy_5   r5 x1 x2 x4 h = some (r, hr)) : J Z G 5 h 5 [(0, .ref (Z.2.1 152)), (1, .int x1), (2, .long x2), (4, .int x4)] [] := by
  unfold bX3_annulledBy_5 at hF
  refine j_iload (pc := 5) 3 X dX3_annulledBy_5 rfl ?_
  refine j_iload_n (pc := 7) 1 X dX3_annulledBy_7 rfl ?_
  refine j_icmp_ge (pc := 8) 41 X dX3_annulledBy_8 rfl hF (fun hF => ?_) (fun hF => ?_)
  · refine j_lload_n (pc := 41) 2 X dX3_annulledBy_41 rfl ?_
    exact j_lret (pc := 42) X E dX3_annulledBy_42 hF
  · refine j_aload_n (pc := 11) 0 X dX3_annulledBy_11 rfl ?_
    refine j_getr (pc := 12) X dX3_annulledBy_12 (hz _ sh_152) fl_X3_9 rfl ?_
    refine j_iload (pc := 15) 3 X dX3_annulledBy_15 rfl ?_
    refine j_iald (pc := 17) X dX3_annulledBy_17 (hz _ sh_153) hF (fun hF => ?_)
    refine j_bipush (pc := 18) 6 X dX3_annulledBy_18 rfl ?_
    refine j_icmp_ne (pc := 20) 35 X dX3_annulledBy_20 rfl hF (fun hF => ?_) (fun hF => ?_)
    · exact BX3_annulledBy_35 X E hz r5 hr5 x1 x2 x4 h hF
    · refine j_lload_n (pc := 23) 2 X dX3_annulledBy_23 rfl ?_
      refine j_lconst (pc := 24) 1 X dX3_annulledBy_24 rfl ?_
      refine j_aload_n (pc := 25) 0 X dX3_annulledBy_25 rfl ?_
      refine j_getr (pc := 26) X dX3_annulledBy_26 (hz _ sh_152) fl_X3_18 rfl ?_
      refine j_iload (pc := 29) 3 X dX3_annulledBy_29 rfl ?_
      refine j_iald (pc := 31) X dX3_annulledBy_31 (hz _ sh_155) hF (fun hF => ?_)
      refine j_lshl (pc := 32) X dX3_annulledBy_32 ?_
      refine j_lor (pc := 33) X dX3_annulledBy_33 ?_
      refine j_lstore_n (pc := 34) (fun y => [(2, .long y), (0, .ref (Z.2.1 152)), (1, .int x1), (4, .int x4)]) X dX3_annulledBy_34 (by decide) (fun _ => rfl) hF (fun v1 hF => ?_)
      refine j_lv [(0, .ref (Z.2.1 152)), (1, .int x1), (2, .long v1), (4, .int x4)] [1, 2, 0, 3] rfl ?_
      exact BX3_annulledBy_35 X E hz r5 hr5 x1 v1 x4 h hF
theorem LX3_annulledBy_5 {Z : ZT} {G : GT} {r : Int64} {hr : Hp} (X : CX Z G cX3_annulledBy RX3 5 0) (E : RX Z G (some .long) (some (.long r)) hr) (hz : HZ Z)  : ∀ (n : Nat) (x1 : Int32) (x2 : Int64) (x4 : Int32) (h : Hp), lX3_annulledBy_5   n x1 x2 x4 h = some (r, hr) → J Z G 5 h 5 [(0, .ref (Z.2.1 152)), (1, .int x1), (2, .long x2), (4, .int x4)] [] := by
  intro n
  induction n with
  | zero => intro x1 x2 x4 h hF; cases hF
  | succ n ih => intro x1 x2 x4 h hF; exact BX3_annulledBy_5 X E hz  (lX3_annulledBy_5   n) ih x1 x2 x4 h hF
def fX3_annulledBy (a1 : Int32) (h : Hp) : Option (Int64 × Hp) := lt 0 (fun v1 => lt 0 (fun v2 => lX3_annulledBy_5 FU a1 v1 v2 h))
set_option maxRecDepth 20000 in
theorem tX3_annulledBy (Z : ZT) (a1 : Int32) (hz : HZ Z) (h : Hp) (r : Int64) (hr : Hp) (hF : fX3_annulledBy a1 h = some (r, hr)) : MC Z yX3_annulledBy cX3_annulledBy 5 (some .long) 0 [.ref (Z.2.1 152), .int a1] h (some (.long r)) hr := by
  unfold fX3_annulledBy at hF
  refine mc_start (by decide) (Nat.le_of_ble_eq_true rfl) (fun G X E => ?_)
  refine j_lconst (pc := 0) 0 X dX3_annulledBy_0 rfl ?_
  refine j_lstore_n (pc := 1) (fun y => [(2, .long y), (0, .ref (Z.2.1 152)), (1, .int a1)]) X dX3_annulledBy_1 (by decide) (fun _ => rfl) hF (fun v1 hF => ?_)
  refine j_iconst (pc := 2) 0 X dX3_annulledBy_2 rfl ?_
  refine j_istore (pc := 3) (fun y => [(4, .int y), (2, .long v1), (0, .ref (Z.2.1 152)), (1, .int a1)]) X dX3_annulledBy_3 (by decide) (fun _ => rfl) hF (fun v2 hF => ?_)
  refine j_lv [(0, .ref (Z.2.1 152)), (1, .int a1), (2, .long v1), (4, .int v2)] [2, 3, 1, 0] rfl ?_
  exact LX3_annulledBy_5 X E hz FU a1 v1 v2 h hF
theorem dX11_within_0 : decode cX11_within 0 = .ok (.iload_n 1, 1) := by decide +kernel
theorem dX11_within_1 : decode cX11_within 1 = .ok (.iload_n 0, 1) := by decide +kernel
theorem dX11_within_2 : decode cX11_within 2 = .ok (.if_icmp .gt 12, 3) := by decide +kernel
theorem dX11_within_5 : decode cX11_within 5 = .ok (.iload_n 0, 1) := by decide +kernel
theorem dX11_within_6 : decode cX11_within 6 = .ok (.iload_n 2, 1) := by decide +kernel
theorem dX11_within_7 : decode cX11_within 7 = .ok (.if_icmp .gt 7, 3) := by decide +kernel
theorem dX11_within_10 : decode cX11_within 10 = .ok (.iconst 1, 1) := by decide +kernel
theorem dX11_within_11 : decode cX11_within 11 = .ok (.goto 4, 3) := by decide +kernel
theorem dX11_within_14 : decode cX11_within 14 = .ok (.iconst 0, 1) := by decide +kernel
theorem dX11_within_15 : decode cX11_within 15 = .ok (.ireturn, 1) := by decide +kernel
def fX11_within (a1 : Int32) (a2 : Int32) (a3 : Int32) (h : Hp) : Option (Int32 × Hp) := (if a1 < a2 then ck (zb 0) (some (0, h)) else (if a3 < a1 then ck (zb 0) (some (0, h)) else ck (zb 1) (some (1, h))))
set_option maxRecDepth 20000 in
theorem tX11_within (Z : ZT) (a1 : Int32) (a2 : Int32) (a3 : Int32) (hz : True) (h : Hp) (r : Int32) (hr : Hp) (hF : fX11_within a1 a2 a3 h = some (r, hr)) : MC Z yX11_within cX11_within 3 (some .boolean) 0 [.int a1, .int a2, .int a3] h (some (.int r)) hr := by
  unfold fX11_within at hF
  refine mc_start (by decide) (Nat.le_of_ble_eq_true rfl) (fun G X E => ?_)
  refine j_iload_n (pc := 0) 1 X dX11_within_0 rfl ?_
  refine j_iload_n (pc := 1) 0 X dX11_within_1 rfl ?_
  refine j_icmp_gt (pc := 2) 14 X dX11_within_2 rfl hF (fun hF => ?_) (fun hF => ?_)
  · refine j_iconst (pc := 14) 0 X dX11_within_14 rfl ?_
    exact j_zret (pc := 15) X E dX11_within_15 hF
  · refine j_iload_n (pc := 5) 0 X dX11_within_5 rfl ?_
    refine j_iload_n (pc := 6) 2 X dX11_within_6 rfl ?_
    refine j_icmp_gt (pc := 7) 14 X dX11_within_7 rfl hF (fun hF => ?_) (fun hF => ?_)
    · refine j_iconst (pc := 14) 0 X dX11_within_14 rfl ?_
      exact j_zret (pc := 15) X E dX11_within_15 hF
    · refine j_iconst (pc := 10) 1 X dX11_within_10 rfl ?_
      refine j_goto (pc := 11) 15 X dX11_within_11 rfl ?_
      exact j_zret (pc := 15) X E dX11_within_15 hF
theorem dX3_counts_0 : decode cX3_counts 0 = .ok (.aload_n 0, 1) := by decide +kernel
theorem dX3_counts_1 : decode cX3_counts 1 = .ok (.getfield 15, 3) := by decide +kernel
theorem dX3_counts_4 : decode cX3_counts 4 = .ok (.iload_n 1, 1) := by decide +kernel
theorem dX3_counts_5 : decode cX3_counts 5 = .ok (.iaload, 1) := by decide +kernel
theorem dX3_counts_6 : decode cX3_counts 6 = .ok (.iconst 0, 1) := by decide +kernel
theorem dX3_counts_7 : decode cX3_counts 7 = .ok (.bipush 59, 2) := by decide +kernel
theorem dX3_counts_9 : decode cX3_counts 9 = .ok (.invokestatic 40, 3) := by decide +kernel
theorem dX3_counts_12 : decode cX3_counts 12 = .ok (.ifCond .eq 17, 3) := by decide +kernel
theorem dX3_counts_15 : decode cX3_counts 15 = .ok (.lload_n 2, 1) := by decide +kernel
theorem dX3_counts_16 : decode cX3_counts 16 = .ok (.iload_n 1, 1) := by decide +kernel
theorem dX3_counts_17 : decode cX3_counts 17 = .ok (.lshr, 1) := by decide +kernel
theorem dX3_counts_18 : decode cX3_counts 18 = .ok (.lconst 1, 1) := by decide +kernel
theorem dX3_counts_19 : decode cX3_counts 19 = .ok (.land, 1) := by decide +kernel
theorem dX3_counts_20 : decode cX3_counts 20 = .ok (.lconst 0, 1) := by decide +kernel
theorem dX3_counts_21 : decode cX3_counts 21 = .ok (.lcmp, 1) := by decide +kernel
theorem dX3_counts_22 : decode cX3_counts 22 = .ok (.ifCond .ne 7, 3) := by decide +kernel
theorem dX3_counts_25 : decode cX3_counts 25 = .ok (.iconst 1, 1) := by decide +kernel
theorem dX3_counts_26 : decode cX3_counts 26 = .ok (.goto 4, 3) := by decide +kernel
theorem dX3_counts_29 : decode cX3_counts 29 = .ok (.iconst 0, 1) := by decide +kernel
theorem dX3_counts_30 : decode cX3_counts 30 = .ok (.ireturn, 1) := by decide +kernel
def fX3_counts (a1 : Int32) (a2 : Int64) (h : Hp) : Option (Int32 × Hp) := ck (inb a1 60) (bi (fX11_within (h.1 154 (ix a1)) 0 59 h) (fun w2 h1 => (if w2 = 0 then ck (zb 0) (some (0, h1)) else (if (lg_cmp ((shrL a2 a1) &&& 1) 0) = 0 then ck (zb 1) (some (1, h1)) else ck (zb 0) (some (0, h1))))))
set_option maxRecDepth 20000 in
theorem tX3_counts (Z : ZT) (a1 : Int32) (a2 : Int64) (hz : HZ Z) (h : Hp) (r : Int32) (hr : Hp) (hF : fX3_counts a1 a2 h = some (r, hr)) : MC Z yX3_counts cX3_counts 4 (some .boolean) 1 [.ref (Z.2.1 152), .int a1, .long a2] h (some (.int r)) hr := by
  unfold fX3_counts at hF
  refine mc_start (by decide) (Nat.le_of_ble_eq_true rfl) (fun G X E => ?_)
  refine j_aload_n (pc := 0) 0 X dX3_counts_0 rfl ?_
  refine j_getr (pc := 1) X dX3_counts_1 (hz _ sh_152) fl_X3_15 rfl ?_
  refine j_iload_n (pc := 4) 1 X dX3_counts_4 rfl ?_
  refine j_iald (pc := 5) X dX3_counts_5 (hz _ sh_154) hF (fun hF => ?_)
  refine j_iconst (pc := 6) 0 X dX3_counts_6 rfl ?_
  refine j_bipush (pc := 7) 59 X dX3_counts_7 rfl ?_
  refine j_cSNi (pc := 9) (As := [.int (h.1 154 (ix a1)), .int 0, .int 59]) (rest := []) X dX3_counts_9 ml_X3_40 ck_X11_within sk_X11_within (Nat.le_of_ble_eq_true rfl) rfl (Nat.le_of_ble_eq_true rfl) rfl hF (tX11_within Z (h.1 154 (ix a1)) 0 59 trivial h) (fun w2 h1 hF => ?_)
  refine j_if_eq (pc := 12) 29 X dX3_counts_12 rfl hF (fun hF => ?_) (fun hF => ?_)
  · refine j_iconst (pc := 29) 0 X dX3_counts_29 rfl ?_
    exact j_zret (pc := 30) X E dX3_counts_30 hF
  · refine j_lload_n (pc := 15) 2 X dX3_counts_15 rfl ?_
    refine j_iload_n (pc := 16) 1 X dX3_counts_16 rfl ?_
    refine j_lshr (pc := 17) X dX3_counts_17 ?_
    refine j_lconst (pc := 18) 1 X dX3_counts_18 rfl ?_
    refine j_land (pc := 19) X dX3_counts_19 ?_
    refine j_lconst (pc := 20) 0 X dX3_counts_20 rfl ?_
    refine j_lcmp (pc := 21) X dX3_counts_21 ?_
    refine j_if_ne (pc := 22) 29 X dX3_counts_22 rfl hF (fun hF => ?_) (fun hF => ?_)
    · refine j_iconst (pc := 29) 0 X dX3_counts_29 rfl ?_
      exact j_zret (pc := 30) X E dX3_counts_30 hF
    · refine j_iconst (pc := 25) 1 X dX3_counts_25 rfl ?_
      refine j_goto (pc := 26) 30 X dX3_counts_26 rfl ?_
      exact j_zret (pc := 30) X E dX3_counts_30 hF
theorem dX3_arrange_0 : decode cX3_arrange 0 = .ok (.aload_n 0, 1) := by decide +kernel
theorem dX3_arrange_1 : decode cX3_arrange 1 = .ok (.iload_n 1, 1) := by decide +kernel
theorem dX3_arrange_2 : decode cX3_arrange 2 = .ok (.invokevirtual 44, 3) := by decide +kernel
theorem dX3_arrange_5 : decode cX3_arrange 5 = .ok (.lstore_n 2, 1) := by decide +kernel
theorem dX3_arrange_6 : decode cX3_arrange 6 = .ok (.aload_n 0, 1) := by decide +kernel
theorem dX3_arrange_7 : decode cX3_arrange 7 = .ok (.getfield 27, 3) := by decide +kernel
theorem dX3_arrange_10 : decode cX3_arrange 10 = .ok (.iconst 0, 1) := by decide +kernel
theorem dX3_arrange_11 : decode cX3_arrange 11 = .ok (.invokestatic 48, 3) := by decide +kernel
theorem dX3_arrange_14 : decode cX3_arrange 14 = .ok (.iconst 0, 1) := by decide +kernel
theorem dX3_arrange_15 : decode cX3_arrange 15 = .ok (.istore 4, 2) := by decide +kernel
theorem dX3_arrange_17 : decode cX3_arrange 17 = .ok (.iload 4, 2) := by decide +kernel
theorem dX3_arrange_19 : decode cX3_arrange 19 = .ok (.iload_n 1, 1) := by decide +kernel
theorem dX3_arrange_20 : decode cX3_arrange 20 = .ok (.if_icmp .ge 35, 3) := by decide +kernel
theorem dX3_arrange_23 : decode cX3_arrange 23 = .ok (.aload_n 0, 1) := by decide +kernel
theorem dX3_arrange_24 : decode cX3_arrange 24 = .ok (.iload 4, 2) := by decide +kernel
theorem dX3_arrange_26 : decode cX3_arrange 26 = .ok (.lload_n 2, 1) := by decide +kernel
theorem dX3_arrange_27 : decode cX3_arrange 27 = .ok (.invokevirtual 54, 3) := by decide +kernel
theorem dX3_arrange_30 : decode cX3_arrange 30 = .ok (.ifCond .eq 19, 3) := by decide +kernel
theorem dX3_arrange_33 : decode cX3_arrange 33 = .ok (.aload_n 0, 1) := by decide +kernel
theorem dX3_arrange_34 : decode cX3_arrange 34 = .ok (.getfield 27, 3) := by decide +kernel
theorem dX3_arrange_37 : decode cX3_arrange 37 = .ok (.aload_n 0, 1) := by decide +kernel
theorem dX3_arrange_38 : decode cX3_arrange 38 = .ok (.getfield 15, 3) := by decide +kernel
theorem dX3_arrange_41 : decode cX3_arrange 41 = .ok (.iload 4, 2) := by decide +kernel
theorem dX3_arrange_43 : decode cX3_arrange 43 = .ok (.iaload, 1) := by decide +kernel
theorem dX3_arrange_44 : decode cX3_arrange 44 = .ok (.dup2, 1) := by decide +kernel
theorem dX3_arrange_45 : decode cX3_arrange 45 = .ok (.iaload, 1) := by decide +kernel
theorem dX3_arrange_46 : decode cX3_arrange 46 = .ok (.iconst 1, 1) := by decide +kernel
theorem dX3_arrange_47 : decode cX3_arrange 47 = .ok (.iadd, 1) := by decide +kernel
theorem dX3_arrange_48 : decode cX3_arrange 48 = .ok (.iastore, 1) := by decide +kernel
theorem dX3_arrange_49 : decode cX3_arrange 49 = .ok (.iinc 4 1, 3) := by decide +kernel
theorem dX3_arrange_52 : decode cX3_arrange 52 = .ok (.goto (-35), 3) := by decide +kernel
theorem dX3_arrange_55 : decode cX3_arrange 55 = .ok (.iconst 1, 1) := by decide +kernel
theorem dX3_arrange_56 : decode cX3_arrange 56 = .ok (.istore 4, 2) := by decide +kernel
theorem dX3_arrange_58 : decode cX3_arrange 58 = .ok (.iload 4, 2) := by decide +kernel
theorem dX3_arrange_60 : decode cX3_arrange 60 = .ok (.bipush 60, 2) := by decide +kernel
theorem dX3_arrange_62 : decode cX3_arrange 62 = .ok (.if_icmp .gt 28, 3) := by decide +kernel
theorem dX3_arrange_65 : decode cX3_arrange 65 = .ok (.aload_n 0, 1) := by decide +kernel
theorem dX3_arrange_66 : decode cX3_arrange 66 = .ok (.getfield 27, 3) := by decide +kernel
theorem dX3_arrange_69 : decode cX3_arrange 69 = .ok (.iload 4, 2) := by decide +kernel
theorem dX3_arrange_71 : decode cX3_arrange 71 = .ok (.dup2, 1) := by decide +kernel
theorem dX3_arrange_72 : decode cX3_arrange 72 = .ok (.iaload, 1) := by decide +kernel
theorem dX3_arrange_73 : decode cX3_arrange 73 = .ok (.aload_n 0, 1) := by decide +kernel
theorem dX3_arrange_74 : decode cX3_arrange 74 = .ok (.getfield 27, 3) := by decide +kernel
theorem dX3_arrange_77 : decode cX3_arrange 77 = .ok (.iload 4, 2) := by decide +kernel
theorem dX3_arrange_79 : decode cX3_arrange 79 = .ok (.iconst 1, 1) := by decide +kernel
theorem dX3_arrange_80 : decode cX3_arrange 80 = .ok (.isub, 1) := by decide +kernel
theorem dX3_arrange_81 : decode cX3_arrange 81 = .ok (.iaload, 1) := by decide +kernel
theorem dX3_arrange_82 : decode cX3_arrange 82 = .ok (.iadd, 1) := by decide +kernel
theorem dX3_arrange_83 : decode cX3_arrange 83 = .ok (.iastore, 1) := by decide +kernel
theorem dX3_arrange_84 : decode cX3_arrange 84 = .ok (.iinc 4 1, 3) := by decide +kernel
theorem dX3_arrange_87 : decode cX3_arrange 87 = .ok (.goto (-29), 3) := by decide +kernel
theorem dX3_arrange_90 : decode cX3_arrange 90 = .ok (.iload_n 1, 1) := by decide +kernel
theorem dX3_arrange_91 : decode cX3_arrange 91 = .ok (.iconst 1, 1) := by decide +kernel
theorem dX3_arrange_92 : decode cX3_arrange 92 = .ok (.isub, 1) := by decide +kernel
theorem dX3_arrange_93 : decode cX3_arrange 93 = .ok (.istore 4, 2) := by decide +kernel
theorem dX3_arrange_95 : decode cX3_arrange 95 = .ok (.iload 4, 2) := by decide +kernel
theorem dX3_arrange_97 : decode cX3_arrange 97 = .ok (.ifCond .lt 54, 3) := by decide +kernel
theorem dX3_arrange_100 : decode cX3_arrange 100 = .ok (.aload_n 0, 1) := by decide +kernel
theorem dX3_arrange_101 : decode cX3_arrange 101 = .ok (.iload 4, 2) := by decide +kernel
theorem dX3_arrange_103 : decode cX3_arrange 103 = .ok (.lload_n 2, 1) := by decide +kernel
theorem dX3_arrange_104 : decode cX3_arrange 104 = .ok (.invokevirtual 54, 3) := by decide +kernel
theorem dX3_arrange_107 : decode cX3_arrange 107 = .ok (.ifCond .eq 38, 3) := by decide +kernel
theorem dX3_arrange_110 : decode cX3_arrange 110 = .ok (.aload_n 0, 1) := by decide +kernel
theorem dX3_arrange_111 : decode cX3_arrange 111 = .ok (.getfield 27, 3) := by decide +kernel
theorem dX3_arrange_114 : decode cX3_arrange 114 = .ok (.aload_n 0, 1) := by decide +kernel
theorem dX3_arrange_115 : decode cX3_arrange 115 = .ok (.getfield 15, 3) := by decide +kernel
theorem dX3_arrange_118 : decode cX3_arrange 118 = .ok (.iload 4, 2) := by decide +kernel
theorem dX3_arrange_120 : decode cX3_arrange 120 = .ok (.iaload, 1) := by decide +kernel
theorem dX3_arrange_121 : decode cX3_arrange 121 = .ok (.dup2, 1) := by decide +kernel
theorem dX3_arrange_122 : decode cX3_arrange 122 = .ok (.iaload, 1) := by decide +kernel
theorem dX3_arrange_123 : decode cX3_arrange 123 = .ok (.iconst 1, 1) := by decide +kernel
theorem dX3_arrange_124 : decode cX3_arrange 124 = .ok (.isub, 1) := by decide +kernel
theorem dX3_arrange_125 : decode cX3_arrange 125 = .ok (.iastore, 1) := by decide +kernel
theorem dX3_arrange_126 : decode cX3_arrange 126 = .ok (.aload_n 0, 1) := by decide +kernel
theorem dX3_arrange_127 : decode cX3_arrange 127 = .ok (.getfield 24, 3) := by decide +kernel
theorem dX3_arrange_130 : decode cX3_arrange 130 = .ok (.aload_n 0, 1) := by decide +kernel
theorem dX3_arrange_131 : decode cX3_arrange 131 = .ok (.getfield 27, 3) := by decide +kernel
theorem dX3_arrange_134 : decode cX3_arrange 134 = .ok (.aload_n 0, 1) := by decide +kernel
theorem dX3_arrange_135 : decode cX3_arrange 135 = .ok (.getfield 15, 3) := by decide +kernel
theorem dX3_arrange_138 : decode cX3_arrange 138 = .ok (.iload 4, 2) := by decide +kernel
theorem dX3_arrange_140 : decode cX3_arrange 140 = .ok (.iaload, 1) := by decide +kernel
theorem dX3_arrange_141 : decode cX3_arrange 141 = .ok (.iaload, 1) := by decide +kernel
theorem dX3_arrange_142 : decode cX3_arrange 142 = .ok (.iload 4, 2) := by decide +kernel
theorem dX3_arrange_144 : decode cX3_arrange 144 = .ok (.iastore, 1) := by decide +kernel
theorem dX3_arrange_145 : decode cX3_arrange 145 = .ok (.iinc 4 (-1), 3) := by decide +kernel
theorem dX3_arrange_148 : decode cX3_arrange 148 = .ok (.goto (-53), 3) := by decide +kernel
theorem dX3_arrange_151 : decode cX3_arrange 151 = .ok (.return_, 1) := by decide +kernel
def bX3_arrange_49  (r17 : Int32 → Int64 → Int32 → Hp → Option (Hp)) (x1 : Int32) (x2 : Int64) (x4 : Int32) (h : Hp) : Option (Hp) := lt (x4 + 1) (fun v1 => r17 x1 x2 v1 h)
set_option maxRecDepth 20000 in
theorem BX3_arrange_49 {Z : ZT} {G : GT} {hr : Hp} (X : CX Z G cX3_arrange RX3 5 2) (E : RX Z G none (none) hr) (hz : HZ Z) (r17 : Int32 → Int64 → Int32 → Hp → Option (Hp)) (hr17 : ∀ (x1 : Int32) (x2 : Int64) (x4 : Int32) (h : Hp), r17 x1 x2 x4 h = some hr → J Z G 5 h 17 [(0, .ref (Z.2.1 152)), (1, .int x1), (2, .long x2), (4, .int x4)] []) (x1 : Int32) (x2 : Int64) (x4 : Int32) (h : Hp) (hF : bX3_arrange_49  r17 x1 x2 x4 h = some hr) : J Z G 5 h 49 [(0, .ref (Z.2.1 152)), (1, .int x1), (2, .long x2), (4, .int x4)] [] := by
  unfold bX3_arrange_49 at hF
  refine j_iinc (pc := 49) 3 (x4 + 1) (fun y => [(4, .int y), (0, .ref (Z.2.1 152)), (1, .int x1), (2, .long x2)]) X dX3_arrange_49 rfl rfl (by decide) (fun _ => rfl) hF (fun v1 hF => ?_)
  refine j_goto (pc := 52) 17 X dX3_arrange_52 rfl ?_
  refine j_lv [(0, .ref (Z.2.1 152)), (1, .int x1), (2, .long x2), (4, .int v1)] [1, 2, 3, 0] rfl ?_
  exact hr17 x1 x2 v1 h hF
def bX3_arrange_145  (r95 : Int64 → Int32 → Hp → Option (Hp)) (x2 : Int64) (x4 : Int32) (h : Hp) : Option (Hp) := lt (x4 + (-1)) (fun v1 => r95 x2 v1 h)
set_option maxRecDepth 20000 in
theorem BX3_arrange_145 {Z : ZT} {G : GT} {hr : Hp} (X : CX Z G cX3_arrange RX3 5 2) (E : RX Z G none (none) hr) (hz : HZ Z) (r95 : Int64 → Int32 → Hp → Option (Hp)) (hr95 : ∀ (x2 : Int64) (x4 : Int32) (h : Hp), r95 x2 x4 h = some hr → J Z G 5 h 95 [(0, .ref (Z.2.1 152)), (2, .long x2), (4, .int x4)] []) (x2 : Int64) (x4 : Int32) (h : Hp) (hF : bX3_arrange_145  r95 x2 x4 h = some hr) : J Z G 5 h 145 [(0, .ref (Z.2.1 152)), (2, .long x2), (4, .int x4)] [] := by
  unfold bX3_arrange_145 at hF
  refine j_iinc (pc := 145) 2 (x4 + (-1)) (fun y => [(4, .int y), (0, .ref (Z.2.1 152)), (2, .long x2)]) X dX3_arrange_145 rfl rfl (by decide) (fun _ => rfl) hF (fun v1 hF => ?_)
  refine j_goto (pc := 148) 95 X dX3_arrange_148 rfl ?_
  refine j_lv [(0, .ref (Z.2.1 152)), (2, .long x2), (4, .int v1)] [1, 2, 0] rfl ?_
  exact hr95 x2 v1 h hF
def bX3_arrange_95   (r95 : Int64 → Int32 → Hp → Option (Hp)) (x2 : Int64) (x4 : Int32) (h : Hp) : Option (Hp) := (if x4 < 0 then some h else bi (fX3_counts x4 x2 h) (fun w2 h1 => (if w2 = 0 then bX3_arrange_145 r95 x2 x4 h1 else ck (inb x4 60) (ck (inb (h1.1 154 (ix x4)) 61) (ck (inb (h1.1 154 (ix x4)) 61) (lt (wI h1 158 (ix (h1.1 154 (ix x4))) ((h1.1 158 (ix (h1.1 154 (ix x4)))) - 1)) (fun h3 => ck (inb x4 60) (ck (inb (h3.1 154 (ix x4)) 61) (ck (inb (h3.1 158 (ix (h3.1 154 (ix x4)))) 60) (lt (wI h3 157 (ix (h3.1 158 (ix (h3.1 154 (ix x4))))) x4) (fun h4 => bX3_arrange_145 r95 x2 x4 h4)))))))))))
def lX3_arrange_95   : Nat → Int64 → Int32 → Hp → Option (Hp)
  | 0 => fun _ _ _ => none
  | n + 1 => bX3_arrange_95   (lX3_arrange_95   n)
set_option maxRecDepth 20000 in
theorem BX3_arrange_95 {Z : ZT} {G : GT} {hr : Hp} (X : CX Z G cX3_arrange RX3 5 2) (E : RX Z G none (none) hr) (hz : HZ Z)  (r95 : Int64 → Int32 → Hp → Option (Hp)) (hr95 : ∀ (x2 : Int64) (x4 : Int32) (h : Hp), r95 x2 x4 h = some hr → J Z G 5 h 95 [(0, .ref (Z.2.1 152)), (2, .long x2), (4, .int x4)] []) (x2 : Int64) (x4 : Int32) (h : Hp) (hF : bX3_arrange_95   r95 x2 x4 h = some hr) : J Z G 5 h 95 [(0, .ref (Z.2.1 152)), (2, .long x2), (4, .int x4)] [] := by
  unfold bX3_arrange_95 at hF
  refine j_iload (pc := 95) 2 X dX3_arrange_95 rfl ?_
  refine j_if_lt (pc := 97) 151 X dX3_arrange_97 rfl hF (fun hF => ?_) (fun hF => ?_)
  · exact j_vret (pc := 151) X E dX3_arrange_151 hF
  · refine j_aload_n (pc := 100) 0 X dX3_arrange_100 rfl ?_
    refine j_iload (pc := 101) 2 X dX3_arrange_101 rfl ?_
    refine j_lload_n (pc := 103) 1 X dX3_arrange_103 rfl ?_
    refine j_cVi (pc := 104) (As := [.int x4, .long x2]) (rest := []) X dX3_arrange_104 ml_X3_54 ck_X3_counts cv_X3_counts (hz _ sh_152) rfl (Nat.le_of_ble_eq_true rfl) rfl (Nat.le_of_ble_eq_true rfl) rfl hF (tX3_counts Z x4 x2 hz h) (fun w2 h1 hF => ?_)
    refine j_if_eq (pc := 107) 145 X dX3_arrange_107 rfl hF (fun hF => ?_) (fun hF => ?_)
    · exact BX3_arrange_145 X E hz r95 hr95 x2 x4 h1 hF
    · refine j_aload_n (pc := 110) 0 X dX3_arrange_110 rfl ?_
      refine j_getr (pc := 111) X dX3_arrange_111 (hz _ sh_152) fl_X3_27 rfl ?_
      refine j_aload_n (pc := 114) 0 X dX3_arrange_114 rfl ?_
      refine j_getr (pc := 115) X dX3_arrange_115 (hz _ sh_152) fl_X3_15 rfl ?_
      refine j_iload (pc := 118) 2 X dX3_arrange_118 rfl ?_
      refine j_iald (pc := 120) X dX3_arrange_120 (hz _ sh_154) hF (fun hF => ?_)
      refine j_dup2 (pc := 121) X dX3_arrange_121 rfl rfl ?_
      refine j_iald (pc := 122) X dX3_arrange_122 (hz _ sh_158) hF (fun hF => ?_)
      refine j_iconst (pc := 123) 1 X dX3_arrange_123 rfl ?_
      refine j_isub (pc := 124) X dX3_arrange_124 ?_
      refine j_iast (pc := 125) X dX3_arrange_125 (hz _ sh_158) hF (fun h3 hF => ?_)
      refine j_aload_n (pc := 126) 0 X dX3_arrange_126 rfl ?_
      refine j_getr (pc := 127) X dX3_arrange_127 (hz _ sh_152) fl_X3_24 rfl ?_
      refine j_aload_n (pc := 130) 0 X dX3_arrange_130 rfl ?_
      refine j_getr (pc := 131) X dX3_arrange_131 (hz _ sh_152) fl_X3_27 rfl ?_
      refine j_aload_n (pc := 134) 0 X dX3_arrange_134 rfl ?_
      refine j_getr (pc := 135) X dX3_arrange_135 (hz _ sh_152) fl_X3_15 rfl ?_
      refine j_iload (pc := 138) 2 X dX3_arrange_138 rfl ?_
      refine j_iald (pc := 140) X dX3_arrange_140 (hz _ sh_154) hF (fun hF => ?_)
      refine j_iald (pc := 141) X dX3_arrange_141 (hz _ sh_158) hF (fun hF => ?_)
      refine j_iload (pc := 142) 2 X dX3_arrange_142 rfl ?_
      refine j_iast (pc := 144) X dX3_arrange_144 (hz _ sh_157) hF (fun h4 hF => ?_)
      exact BX3_arrange_145 X E hz r95 hr95 x2 x4 h4 hF
theorem LX3_arrange_95 {Z : ZT} {G : GT} {hr : Hp} (X : CX Z G cX3_arrange RX3 5 2) (E : RX Z G none (none) hr) (hz : HZ Z)  : ∀ (n : Nat) (x2 : Int64) (x4 : Int32) (h : Hp), lX3_arrange_95   n x2 x4 h = some hr → J Z G 5 h 95 [(0, .ref (Z.2.1 152)), (2, .long x2), (4, .int x4)] [] := by
  intro n
  induction n with
  | zero => intro x2 x4 h hF; cases hF
  | succ n ih => intro x2 x4 h hF; exact BX3_arrange_95 X E hz  (lX3_arrange_95   n) ih x2 x4 h hF
def bX3_arrange_58   (r58 : Int32 → Int64 → Int32 → Hp → Option (Hp)) (x1 : Int32) (x2 : Int64) (x4 : Int32) (h : Hp) : Option (Hp) := (if 60 < x4 then lt (x1 - 1) (fun v1 => lX3_arrange_95 FU x2 v1 h) else ck (inb x4 61) (ck (inb (x4 - 1) 61) (ck (inb x4 61) (lt (wI h 158 (ix x4) ((h.1 158 (ix x4)) + (h.1 158 (ix (x4 - 1))))) (fun h2 => lt (x4 + 1) (fun v3 => r58 x1 x2 v3 h2))))))
def lX3_arrange_58   : Nat → Int32 → Int64 → Int32 → Hp → Option (Hp)
  | 0 => fun _ _ _ _ => none
  | n + 1 => bX3_arrange_58   (lX3_arrange_58   n)
set_option maxRecDepth 20000 in
theorem BX3_arrange_58 {Z : ZT} {G : GT} {hr : Hp} (X : CX Z G cX3_arrange RX3 5 2) (E : RX Z G none (none) hr) (hz : HZ Z)  (r58 : Int32 → Int64 → Int32 → Hp → Option (Hp)) (hr58 : ∀ (x1 : Int32) (x2 : Int64) (x4 : Int32) (h : Hp), r58 x1 x2 x4 h = some hr → J Z G 5 h 58 [(0, .ref (Z.2.1 152)), (1, .int x1), (2, .long x2), (4, .int x4)] []) (x1 : Int32) (x2 : Int64) (x4 : Int32) (h : Hp) (hF : bX3_arrange_58   r58 x1 x2 x4 h = some hr) : J Z G 5 h 58 [(0, .ref (Z.2.1 152)), (1, .int x1), (2, .long x2), (4, .int x4)] [] := by
  unfold bX3_arrange_58 at hF
  refine j_iload (pc := 58) 3 X dX3_arrange_58 rfl ?_
  refine j_bipush (pc := 60) 60 X dX3_arrange_60 rfl ?_
  refine j_icmp_gt (pc := 62) 90 X dX3_arrange_62 rfl hF (fun hF => ?_) (fun hF => ?_)
  · refine j_iload_n (pc := 90) 1 X dX3_arrange_90 rfl ?_
    refine j_iconst (pc := 91) 1 X dX3_arrange_91 rfl ?_
    refine j_isub (pc := 92) X dX3_arrange_92 ?_
    refine j_istore (pc := 93) (fun y => [(4, .int y), (0, .ref (Z.2.1 152)), (1, .int x1), (2, .long x2)]) X dX3_arrange_93 (by decide) (fun _ => rfl) hF (fun v1 hF => ?_)
    refine j_lv [(0, .ref (Z.2.1 152)), (2, .long x2), (4, .int v1)] [1, 3, 0] rfl ?_
    exact LX3_arrange_95 X E hz FU x2 v1 h hF
  · refine j_aload_n (pc := 65) 0 X dX3_arrange_65 rfl ?_
    refine j_getr (pc := 66) X dX3_arrange_66 (hz _ sh_152) fl_X3_27 rfl ?_
    refine j_iload (pc := 69) 3 X dX3_arrange_69 rfl ?_
    refine j_dup2 (pc := 71) X dX3_arrange_71 rfl rfl ?_
    refine j_iald (pc := 72) X dX3_arrange_72 (hz _ sh_158) hF (fun hF => ?_)
    refine j_aload_n (pc := 73) 0 X dX3_arrange_73 rfl ?_
    refine j_getr (pc := 74) X dX3_arrange_74 (hz _ sh_152) fl_X3_27 rfl ?_
    refine j_iload (pc := 77) 3 X dX3_arrange_77 rfl ?_
    refine j_iconst (pc := 79) 1 X dX3_arrange_79 rfl ?_
    refine j_isub (pc := 80) X dX3_arrange_80 ?_
    refine j_iald (pc := 81) X dX3_arrange_81 (hz _ sh_158) hF (fun hF => ?_)
    refine j_iadd (pc := 82) X dX3_arrange_82 ?_
    refine j_iast (pc := 83) X dX3_arrange_83 (hz _ sh_158) hF (fun h2 hF => ?_)
    refine j_iinc (pc := 84) 3 (x4 + 1) (fun y => [(4, .int y), (0, .ref (Z.2.1 152)), (1, .int x1), (2, .long x2)]) X dX3_arrange_84 rfl rfl (by decide) (fun _ => rfl) hF (fun v3 hF => ?_)
    refine j_goto (pc := 87) 58 X dX3_arrange_87 rfl ?_
    refine j_lv [(0, .ref (Z.2.1 152)), (1, .int x1), (2, .long x2), (4, .int v3)] [1, 2, 3, 0] rfl ?_
    exact hr58 x1 x2 v3 h2 hF
theorem LX3_arrange_58 {Z : ZT} {G : GT} {hr : Hp} (X : CX Z G cX3_arrange RX3 5 2) (E : RX Z G none (none) hr) (hz : HZ Z)  : ∀ (n : Nat) (x1 : Int32) (x2 : Int64) (x4 : Int32) (h : Hp), lX3_arrange_58   n x1 x2 x4 h = some hr → J Z G 5 h 58 [(0, .ref (Z.2.1 152)), (1, .int x1), (2, .long x2), (4, .int x4)] [] := by
  intro n
  induction n with
  | zero => intro x1 x2 x4 h hF; cases hF
  | succ n ih => intro x1 x2 x4 h hF; exact BX3_arrange_58 X E hz  (lX3_arrange_58   n) ih x1 x2 x4 h hF
def bX3_arrange_17   (r17 : Int32 → Int64 → Int32 → Hp → Option (Hp)) (x1 : Int32) (x2 : Int64) (x4 : Int32) (h : Hp) : Option (Hp) := (if x1 ≤ x4 then lt 1 (fun v1 => lX3_arrange_58 FU x1 x2 v1 h) else bi (fX3_counts x4 x2 h) (fun w3 h2 => (if w3 = 0 then bX3_arrange_49 r17 x1 x2 x4 h2 else ck (inb x4 60) (ck (inb (h2.1 154 (ix x4)) 61) (ck (inb (h2.1 154 (ix x4)) 61) (lt (wI h2 158 (ix (h2.1 154 (ix x4))) ((h2.1 158 (ix (h2.1 154 (ix x4)))) + 1)) (fun h4 => bX3_arrange_49 r17 x1 x2 x4 h4)))))))
def lX3_arrange_17   : Nat → Int32 → Int64 → Int32 → Hp → Option (Hp)
  | 0 => fun _ _ _ _ => none
  | n + 1 => bX3_arrange_17   (lX3_arrange_17   n)
set_option maxRecDepth 20000 in
theorem BX3_arrange_17 {Z : ZT} {G : GT} {hr : Hp} (X : CX Z G cX3_arrange RX3 5 2) (E : RX Z G none (none) hr) (hz : HZ Z)  (r17 : Int32 → Int64 → Int32 → Hp → Option (Hp)) (hr17 : ∀ (x1 : Int32) (x2 : Int64) (x4 : Int32) (h : Hp), r17 x1 x2 x4 h = some hr → J Z G 5 h 17 [(0, .ref (Z.2.1 152)), (1, .int x1), (2, .long x2), (4, .int x4)] []) (x1 : Int32) (x2 : Int64) (x4 : Int32) (h : Hp) (hF : bX3_arrange_17   r17 x1 x2 x4 h = some hr) : J Z G 5 h 17 [(0, .ref (Z.2.1 152)), (1, .int x1), (2, .long x2), (4, .int x4)] [] := by
  unfold bX3_arrange_17 at hF
  refine j_iload (pc := 17) 3 X dX3_arrange_17 rfl ?_
  refine j_iload_n (pc := 19) 1 X dX3_arrange_19 rfl ?_
  refine j_icmp_ge (pc := 20) 55 X dX3_arrange_20 rfl hF (fun hF => ?_) (fun hF => ?_)
  · refine j_iconst (pc := 55) 1 X dX3_arrange_55 rfl ?_
    refine j_istore (pc := 56) (fun y => [(4, .int y), (0, .ref (Z.2.1 152)), (1, .int x1), (2, .long x2)]) X dX3_arrange_56 (by decide) (fun _ => rfl) hF (fun v1 hF => ?_)
    refine j_lv [(0, .ref (Z.2.1 152)), (1, .int x1), (2, .long x2), (4, .int v1)] [1, 2, 3, 0] rfl ?_
    exact LX3_arrange_58 X E hz FU x1 x2 v1 h hF
  · refine j_aload_n (pc := 23) 0 X dX3_arrange_23 rfl ?_
    refine j_iload (pc := 24) 3 X dX3_arrange_24 rfl ?_
    refine j_lload_n (pc := 26) 2 X dX3_arrange_26 rfl ?_
    refine j_cVi (pc := 27) (As := [.int x4, .long x2]) (rest := []) X dX3_arrange_27 ml_X3_54 ck_X3_counts cv_X3_counts (hz _ sh_152) rfl (Nat.le_of_ble_eq_true rfl) rfl (Nat.le_of_ble_eq_true rfl) rfl hF (tX3_counts Z x4 x2 hz h) (fun w3 h2 hF => ?_)
    refine j_if_eq (pc := 30) 49 X dX3_arrange_30 rfl hF (fun hF => ?_) (fun hF => ?_)
    · exact BX3_arrange_49 X E hz r17 hr17 x1 x2 x4 h2 hF
    · refine j_aload_n (pc := 33) 0 X dX3_arrange_33 rfl ?_
      refine j_getr (pc := 34) X dX3_arrange_34 (hz _ sh_152) fl_X3_27 rfl ?_
      refine j_aload_n (pc := 37) 0 X dX3_arrange_37 rfl ?_
      refine j_getr (pc := 38) X dX3_arrange_38 (hz _ sh_152) fl_X3_15 rfl ?_
      refine j_iload (pc := 41) 3 X dX3_arrange_41 rfl ?_
      refine j_iald (pc := 43) X dX3_arrange_43 (hz _ sh_154) hF (fun hF => ?_)
      refine j_dup2 (pc := 44) X dX3_arrange_44 rfl rfl ?_
      refine j_iald (pc := 45) X dX3_arrange_45 (hz _ sh_158) hF (fun hF => ?_)
      refine j_iconst (pc := 46) 1 X dX3_arrange_46 rfl ?_
      refine j_iadd (pc := 47) X dX3_arrange_47 ?_
      refine j_iast (pc := 48) X dX3_arrange_48 (hz _ sh_158) hF (fun h4 hF => ?_)
      exact BX3_arrange_49 X E hz r17 hr17 x1 x2 x4 h4 hF
theorem LX3_arrange_17 {Z : ZT} {G : GT} {hr : Hp} (X : CX Z G cX3_arrange RX3 5 2) (E : RX Z G none (none) hr) (hz : HZ Z)  : ∀ (n : Nat) (x1 : Int32) (x2 : Int64) (x4 : Int32) (h : Hp), lX3_arrange_17   n x1 x2 x4 h = some hr → J Z G 5 h 17 [(0, .ref (Z.2.1 152)), (1, .int x1), (2, .long x2), (4, .int x4)] [] := by
  intro n
  induction n with
  | zero => intro x1 x2 x4 h hF; cases hF
  | succ n ih => intro x1 x2 x4 h hF; exact BX3_arrange_17 X E hz  (lX3_arrange_17   n) ih x1 x2 x4 h hF
def fX3_arrange (a1 : Int32) (h : Hp) : Option (Hp) := bi (fX3_annulledBy a1 h) (fun w2 h1 => lt w2 (fun v3 => bv (fJ7_fill_53178 158 61 0 h1) (fun h4 => lt 0 (fun v5 => lX3_arrange_17 FU a1 v3 v5 h4))))
set_option maxRecDepth 20000 in
theorem tX3_arrange (Z : ZT) (a1 : Int32) (hz : HZ Z) (h : Hp) (hr : Hp) (hF : fX3_arrange a1 h = some hr) : MC Z yX3_arrange cX3_arrange 5 none 2 [.ref (Z.2.1 152), .int a1] h (none) hr := by
  unfold fX3_arrange at hF
  refine mc_start (by decide) (Nat.le_of_ble_eq_true rfl) (fun G X E => ?_)
  refine j_aload_n (pc := 0) 0 X dX3_arrange_0 rfl ?_
  refine j_iload_n (pc := 1) 1 X dX3_arrange_1 rfl ?_
  refine j_cVl (pc := 2) (As := [.int a1]) (rest := []) X dX3_arrange_2 ml_X3_44 ck_X3_annulledBy cv_X3_annulledBy (hz _ sh_152) rfl (Nat.le_of_ble_eq_true rfl) rfl (Nat.le_of_ble_eq_true rfl) rfl hF (tX3_annulledBy Z a1 hz h) (fun w2 h1 hF => ?_)
  refine j_lstore_n (pc := 5) (fun y => [(2, .long y), (0, .ref (Z.2.1 152)), (1, .int a1)]) X dX3_arrange_5 (by decide) (fun _ => rfl) hF (fun v3 hF => ?_)
  refine j_aload_n (pc := 6) 1 X dX3_arrange_6 rfl ?_
  refine j_getr (pc := 7) X dX3_arrange_7 (hz _ sh_152) fl_X3_27 rfl ?_
  refine j_iconst (pc := 10) 0 X dX3_arrange_10 rfl ?_
  refine j_cSv (pc := 11) (As := [.ref (Z.2.1 158), .int 0]) (rest := []) X dX3_arrange_11 ml_X3_48 ck_J7_fill_53178 sk_J7_fill_53178 (Nat.le_of_ble_eq_true rfl) rfl (Nat.le_of_ble_eq_true rfl) rfl hF (tJ7_fill_53178 Z 158 61 (hz _ sh_158) 0 trivial h1) (fun h4 hF => ?_)
  refine j_iconst (pc := 14) 0 X dX3_arrange_14 rfl ?_
  refine j_istore (pc := 15) (fun y => [(4, .int y), (2, .long v3), (0, .ref (Z.2.1 152)), (1, .int a1)]) X dX3_arrange_15 (by decide) (fun _ => rfl) hF (fun v5 hF => ?_)
  refine j_lv [(0, .ref (Z.2.1 152)), (1, .int a1), (2, .long v3), (4, .int v5)] [2, 3, 1, 0] rfl ?_
  exact LX3_arrange_17 X E hz FU a1 v3 v5 h4 hF
theorem dX2_runOf_0 : decode cX2_runOf 0 = .ok (.aload_n 0, 1) := by decide +kernel
theorem dX2_runOf_1 : decode cX2_runOf 1 = .ok (.getfield 15, 3) := by decide +kernel
theorem dX2_runOf_4 : decode cX2_runOf 4 = .ok (.iload_n 1, 1) := by decide +kernel
theorem dX2_runOf_5 : decode cX2_runOf 5 = .ok (.invokevirtual 38, 3) := by decide +kernel
theorem dX2_runOf_8 : decode cX2_runOf 8 = .ok (.aload_n 0, 1) := by decide +kernel
theorem dX2_runOf_9 : decode cX2_runOf 9 = .ok (.getfield 32, 3) := by decide +kernel
theorem dX2_runOf_12 : decode cX2_runOf 12 = .ok (.iload_n 2, 1) := by decide +kernel
theorem dX2_runOf_13 : decode cX2_runOf 13 = .ok (.iload_n 3, 1) := by decide +kernel
theorem dX2_runOf_14 : decode cX2_runOf 14 = .ok (.iconst 0, 1) := by decide +kernel
theorem dX2_runOf_15 : decode cX2_runOf 15 = .ok (.invokevirtual 44, 3) := by decide +kernel
theorem dX2_runOf_18 : decode cX2_runOf 18 = .ok (.aload_n 0, 1) := by decide +kernel
theorem dX2_runOf_19 : decode cX2_runOf 19 = .ok (.getfield 32, 3) := by decide +kernel
theorem dX2_runOf_22 : decode cX2_runOf 22 = .ok (.areturn, 1) := by decide +kernel
def fX2_runOf (a1 : Int32) (a2 : Int32) (a3 : Int32) (h : Hp) : Option (Hp) := bv (fX3_arrange a1 h) (fun h1 => bv (fX1_walk 190 a2 a3 0 h1) (fun h2 => some h2))
set_option maxRecDepth 20000 in
theorem tX2_runOf (Z : ZT) (a1 : Int32) (a2 : Int32) (a3 : Int32) (hz : HZ Z) (h : Hp) (hr : Hp) (hF : fX2_runOf a1 a2 a3 h = some hr) : MC Z yX2_runOf cX2_runOf 4 (some (.object "AfterOffice$Course")) 6 [.ref (Z.2.1 181), .int a1, .int a2, .int a3] h (some (.ref (Z.2.1 190))) hr := by
  unfold fX2_runOf at hF
  refine mc_start (by decide) (Nat.le_of_ble_eq_true rfl) (fun G X E => ?_)
  refine j_aload_n (pc := 0) 0 X dX2_runOf_0 rfl ?_
  refine j_getr (pc := 1) X dX2_runOf_1 (hz _ sh_181) fl_X2_15 rfl ?_
  refine j_iload_n (pc := 4) 1 X dX2_runOf_4 rfl ?_
  refine j_cVv (pc := 5) (As := [.int a1]) (rest := []) X dX2_runOf_5 ml_X2_38 ck_X3_arrange cv_X3_arrange (hz _ sh_152) rfl (Nat.le_of_ble_eq_true rfl) rfl (Nat.le_of_ble_eq_true rfl) rfl hF (tX3_arrange Z a1 hz h) (fun h1 hF => ?_)
  refine j_aload_n (pc := 8) 0 X dX2_runOf_8 rfl ?_
  refine j_getr (pc := 9) X dX2_runOf_9 (hz _ sh_181) fl_X2_32 rfl ?_
  refine j_iload_n (pc := 12) 2 X dX2_runOf_12 rfl ?_
  refine j_iload_n (pc := 13) 3 X dX2_runOf_13 rfl ?_
  refine j_iconst (pc := 14) 0 X dX2_runOf_14 rfl ?_
  refine j_cVv (pc := 15) (As := [.int a2, .int a3, .int 0]) (rest := []) X dX2_runOf_15 ml_X2_44 ck_X1_walk cv_X1_walk (hz _ sh_190) rfl (Nat.le_of_ble_eq_true rfl) rfl (Nat.le_of_ble_eq_true rfl) rfl hF (tX1_walk Z 190 isC_190 a2 a3 0 hz h1) (fun h2 hF => ?_)
  refine j_aload_n (pc := 18) 0 X dX2_runOf_18 rfl ?_
  refine j_getr (pc := 19) X dX2_runOf_19 (hz _ sh_181) fl_X2_32 rfl ?_
  exact j_rret (pc := 22) X E dX2_runOf_22 hF
theorem dX2_lifeOf_0 : decode cX2_lifeOf 0 = .ok (.aload_n 0, 1) := by decide +kernel
theorem dX2_lifeOf_1 : decode cX2_lifeOf 1 = .ok (.getfield 32, 3) := by decide +kernel
theorem dX2_lifeOf_4 : decode cX2_lifeOf 4 = .ok (.iload_n 1, 1) := by decide +kernel
theorem dX2_lifeOf_5 : decode cX2_lifeOf 5 = .ok (.iload_n 2, 1) := by decide +kernel
theorem dX2_lifeOf_6 : decode cX2_lifeOf 6 = .ok (.invokevirtual 48, 3) := by decide +kernel
theorem dX2_lifeOf_9 : decode cX2_lifeOf 9 = .ok (.aload_n 0, 1) := by decide +kernel
theorem dX2_lifeOf_10 : decode cX2_lifeOf 10 = .ok (.getfield 32, 3) := by decide +kernel
theorem dX2_lifeOf_13 : decode cX2_lifeOf 13 = .ok (.areturn, 1) := by decide +kernel
def fX2_lifeOf (a1 : Int32) (a2 : Int32) (h : Hp) : Option (Hp) := bv (fX1_liveByLots 190 a1 a2 h) (fun h1 => some h1)
set_option maxRecDepth 20000 in
theorem tX2_lifeOf (Z : ZT) (a1 : Int32) (a2 : Int32) (hz : HZ Z) (h : Hp) (hr : Hp) (hF : fX2_lifeOf a1 a2 h = some hr) : MC Z yX2_lifeOf cX2_lifeOf 3 (some (.object "AfterOffice$Course")) 6 [.ref (Z.2.1 181), .int a1, .int a2] h (some (.ref (Z.2.1 190))) hr := by
  unfold fX2_lifeOf at hF
  refine mc_start (by decide) (Nat.le_of_ble_eq_true rfl) (fun G X E => ?_)
  refine j_aload_n (pc := 0) 0 X dX2_lifeOf_0 rfl ?_
  refine j_getr (pc := 1) X dX2_lifeOf_1 (hz _ sh_181) fl_X2_32 rfl ?_
  refine j_iload_n (pc := 4) 1 X dX2_lifeOf_4 rfl ?_
  refine j_iload_n (pc := 5) 2 X dX2_lifeOf_5 rfl ?_
  refine j_cVv (pc := 6) (As := [.int a1, .int a2]) (rest := []) X dX2_lifeOf_6 ml_X2_48 ck_X1_liveByLots cv_X1_liveByLots (hz _ sh_190) rfl (Nat.le_of_ble_eq_true rfl) rfl (Nat.le_of_ble_eq_true rfl) rfl hF (tX1_liveByLots Z 190 isC_190 a1 a2 hz h) (fun h1 hF => ?_)
  refine j_aload_n (pc := 9) 0 X dX2_lifeOf_9 rfl ?_
  refine j_getr (pc := 10) X dX2_lifeOf_10 (hz _ sh_181) fl_X2_32 rfl ?_
  exact j_rret (pc := 13) X E dX2_lifeOf_13 hF
theorem dX2_soonerThanTruth_0 : decode cX2_soonerThanTruth 0 = .ok (.aload_n 0, 1) := by decide +kernel
theorem dX2_soonerThanTruth_1 : decode cX2_soonerThanTruth 1 = .ok (.getfield 15, 3) := by decide +kernel
theorem dX2_soonerThanTruth_4 : decode cX2_soonerThanTruth 4 = .ok (.iload_n 1, 1) := by decide +kernel
theorem dX2_soonerThanTruth_5 : decode cX2_soonerThanTruth 5 = .ok (.invokevirtual 38, 3) := by decide +kernel
theorem dX2_soonerThanTruth_8 : decode cX2_soonerThanTruth 8 = .ok (.aload_n 0, 1) := by decide +kernel
theorem dX2_soonerThanTruth_9 : decode cX2_soonerThanTruth 9 = .ok (.getfield 28, 3) := by decide +kernel
theorem dX2_soonerThanTruth_12 : decode cX2_soonerThanTruth 12 = .ok (.iconst 1, 1) := by decide +kernel
theorem dX2_soonerThanTruth_13 : decode cX2_soonerThanTruth 13 = .ok (.bipush 59, 2) := by decide +kernel
theorem dX2_soonerThanTruth_15 : decode cX2_soonerThanTruth 15 = .ok (.iconst 0, 1) := by decide +kernel
theorem dX2_soonerThanTruth_16 : decode cX2_soonerThanTruth 16 = .ok (.invokevirtual 44, 3) := by decide +kernel
theorem dX2_soonerThanTruth_19 : decode cX2_soonerThanTruth 19 = .ok (.aload_n 0, 1) := by decide +kernel
theorem dX2_soonerThanTruth_20 : decode cX2_soonerThanTruth 20 = .ok (.getfield 32, 3) := by decide +kernel
theorem dX2_soonerThanTruth_23 : decode cX2_soonerThanTruth 23 = .ok (.iconst 1, 1) := by decide +kernel
theorem dX2_soonerThanTruth_24 : decode cX2_soonerThanTruth 24 = .ok (.bipush 59, 2) := by decide +kernel
theorem dX2_soonerThanTruth_26 : decode cX2_soonerThanTruth 26 = .ok (.iconst 1, 1) := by decide +kernel
theorem dX2_soonerThanTruth_27 : decode cX2_soonerThanTruth 27 = .ok (.invokevirtual 44, 3) := by decide +kernel
theorem dX2_soonerThanTruth_30 : decode cX2_soonerThanTruth 30 = .ok (.iconst 0, 1) := by decide +kernel
theorem dX2_soonerThanTruth_31 : decode cX2_soonerThanTruth 31 = .ok (.istore_n 2, 1) := by decide +kernel
theorem dX2_soonerThanTruth_32 : decode cX2_soonerThanTruth 32 = .ok (.iconst 0, 1) := by decide +kernel
theorem dX2_soonerThanTruth_33 : decode cX2_soonerThanTruth 33 = .ok (.istore_n 3, 1) := by decide +kernel
theorem dX2_soonerThanTruth_34 : decode cX2_soonerThanTruth 34 = .ok (.iload_n 3, 1) := by decide +kernel
theorem dX2_soonerThanTruth_35 : decode cX2_soonerThanTruth 35 = .ok (.aload_n 0, 1) := by decide +kernel
theorem dX2_soonerThanTruth_36 : decode cX2_soonerThanTruth 36 = .ok (.getfield 9, 3) := by decide +kernel
theorem dX2_soonerThanTruth_39 : decode cX2_soonerThanTruth 39 = .ok (.getfield 52, 3) := by decide +kernel
theorem dX2_soonerThanTruth_42 : decode cX2_soonerThanTruth 42 = .ok (.if_icmp .ge 74, 3) := by decide +kernel
theorem dX2_soonerThanTruth_45 : decode cX2_soonerThanTruth 45 = .ok (.aload_n 0, 1) := by decide +kernel
theorem dX2_soonerThanTruth_46 : decode cX2_soonerThanTruth 46 = .ok (.getfield 32, 3) := by decide +kernel
theorem dX2_soonerThanTruth_49 : decode cX2_soonerThanTruth 49 = .ok (.getfield 58, 3) := by decide +kernel
theorem dX2_soonerThanTruth_52 : decode cX2_soonerThanTruth 52 = .ok (.iload_n 3, 1) := by decide +kernel
theorem dX2_soonerThanTruth_53 : decode cX2_soonerThanTruth 53 = .ok (.iaload, 1) := by decide +kernel
theorem dX2_soonerThanTruth_54 : decode cX2_soonerThanTruth 54 = .ok (.iconst 1, 1) := by decide +kernel
theorem dX2_soonerThanTruth_55 : decode cX2_soonerThanTruth 55 = .ok (.if_icmp .ne 28, 3) := by decide +kernel
theorem dX2_soonerThanTruth_58 : decode cX2_soonerThanTruth 58 = .ok (.aload_n 0, 1) := by decide +kernel
theorem dX2_soonerThanTruth_59 : decode cX2_soonerThanTruth 59 = .ok (.getfield 32, 3) := by decide +kernel
theorem dX2_soonerThanTruth_62 : decode cX2_soonerThanTruth 62 = .ok (.getfield 62, 3) := by decide +kernel
theorem dX2_soonerThanTruth_65 : decode cX2_soonerThanTruth 65 = .ok (.iload_n 3, 1) := by decide +kernel
theorem dX2_soonerThanTruth_66 : decode cX2_soonerThanTruth 66 = .ok (.iaload, 1) := by decide +kernel
theorem dX2_soonerThanTruth_67 : decode cX2_soonerThanTruth 67 = .ok (.aload_n 0, 1) := by decide +kernel
theorem dX2_soonerThanTruth_68 : decode cX2_soonerThanTruth 68 = .ok (.getfield 28, 3) := by decide +kernel
theorem dX2_soonerThanTruth_71 : decode cX2_soonerThanTruth 71 = .ok (.getfield 62, 3) := by decide +kernel
theorem dX2_soonerThanTruth_74 : decode cX2_soonerThanTruth 74 = .ok (.iload_n 3, 1) := by decide +kernel
theorem dX2_soonerThanTruth_75 : decode cX2_soonerThanTruth 75 = .ok (.iaload, 1) := by decide +kernel
theorem dX2_soonerThanTruth_76 : decode cX2_soonerThanTruth 76 = .ok (.if_icmp .gt 7, 3) := by decide +kernel
theorem dX2_soonerThanTruth_79 : decode cX2_soonerThanTruth 79 = .ok (.iconst 1, 1) := by decide +kernel
theorem dX2_soonerThanTruth_80 : decode cX2_soonerThanTruth 80 = .ok (.goto 4, 3) := by decide +kernel
theorem dX2_soonerThanTruth_83 : decode cX2_soonerThanTruth 83 = .ok (.iconst 0, 1) := by decide +kernel
theorem dX2_soonerThanTruth_84 : decode cX2_soonerThanTruth 84 = .ok (.istore 4, 2) := by decide +kernel
theorem dX2_soonerThanTruth_86 : decode cX2_soonerThanTruth 86 = .ok (.aload_n 0, 1) := by decide +kernel
theorem dX2_soonerThanTruth_87 : decode cX2_soonerThanTruth 87 = .ok (.getfield 28, 3) := by decide +kernel
theorem dX2_soonerThanTruth_90 : decode cX2_soonerThanTruth 90 = .ok (.getfield 58, 3) := by decide +kernel
theorem dX2_soonerThanTruth_93 : decode cX2_soonerThanTruth 93 = .ok (.iload_n 3, 1) := by decide +kernel
theorem dX2_soonerThanTruth_94 : decode cX2_soonerThanTruth 94 = .ok (.iaload, 1) := by decide +kernel
theorem dX2_soonerThanTruth_95 : decode cX2_soonerThanTruth 95 = .ok (.iconst 1, 1) := by decide +kernel
theorem dX2_soonerThanTruth_96 : decode cX2_soonerThanTruth 96 = .ok (.if_icmp .ne 14, 3) := by decide +kernel
theorem dX2_soonerThanTruth_99 : decode cX2_soonerThanTruth 99 = .ok (.iload 4, 2) := by decide +kernel
theorem dX2_soonerThanTruth_101 : decode cX2_soonerThanTruth 101 = .ok (.ifCond .ne 9, 3) := by decide +kernel
theorem dX2_soonerThanTruth_104 : decode cX2_soonerThanTruth 104 = .ok (.iload_n 2, 1) := by decide +kernel
theorem dX2_soonerThanTruth_105 : decode cX2_soonerThanTruth 105 = .ok (.iconst 1, 1) := by decide +kernel
theorem dX2_soonerThanTruth_106 : decode cX2_soonerThanTruth 106 = .ok (.iload_n 3, 1) := by decide +kernel
theorem dX2_soonerThanTruth_107 : decode cX2_soonerThanTruth 107 = .ok (.ishl, 1) := by decide +kernel
theorem dX2_soonerThanTruth_108 : decode cX2_soonerThanTruth 108 = .ok (.ior, 1) := by decide +kernel
theorem dX2_soonerThanTruth_109 : decode cX2_soonerThanTruth 109 = .ok (.istore_n 2, 1) := by decide +kernel
theorem dX2_soonerThanTruth_110 : decode cX2_soonerThanTruth 110 = .ok (.iinc 3 1, 3) := by decide +kernel
theorem dX2_soonerThanTruth_113 : decode cX2_soonerThanTruth 113 = .ok (.goto (-79), 3) := by decide +kernel
theorem dX2_soonerThanTruth_116 : decode cX2_soonerThanTruth 116 = .ok (.iload_n 2, 1) := by decide +kernel
theorem dX2_soonerThanTruth_117 : decode cX2_soonerThanTruth 117 = .ok (.ireturn, 1) := by decide +kernel
def bX2_soonerThanTruth_110  (r34 : Int32 → Int32 → Hp → Option (Int32 × Hp)) (x2 : Int32) (x3 : Int32) (h : Hp) : Option (Int32 × Hp) := lt (x3 + 1) (fun v1 => r34 x2 v1 h)
set_option maxRecDepth 20000 in
theorem BX2_soonerThanTruth_110 {Z : ZT} {G : GT} {r : Int32} {hr : Hp} (X : CX Z G cX2_soonerThanTruth RX2 5 6) (E : RX Z G (some .int) (some (.int r)) hr) (hz : HZ Z) (r34 : Int32 → Int32 → Hp → Option (Int32 × Hp)) (hr34 : ∀ (x2 : Int32) (x3 : Int32) (h : Hp), r34 x2 x3 h = some (r, hr) → J Z G 5 h 34 [(0, .ref (Z.2.1 181)), (2, .int x2), (3, .int x3)] []) (x2 : Int32) (x3 : Int32) (h : Hp) (hF : bX2_soonerThanTruth_110  r34 x2 x3 h = some (r, hr)) : J Z G 5 h 110 [(0, .ref (Z.2.1 181)), (2, .int x2), (3, .int x3)] [] := by
  unfold bX2_soonerThanTruth_110 at hF
  refine j_iinc (pc := 110) 2 (x3 + 1) (fun y => [(3, .int y), (0, .ref (Z.2.1 181)), (2, .int x2)]) X dX2_soonerThanTruth_110 rfl rfl (by decide) (fun _ => rfl) hF (fun v1 hF => ?_)
  refine j_goto (pc := 113) 34 X dX2_soonerThanTruth_113 rfl ?_
  refine j_lv [(0, .ref (Z.2.1 181)), (2, .int x2), (3, .int v1)] [1, 2, 0] rfl ?_
  exact hr34 x2 v1 h hF
def bX2_soonerThanTruth_84  (r34 : Int32 → Int32 → Hp → Option (Int32 × Hp)) (x2 : Int32) (x3 : Int32) (s0 : Int32) (h : Hp) : Option (Int32 × Hp) := lt s0 (fun v1 => ck (inb x3 10) ((if (h.1 183 (ix x3)) = 1 then (if v1 = 0 then lt (x2 ||| ((1 : Int32) <<< (x3 &&& 31))) (fun v2 => bX2_soonerThanTruth_110 r34 v2 x3 h) else bX2_soonerThanTruth_110 r34 x2 x3 h) else bX2_soonerThanTruth_110 r34 x2 x3 h)))
set_option maxRecDepth 20000 in
theorem BX2_soonerThanTruth_84 {Z : ZT} {G : GT} {r : Int32} {hr : Hp} (X : CX Z G cX2_soonerThanTruth RX2 5 6) (E : RX Z G (some .int) (some (.int r)) hr) (hz : HZ Z) (r34 : Int32 → Int32 → Hp → Option (Int32 × Hp)) (hr34 : ∀ (x2 : Int32) (x3 : Int32) (h : Hp), r34 x2 x3 h = some (r, hr) → J Z G 5 h 34 [(0, .ref (Z.2.1 181)), (2, .int x2), (3, .int x3)] []) (x2 : Int32) (x3 : Int32) (s0 : Int32) (h : Hp) (hF : bX2_soonerThanTruth_84  r34 x2 x3 s0 h = some (r, hr)) : J Z G 5 h 84 [(0, .ref (Z.2.1 181)), (2, .int x2), (3, .int x3)] [.int s0] := by
  unfold bX2_soonerThanTruth_84 at hF
  refine j_istore (pc := 84) (fun y => [(4, .int y), (0, .ref (Z.2.1 181)), (2, .int x2), (3, .int x3)]) X dX2_soonerThanTruth_84 (by decide) (fun _ => rfl) hF (fun v1 hF => ?_)
  refine j_aload_n (pc := 86) 1 X dX2_soonerThanTruth_86 rfl ?_
  refine j_getr (pc := 87) X dX2_soonerThanTruth_87 (hz _ sh_181) fl_X2_28 rfl ?_
  refine j_getr (pc := 90) X dX2_soonerThanTruth_90 (hz _ sh_182) fl_X2_58 rfl ?_
  refine j_iload_n (pc := 93) 3 X dX2_soonerThanTruth_93 rfl ?_
  refine j_iald (pc := 94) X dX2_soonerThanTruth_94 (hz _ sh_183) hF (fun hF => ?_)
  refine j_iconst (pc := 95) 1 X dX2_soonerThanTruth_95 rfl ?_
  refine j_icmp_ne (pc := 96) 110 X dX2_soonerThanTruth_96 rfl hF (fun hF => ?_) (fun hF => ?_)
  · refine j_lv [(0, .ref (Z.2.1 181)), (2, .int x2), (3, .int x3)] [1, 2, 3] rfl ?_
    exact BX2_soonerThanTruth_110 X E hz r34 hr34 x2 x3 h hF
  · refine j_iload (pc := 99) 0 X dX2_soonerThanTruth_99 rfl ?_
    refine j_if_ne (pc := 101) 110 X dX2_soonerThanTruth_101 rfl hF (fun hF => ?_) (fun hF => ?_)
    · refine j_lv [(0, .ref (Z.2.1 181)), (2, .int x2), (3, .int x3)] [1, 2, 3] rfl ?_
      exact BX2_soonerThanTruth_110 X E hz r34 hr34 x2 x3 h hF
    · refine j_iload_n (pc := 104) 2 X dX2_soonerThanTruth_104 rfl ?_
      refine j_iconst (pc := 105) 1 X dX2_soonerThanTruth_105 rfl ?_
      refine j_iload_n (pc := 106) 3 X dX2_soonerThanTruth_106 rfl ?_
      refine j_ishl (pc := 107) X dX2_soonerThanTruth_107 ?_
      refine j_ior (pc := 108) X dX2_soonerThanTruth_108 ?_
      refine j_istore_n (pc := 109) (fun y => [(2, .int y), (4, .int v1), (0, .ref (Z.2.1 181)), (3, .int x3)]) X dX2_soonerThanTruth_109 (by decide) (fun _ => rfl) hF (fun v2 hF => ?_)
      refine j_lv [(0, .ref (Z.2.1 181)), (2, .int v2), (3, .int x3)] [2, 0, 3] rfl ?_
      exact BX2_soonerThanTruth_110 X E hz r34 hr34 v2 x3 h hF
def bX2_soonerThanTruth_83  (r34 : Int32 → Int32 → Hp → Option (Int32 × Hp)) (x2 : Int32) (x3 : Int32) (h : Hp) : Option (Int32 × Hp) := bX2_soonerThanTruth_84 r34 x2 x3 0 h
set_option maxRecDepth 20000 in
theorem BX2_soonerThanTruth_83 {Z : ZT} {G : GT} {r : Int32} {hr : Hp} (X : CX Z G cX2_soonerThanTruth RX2 5 6) (E : RX Z G (some .int) (some (.int r)) hr) (hz : HZ Z) (r34 : Int32 → Int32 → Hp → Option (Int32 × Hp)) (hr34 : ∀ (x2 : Int32) (x3 : Int32) (h : Hp), r34 x2 x3 h = some (r, hr) → J Z G 5 h 34 [(0, .ref (Z.2.1 181)), (2, .int x2), (3, .int x3)] []) (x2 : Int32) (x3 : Int32) (h : Hp) (hF : bX2_soonerThanTruth_83  r34 x2 x3 h = some (r, hr)) : J Z G 5 h 83 [(0, .ref (Z.2.1 181)), (2, .int x2), (3, .int x3)] [] := by
  unfold bX2_soonerThanTruth_83 at hF
  refine j_iconst (pc := 83) 0 X dX2_soonerThanTruth_83 rfl ?_
  exact BX2_soonerThanTruth_84 X E hz r34 hr34 x2 x3 0 h hF
def bX2_soonerThanTruth_34   (r34 : Int32 → Int32 → Hp → Option (Int32 × Hp)) (x2 : Int32) (x3 : Int32) (h : Hp) : Option (Int32 × Hp) := (if (h.1 108 9) ≤ x3 then some (x2, h) else ck (inb x3 10) ((if (h.1 191 (ix x3)) = 1 then ck (inb x3 10) (ck (inb x3 10) ((if (h.1 184 (ix x3)) < (h.1 192 (ix x3)) then bX2_soonerThanTruth_83 r34 x2 x3 h else bX2_soonerThanTruth_84 r34 x2 x3 1 h))) else bX2_soonerThanTruth_83 r34 x2 x3 h)))
def lX2_soonerThanTruth_34   : Nat → Int32 → Int32 → Hp → Option (Int32 × Hp)
  | 0 => fun _ _ _ => none
  | n + 1 => bX2_soonerThanTruth_34   (lX2_soonerThanTruth_34   n)
set_option maxRecDepth 20000 in
theorem BX2_soonerThanTruth_34 {Z : ZT} {G : GT} {r : Int32} {hr : Hp} (X : CX Z G cX2_soonerThanTruth RX2 5 6) (E : RX Z G (some .int) (some (.int r)) hr) (hz : HZ Z)  (r34 : Int32 → Int32 → Hp → Option (Int32 × Hp)) (hr34 : ∀ (x2 : Int32) (x3 : Int32) (h : Hp), r34 x2 x3 h = some (r, hr) → J Z G 5 h 34 [(0, .ref (Z.2.1 181)), (2, .int x2), (3, .int x3)] []) (x2 : Int32) (x3 : Int32) (h : Hp) (hF : bX2_soonerThanTruth_34   r34 x2 x3 h = some (r, hr)) : J Z G 5 h 34 [(0, .ref (Z.2.1 181)), (2, .int x2), (3, .int x3)] [] := by
  unfold bX2_soonerThanTruth_34 at hF
  refine j_iload_n (pc := 34) 2 X dX2_soonerThanTruth_34 rfl ?_
  refine j_aload_n (pc := 35) 0 X dX2_soonerThanTruth_35 rfl ?_
  refine j_getr (pc := 36) X dX2_soonerThanTruth_36 (hz _ sh_181) fl_X2_9 rfl ?_
  refine j_geti (pc := 39) X dX2_soonerThanTruth_39 (hz _ sh_108) fl_X2_52 rfl ?_
  refine j_icmp_ge (pc := 42) 116 X dX2_soonerThanTruth_42 rfl hF (fun hF => ?_) (fun hF => ?_)
  · refine j_iload_n (pc := 116) 1 X dX2_soonerThanTruth_116 rfl ?_
    exact j_iret (pc := 117) X E dX2_soonerThanTruth_117 hF
  · refine j_aload_n (pc := 45) 0 X dX2_soonerThanTruth_45 rfl ?_
    refine j_getr (pc := 46) X dX2_soonerThanTruth_46 (hz _ sh_181) fl_X2_32 rfl ?_
    refine j_getr (pc := 49) X dX2_soonerThanTruth_49 (hz _ sh_190) fl_X2_58 rfl ?_
    refine j_iload_n (pc := 52) 2 X dX2_soonerThanTruth_52 rfl ?_
    refine j_iald (pc := 53) X dX2_soonerThanTruth_53 (hz _ sh_191) hF (fun hF => ?_)
    refine j_iconst (pc := 54) 1 X dX2_soonerThanTruth_54 rfl ?_
    refine j_icmp_ne (pc := 55) 83 X dX2_soonerThanTruth_55 rfl hF (fun hF => ?_) (fun hF => ?_)
    · exact BX2_soonerThanTruth_83 X E hz r34 hr34 x2 x3 h hF
    · refine j_aload_n (pc := 58) 0 X dX2_soonerThanTruth_58 rfl ?_
      refine j_getr (pc := 59) X dX2_soonerThanTruth_59 (hz _ sh_181) fl_X2_32 rfl ?_
      refine j_getr (pc := 62) X dX2_soonerThanTruth_62 (hz _ sh_190) fl_X2_62 rfl ?_
      refine j_iload_n (pc := 65) 2 X dX2_soonerThanTruth_65 rfl ?_
      refine j_iald (pc := 66) X dX2_soonerThanTruth_66 (hz _ sh_192) hF (fun hF => ?_)
      refine j_aload_n (pc := 67) 0 X dX2_soonerThanTruth_67 rfl ?_
      refine j_getr (pc := 68) X dX2_soonerThanTruth_68 (hz _ sh_181) fl_X2_28 rfl ?_
      refine j_getr (pc := 71) X dX2_soonerThanTruth_71 (hz _ sh_182) fl_X2_62 rfl ?_
      refine j_iload_n (pc := 74) 2 X dX2_soonerThanTruth_74 rfl ?_
      refine j_iald (pc := 75) X dX2_soonerThanTruth_75 (hz _ sh_184) hF (fun hF => ?_)
      refine j_icmp_gt (pc := 76) 83 X dX2_soonerThanTruth_76 rfl hF (fun hF => ?_) (fun hF => ?_)
      · exact BX2_soonerThanTruth_83 X E hz r34 hr34 x2 x3 h hF
      · refine j_iconst (pc := 79) 1 X dX2_soonerThanTruth_79 rfl ?_
        refine j_goto (pc := 80) 84 X dX2_soonerThanTruth_80 rfl ?_
        exact BX2_soonerThanTruth_84 X E hz r34 hr34 x2 x3 1 h hF
theorem LX2_soonerThanTruth_34 {Z : ZT} {G : GT} {r : Int32} {hr : Hp} (X : CX Z G cX2_soonerThanTruth RX2 5 6) (E : RX Z G (some .int) (some (.int r)) hr) (hz : HZ Z)  : ∀ (n : Nat) (x2 : Int32) (x3 : Int32) (h : Hp), lX2_soonerThanTruth_34   n x2 x3 h = some (r, hr) → J Z G 5 h 34 [(0, .ref (Z.2.1 181)), (2, .int x2), (3, .int x3)] [] := by
  intro n
  induction n with
  | zero => intro x2 x3 h hF; cases hF
  | succ n ih => intro x2 x3 h hF; exact BX2_soonerThanTruth_34 X E hz  (lX2_soonerThanTruth_34   n) ih x2 x3 h hF
def fX2_soonerThanTruth (a1 : Int32) (h : Hp) : Option (Int32 × Hp) := bv (fX3_arrange a1 h) (fun h1 => bv (fX1_walk 182 1 59 0 h1) (fun h2 => bv (fX1_walk 190 1 59 1 h2) (fun h3 => lt 0 (fun v4 => lt 0 (fun v5 => lX2_soonerThanTruth_34 FU v4 v5 h3)))))
set_option maxRecDepth 20000 in
theorem tX2_soonerThanTruth (Z : ZT) (a1 : Int32) (hz : HZ Z) (h : Hp) (r : Int32) (hr : Hp) (hF : fX2_soonerThanTruth a1 h = some (r, hr)) : MC Z yX2_soonerThanTruth cX2_soonerThanTruth 5 (some .int) 6 [.ref (Z.2.1 181), .int a1] h (some (.int r)) hr := by
  unfold fX2_soonerThanTruth at hF
  refine mc_start (by decide) (Nat.le_of_ble_eq_true rfl) (fun G X E => ?_)
  refine j_aload_n (pc := 0) 0 X dX2_soonerThanTruth_0 rfl ?_
  refine j_getr (pc := 1) X dX2_soonerThanTruth_1 (hz _ sh_181) fl_X2_15 rfl ?_
  refine j_iload_n (pc := 4) 1 X dX2_soonerThanTruth_4 rfl ?_
  refine j_cVv (pc := 5) (As := [.int a1]) (rest := []) X dX2_soonerThanTruth_5 ml_X2_38 ck_X3_arrange cv_X3_arrange (hz _ sh_152) rfl (Nat.le_of_ble_eq_true rfl) rfl (Nat.le_of_ble_eq_true rfl) rfl hF (tX3_arrange Z a1 hz h) (fun h1 hF => ?_)
  refine j_aload_n (pc := 8) 0 X dX2_soonerThanTruth_8 rfl ?_
  refine j_getr (pc := 9) X dX2_soonerThanTruth_9 (hz _ sh_181) fl_X2_28 rfl ?_
  refine j_iconst (pc := 12) 1 X dX2_soonerThanTruth_12 rfl ?_
  refine j_bipush (pc := 13) 59 X dX2_soonerThanTruth_13 rfl ?_
  refine j_iconst (pc := 15) 0 X dX2_soonerThanTruth_15 rfl ?_
  refine j_cVv (pc := 16) (As := [.int 1, .int 59, .int 0]) (rest := []) X dX2_soonerThanTruth_16 ml_X2_44 ck_X1_walk cv_X1_walk (hz _ sh_182) rfl (Nat.le_of_ble_eq_true rfl) rfl (Nat.le_of_ble_eq_true rfl) rfl hF (tX1_walk Z 182 isC_182 1 59 0 hz h1) (fun h2 hF => ?_)
  refine j_aload_n (pc := 19) 0 X dX2_soonerThanTruth_19 rfl ?_
  refine j_getr (pc := 20) X dX2_soonerThanTruth_20 (hz _ sh_181) fl_X2_32 rfl ?_
  refine j_iconst (pc := 23) 1 X dX2_soonerThanTruth_23 rfl ?_
  refine j_bipush (pc := 24) 59 X dX2_soonerThanTruth_24 rfl ?_
  refine j_iconst (pc := 26) 1 X dX2_soonerThanTruth_26 rfl ?_
  refine j_cVv (pc := 27) (As := [.int 1, .int 59, .int 1]) (rest := []) X dX2_soonerThanTruth_27 ml_X2_44 ck_X1_walk cv_X1_walk (hz _ sh_190) rfl (Nat.le_of_ble_eq_true rfl) rfl (Nat.le_of_ble_eq_true rfl) rfl hF (tX1_walk Z 190 isC_190 1 59 1 hz h2) (fun h3 hF => ?_)
  refine j_iconst (pc := 30) 0 X dX2_soonerThanTruth_30 rfl ?_
  refine j_istore_n (pc := 31) (fun y => [(2, .int y), (0, .ref (Z.2.1 181)), (1, .int a1)]) X dX2_soonerThanTruth_31 (by decide) (fun _ => rfl) hF (fun v4 hF => ?_)
  refine j_iconst (pc := 32) 0 X dX2_soonerThanTruth_32 rfl ?_
  refine j_istore_n (pc := 33) (fun y => [(3, .int y), (2, .int v4), (0, .ref (Z.2.1 181)), (1, .int a1)]) X dX2_soonerThanTruth_33 (by decide) (fun _ => rfl) hF (fun v5 hF => ?_)
  refine j_lv [(0, .ref (Z.2.1 181)), (2, .int v4), (3, .int v5)] [2, 1, 0] rfl ?_
  exact LX2_soonerThanTruth_34 X E hz FU v4 v5 h3 hF
theorem dX2_walkBoth_0 : decode cX2_walkBoth 0 = .ok (.aload_n 0, 1) := by decide +kernel
theorem dX2_walkBoth_1 : decode cX2_walkBoth 1 = .ok (.getfield 15, 3) := by decide +kernel
theorem dX2_walkBoth_4 : decode cX2_walkBoth 4 = .ok (.iload_n 1, 1) := by decide +kernel
theorem dX2_walkBoth_5 : decode cX2_walkBoth 5 = .ok (.invokevirtual 38, 3) := by decide +kernel
theorem dX2_walkBoth_8 : decode cX2_walkBoth 8 = .ok (.aload_n 0, 1) := by decide +kernel
theorem dX2_walkBoth_9 : decode cX2_walkBoth 9 = .ok (.getfield 28, 3) := by decide +kernel
theorem dX2_walkBoth_12 : decode cX2_walkBoth 12 = .ok (.iconst 1, 1) := by decide +kernel
theorem dX2_walkBoth_13 : decode cX2_walkBoth 13 = .ok (.bipush 59, 2) := by decide +kernel
theorem dX2_walkBoth_15 : decode cX2_walkBoth 15 = .ok (.iconst 0, 1) := by decide +kernel
theorem dX2_walkBoth_16 : decode cX2_walkBoth 16 = .ok (.invokevirtual 44, 3) := by decide +kernel
theorem dX2_walkBoth_19 : decode cX2_walkBoth 19 = .ok (.aload_n 0, 1) := by decide +kernel
theorem dX2_walkBoth_20 : decode cX2_walkBoth 20 = .ok (.getfield 32, 3) := by decide +kernel
theorem dX2_walkBoth_23 : decode cX2_walkBoth 23 = .ok (.iload_n 2, 1) := by decide +kernel
theorem dX2_walkBoth_24 : decode cX2_walkBoth 24 = .ok (.bipush 59, 2) := by decide +kernel
theorem dX2_walkBoth_26 : decode cX2_walkBoth 26 = .ok (.iconst 0, 1) := by decide +kernel
theorem dX2_walkBoth_27 : decode cX2_walkBoth 27 = .ok (.invokevirtual 44, 3) := by decide +kernel
theorem dX2_walkBoth_30 : decode cX2_walkBoth 30 = .ok (.return_, 1) := by decide +kernel
def fX2_walkBoth (a1 : Int32) (a2 : Int32) (h : Hp) : Option (Hp) := bv (fX3_arrange a1 h) (fun h1 => bv (fX1_walk 182 1 59 0 h1) (fun h2 => bv (fX1_walk 190 a2 59 0 h2) (fun h3 => some h3)))
set_option maxRecDepth 20000 in
theorem tX2_walkBoth (Z : ZT) (a1 : Int32) (a2 : Int32) (hz : HZ Z) (h : Hp) (hr : Hp) (hF : fX2_walkBoth a1 a2 h = some hr) : MC Z yX2_walkBoth cX2_walkBoth 3 none 6 [.ref (Z.2.1 181), .int a1, .int a2] h (none) hr := by
  unfold fX2_walkBoth at hF
  refine mc_start (by decide) (Nat.le_of_ble_eq_true rfl) (fun G X E => ?_)
  refine j_aload_n (pc := 0) 0 X dX2_walkBoth_0 rfl ?_
  refine j_getr (pc := 1) X dX2_walkBoth_1 (hz _ sh_181) fl_X2_15 rfl ?_
  refine j_iload_n (pc := 4) 1 X dX2_walkBoth_4 rfl ?_
  refine j_cVv (pc := 5) (As := [.int a1]) (rest := []) X dX2_walkBoth_5 ml_X2_38 ck_X3_arrange cv_X3_arrange (hz _ sh_152) rfl (Nat.le_of_ble_eq_true rfl) rfl (Nat.le_of_ble_eq_true rfl) rfl hF (tX3_arrange Z a1 hz h) (fun h1 hF => ?_)
  refine j_aload_n (pc := 8) 0 X dX2_walkBoth_8 rfl ?_
  refine j_getr (pc := 9) X dX2_walkBoth_9 (hz _ sh_181) fl_X2_28 rfl ?_
  refine j_iconst (pc := 12) 1 X dX2_walkBoth_12 rfl ?_
  refine j_bipush (pc := 13) 59 X dX2_walkBoth_13 rfl ?_
  refine j_iconst (pc := 15) 0 X dX2_walkBoth_15 rfl ?_
  refine j_cVv (pc := 16) (As := [.int 1, .int 59, .int 0]) (rest := []) X dX2_walkBoth_16 ml_X2_44 ck_X1_walk cv_X1_walk (hz _ sh_182) rfl (Nat.le_of_ble_eq_true rfl) rfl (Nat.le_of_ble_eq_true rfl) rfl hF (tX1_walk Z 182 isC_182 1 59 0 hz h1) (fun h2 hF => ?_)
  refine j_aload_n (pc := 19) 0 X dX2_walkBoth_19 rfl ?_
  refine j_getr (pc := 20) X dX2_walkBoth_20 (hz _ sh_181) fl_X2_32 rfl ?_
  refine j_iload_n (pc := 23) 2 X dX2_walkBoth_23 rfl ?_
  refine j_bipush (pc := 24) 59 X dX2_walkBoth_24 rfl ?_
  refine j_iconst (pc := 26) 0 X dX2_walkBoth_26 rfl ?_
  refine j_cVv (pc := 27) (As := [.int a2, .int 59, .int 0]) (rest := []) X dX2_walkBoth_27 ml_X2_44 ck_X1_walk cv_X1_walk (hz _ sh_190) rfl (Nat.le_of_ble_eq_true rfl) rfl (Nat.le_of_ble_eq_true rfl) rfl hF (tX1_walk Z 190 isC_190 a2 59 0 hz h2) (fun h3 hF => ?_)
  exact j_vret (pc := 30) X E dX2_walkBoth_30 hF
theorem dX2_bothHave_0 : decode cX2_bothHave 0 = .ok (.aload_n 0, 1) := by decide +kernel
theorem dX2_bothHave_1 : decode cX2_bothHave 1 = .ok (.getfield 28, 3) := by decide +kernel
theorem dX2_bothHave_4 : decode cX2_bothHave 4 = .ok (.getfield 58, 3) := by decide +kernel
theorem dX2_bothHave_7 : decode cX2_bothHave 7 = .ok (.iload_n 2, 1) := by decide +kernel
theorem dX2_bothHave_8 : decode cX2_bothHave 8 = .ok (.iaload, 1) := by decide +kernel
theorem dX2_bothHave_9 : decode cX2_bothHave 9 = .ok (.iload_n 1, 1) := by decide +kernel
theorem dX2_bothHave_10 : decode cX2_bothHave 10 = .ok (.if_icmp .ne 20, 3) := by decide +kernel
theorem dX2_bothHave_13 : decode cX2_bothHave 13 = .ok (.aload_n 0, 1) := by decide +kernel
theorem dX2_bothHave_14 : decode cX2_bothHave 14 = .ok (.getfield 32, 3) := by decide +kernel
theorem dX2_bothHave_17 : decode cX2_bothHave 17 = .ok (.getfield 58, 3) := by decide +kernel
theorem dX2_bothHave_20 : decode cX2_bothHave 20 = .ok (.iload_n 2, 1) := by decide +kernel
theorem dX2_bothHave_21 : decode cX2_bothHave 21 = .ok (.iaload, 1) := by decide +kernel
theorem dX2_bothHave_22 : decode cX2_bothHave 22 = .ok (.iload_n 1, 1) := by decide +kernel
theorem dX2_bothHave_23 : decode cX2_bothHave 23 = .ok (.if_icmp .ne 7, 3) := by decide +kernel
theorem dX2_bothHave_26 : decode cX2_bothHave 26 = .ok (.iconst 1, 1) := by decide +kernel
theorem dX2_bothHave_27 : decode cX2_bothHave 27 = .ok (.goto 4, 3) := by decide +kernel
theorem dX2_bothHave_30 : decode cX2_bothHave 30 = .ok (.iconst 0, 1) := by decide +kernel
theorem dX2_bothHave_31 : decode cX2_bothHave 31 = .ok (.ireturn, 1) := by decide +kernel
def fX2_bothHave (a1 : Int32) (a2 : Int32) (h : Hp) : Option (Int32 × Hp) := ck (inb a2 10) ((if (h.1 183 (ix a2)) = a1 then ck (inb a2 10) ((if (h.1 191 (ix a2)) = a1 then ck (zb 1) (some (1, h)) else ck (zb 0) (some (0, h)))) else ck (zb 0) (some (0, h))))
set_option maxRecDepth 20000 in
theorem tX2_bothHave (Z : ZT) (a1 : Int32) (a2 : Int32) (hz : HZ Z) (h : Hp) (r : Int32) (hr : Hp) (hF : fX2_bothHave a1 a2 h = some (r, hr)) : MC Z yX2_bothHave cX2_bothHave 3 (some .boolean) 0 [.ref (Z.2.1 181), .int a1, .int a2] h (some (.int r)) hr := by
  unfold fX2_bothHave at hF
  refine mc_start (by decide) (Nat.le_of_ble_eq_true rfl) (fun G X E => ?_)
  refine j_aload_n (pc := 0) 0 X dX2_bothHave_0 rfl ?_
  refine j_getr (pc := 1) X dX2_bothHave_1 (hz _ sh_181) fl_X2_28 rfl ?_
  refine j_getr (pc := 4) X dX2_bothHave_4 (hz _ sh_182) fl_X2_58 rfl ?_
  refine j_iload_n (pc := 7) 2 X dX2_bothHave_7 rfl ?_
  refine j_iald (pc := 8) X dX2_bothHave_8 (hz _ sh_183) hF (fun hF => ?_)
  refine j_iload_n (pc := 9) 1 X dX2_bothHave_9 rfl ?_
  refine j_icmp_ne (pc := 10) 30 X dX2_bothHave_10 rfl hF (fun hF => ?_) (fun hF => ?_)
  · refine j_iconst (pc := 30) 0 X dX2_bothHave_30 rfl ?_
    exact j_zret (pc := 31) X E dX2_bothHave_31 hF
  · refine j_aload_n (pc := 13) 0 X dX2_bothHave_13 rfl ?_
    refine j_getr (pc := 14) X dX2_bothHave_14 (hz _ sh_181) fl_X2_32 rfl ?_
    refine j_getr (pc := 17) X dX2_bothHave_17 (hz _ sh_190) fl_X2_58 rfl ?_
    refine j_iload_n (pc := 20) 2 X dX2_bothHave_20 rfl ?_
    refine j_iald (pc := 21) X dX2_bothHave_21 (hz _ sh_191) hF (fun hF => ?_)
    refine j_iload_n (pc := 22) 1 X dX2_bothHave_22 rfl ?_
    refine j_icmp_ne (pc := 23) 30 X dX2_bothHave_23 rfl hF (fun hF => ?_) (fun hF => ?_)
    · refine j_iconst (pc := 30) 0 X dX2_bothHave_30 rfl ?_
      exact j_zret (pc := 31) X E dX2_bothHave_31 hF
    · refine j_iconst (pc := 26) 1 X dX2_bothHave_26 rfl ?_
      refine j_goto (pc := 27) 31 X dX2_bothHave_27 rfl ?_
      exact j_zret (pc := 31) X E dX2_bothHave_31 hF
theorem dX2_lateOf_0 : decode cX2_lateOf 0 = .ok (.aload_n 0, 1) := by decide +kernel
theorem dX2_lateOf_1 : decode cX2_lateOf 1 = .ok (.iconst 1, 1) := by decide +kernel
theorem dX2_lateOf_2 : decode cX2_lateOf 2 = .ok (.iload_n 1, 1) := by decide +kernel
theorem dX2_lateOf_3 : decode cX2_lateOf 3 = .ok (.invokevirtual 65, 3) := by decide +kernel
theorem dX2_lateOf_6 : decode cX2_lateOf 6 = .ok (.ifCond .eq 23, 3) := by decide +kernel
theorem dX2_lateOf_9 : decode cX2_lateOf 9 = .ok (.aload_n 0, 1) := by decide +kernel
theorem dX2_lateOf_10 : decode cX2_lateOf 10 = .ok (.getfield 32, 3) := by decide +kernel
theorem dX2_lateOf_13 : decode cX2_lateOf 13 = .ok (.getfield 62, 3) := by decide +kernel
theorem dX2_lateOf_16 : decode cX2_lateOf 16 = .ok (.iload_n 1, 1) := by decide +kernel
theorem dX2_lateOf_17 : decode cX2_lateOf 17 = .ok (.iaload, 1) := by decide +kernel
theorem dX2_lateOf_18 : decode cX2_lateOf 18 = .ok (.aload_n 0, 1) := by decide +kernel
theorem dX2_lateOf_19 : decode cX2_lateOf 19 = .ok (.getfield 28, 3) := by decide +kernel
theorem dX2_lateOf_22 : decode cX2_lateOf 22 = .ok (.getfield 62, 3) := by decide +kernel
theorem dX2_lateOf_25 : decode cX2_lateOf 25 = .ok (.iload_n 1, 1) := by decide +kernel
theorem dX2_lateOf_26 : decode cX2_lateOf 26 = .ok (.iaload, 1) := by decide +kernel
theorem dX2_lateOf_27 : decode cX2_lateOf 27 = .ok (.isub, 1) := by decide +kernel
theorem dX2_lateOf_28 : decode cX2_lateOf 28 = .ok (.ireturn, 1) := by decide +kernel
theorem dX2_lateOf_29 : decode cX2_lateOf 29 = .ok (.aload_n 0, 1) := by decide +kernel
theorem dX2_lateOf_30 : decode cX2_lateOf 30 = .ok (.iconst 2, 1) := by decide +kernel
theorem dX2_lateOf_31 : decode cX2_lateOf 31 = .ok (.iload_n 1, 1) := by decide +kernel
theorem dX2_lateOf_32 : decode cX2_lateOf 32 = .ok (.invokevirtual 65, 3) := by decide +kernel
theorem dX2_lateOf_35 : decode cX2_lateOf 35 = .ok (.ifCond .eq 7, 3) := by decide +kernel
theorem dX2_lateOf_38 : decode cX2_lateOf 38 = .ok (.iconst 0, 1) := by decide +kernel
theorem dX2_lateOf_39 : decode cX2_lateOf 39 = .ok (.goto 5, 3) := by decide +kernel
theorem dX2_lateOf_42 : decode cX2_lateOf 42 = .ok (.bipush (-2), 2) := by decide +kernel
theorem dX2_lateOf_44 : decode cX2_lateOf 44 = .ok (.ireturn, 1) := by decide +kernel
def fX2_lateOf (a1 : Int32) (h : Hp) : Option (Int32 × Hp) := bi (fX2_bothHave 1 a1 h) (fun w2 h1 => (if w2 = 0 then bi (fX2_bothHave 2 a1 h1) (fun w4 h3 => (if w4 = 0 then some ((-2), h3) else some (0, h3))) else ck (inb a1 10) (ck (inb a1 10) (some (((h1.1 192 (ix a1)) - (h1.1 184 (ix a1))), h1)))))
set_option maxRecDepth 20000 in
theorem tX2_lateOf (Z : ZT) (a1 : Int32) (hz : HZ Z) (h : Hp) (r : Int32) (hr : Hp) (hF : fX2_lateOf a1 h = some (r, hr)) : MC Z yX2_lateOf cX2_lateOf 2 (some .int) 1 [.ref (Z.2.1 181), .int a1] h (some (.int r)) hr := by
  unfold fX2_lateOf at hF
  refine mc_start (by decide) (Nat.le_of_ble_eq_true rfl) (fun G X E => ?_)
  refine j_aload_n (pc := 0) 0 X dX2_lateOf_0 rfl ?_
  refine j_iconst (pc := 1) 1 X dX2_lateOf_1 rfl ?_
  refine j_iload_n (pc := 2) 1 X dX2_lateOf_2 rfl ?_
  refine j_cVi (pc := 3) (As := [.int 1, .int a1]) (rest := []) X dX2_lateOf_3 ml_X2_65 ck_X2_bothHave cv_X2_bothHave (hz _ sh_181) rfl (Nat.le_of_ble_eq_true rfl) rfl (Nat.le_of_ble_eq_true rfl) rfl hF (tX2_bothHave Z 1 a1 hz h) (fun w2 h1 hF => ?_)
  refine j_if_eq (pc := 6) 29 X dX2_lateOf_6 rfl hF (fun hF => ?_) (fun hF => ?_)
  · refine j_aload_n (pc := 29) 0 X dX2_lateOf_29 rfl ?_
    refine j_iconst (pc := 30) 2 X dX2_lateOf_30 rfl ?_
    refine j_iload_n (pc := 31) 1 X dX2_lateOf_31 rfl ?_
    refine j_cVi (pc := 32) (As := [.int 2, .int a1]) (rest := []) X dX2_lateOf_32 ml_X2_65 ck_X2_bothHave cv_X2_bothHave (hz _ sh_181) rfl (Nat.le_of_ble_eq_true rfl) rfl (Nat.le_of_ble_eq_true rfl) rfl hF (tX2_bothHave Z 2 a1 hz h1) (fun w4 h3 hF => ?_)
    refine j_if_eq (pc := 35) 42 X dX2_lateOf_35 rfl hF (fun hF => ?_) (fun hF => ?_)
    · refine j_bipush (pc := 42) (-2) X dX2_lateOf_42 rfl ?_
      exact j_iret (pc := 44) X E dX2_lateOf_44 hF
    · refine j_iconst (pc := 38) 0 X dX2_lateOf_38 rfl ?_
      refine j_goto (pc := 39) 44 X dX2_lateOf_39 rfl ?_
      exact j_iret (pc := 44) X E dX2_lateOf_44 hF
  · refine j_aload_n (pc := 9) 0 X dX2_lateOf_9 rfl ?_
    refine j_getr (pc := 10) X dX2_lateOf_10 (hz _ sh_181) fl_X2_32 rfl ?_
    refine j_getr (pc := 13) X dX2_lateOf_13 (hz _ sh_190) fl_X2_62 rfl ?_
    refine j_iload_n (pc := 16) 1 X dX2_lateOf_16 rfl ?_
    refine j_iald (pc := 17) X dX2_lateOf_17 (hz _ sh_192) hF (fun hF => ?_)
    refine j_aload_n (pc := 18) 0 X dX2_lateOf_18 rfl ?_
    refine j_getr (pc := 19) X dX2_lateOf_19 (hz _ sh_181) fl_X2_28 rfl ?_
    refine j_getr (pc := 22) X dX2_lateOf_22 (hz _ sh_182) fl_X2_62 rfl ?_
    refine j_iload_n (pc := 25) 1 X dX2_lateOf_25 rfl ?_
    refine j_iald (pc := 26) X dX2_lateOf_26 (hz _ sh_184) hF (fun hF => ?_)
    refine j_isub (pc := 27) X dX2_lateOf_27 ?_
    exact j_iret (pc := 28) X E dX2_lateOf_28 hF
theorem dX2_allInTime_0 : decode cX2_allInTime 0 = .ok (.iconst 0, 1) := by decide +kernel
theorem dX2_allInTime_1 : decode cX2_allInTime 1 = .ok (.istore_n 2, 1) := by decide +kernel
theorem dX2_allInTime_2 : decode cX2_allInTime 2 = .ok (.iload_n 2, 1) := by decide +kernel
theorem dX2_allInTime_3 : decode cX2_allInTime 3 = .ok (.aload_n 0, 1) := by decide +kernel
theorem dX2_allInTime_4 : decode cX2_allInTime 4 = .ok (.getfield 9, 3) := by decide +kernel
theorem dX2_allInTime_7 : decode cX2_allInTime 7 = .ok (.getfield 52, 3) := by decide +kernel
theorem dX2_allInTime_10 : decode cX2_allInTime 10 = .ok (.if_icmp .ge 52, 3) := by decide +kernel
theorem dX2_allInTime_13 : decode cX2_allInTime 13 = .ok (.aload_n 0, 1) := by decide +kernel
theorem dX2_allInTime_14 : decode cX2_allInTime 14 = .ok (.iconst 1, 1) := by decide +kernel
theorem dX2_allInTime_15 : decode cX2_allInTime 15 = .ok (.iload_n 2, 1) := by decide +kernel
theorem dX2_allInTime_16 : decode cX2_allInTime 16 = .ok (.invokevirtual 65, 3) := by decide +kernel
theorem dX2_allInTime_19 : decode cX2_allInTime 19 = .ok (.ifCond .eq 16, 3) := by decide +kernel
theorem dX2_allInTime_22 : decode cX2_allInTime 22 = .ok (.aload_n 0, 1) := by decide +kernel
theorem dX2_allInTime_23 : decode cX2_allInTime 23 = .ok (.iload_n 2, 1) := by decide +kernel
theorem dX2_allInTime_24 : decode cX2_allInTime 24 = .ok (.invokevirtual 73, 3) := by decide +kernel
theorem dX2_allInTime_27 : decode cX2_allInTime 27 = .ok (.iload_n 1, 1) := by decide +kernel
theorem dX2_allInTime_28 : decode cX2_allInTime 28 = .ok (.if_icmp .gt 7, 3) := by decide +kernel
theorem dX2_allInTime_31 : decode cX2_allInTime 31 = .ok (.iconst 1, 1) := by decide +kernel
theorem dX2_allInTime_32 : decode cX2_allInTime 32 = .ok (.goto 4, 3) := by decide +kernel
theorem dX2_allInTime_35 : decode cX2_allInTime 35 = .ok (.iconst 0, 1) := by decide +kernel
theorem dX2_allInTime_36 : decode cX2_allInTime 36 = .ok (.istore_n 3, 1) := by decide +kernel
theorem dX2_allInTime_37 : decode cX2_allInTime 37 = .ok (.aload_n 0, 1) := by decide +kernel
theorem dX2_allInTime_38 : decode cX2_allInTime 38 = .ok (.getfield 28, 3) := by decide +kernel
theorem dX2_allInTime_41 : decode cX2_allInTime 41 = .ok (.getfield 58, 3) := by decide +kernel
theorem dX2_allInTime_44 : decode cX2_allInTime 44 = .ok (.iload_n 2, 1) := by decide +kernel
theorem dX2_allInTime_45 : decode cX2_allInTime 45 = .ok (.iaload, 1) := by decide +kernel
theorem dX2_allInTime_46 : decode cX2_allInTime 46 = .ok (.iconst 1, 1) := by decide +kernel
theorem dX2_allInTime_47 : decode cX2_allInTime 47 = .ok (.if_icmp .ne 9, 3) := by decide +kernel
theorem dX2_allInTime_50 : decode cX2_allInTime 50 = .ok (.iload_n 3, 1) := by decide +kernel
theorem dX2_allInTime_51 : decode cX2_allInTime 51 = .ok (.ifCond .ne 5, 3) := by decide +kernel
theorem dX2_allInTime_54 : decode cX2_allInTime 54 = .ok (.iconst 0, 1) := by decide +kernel
theorem dX2_allInTime_55 : decode cX2_allInTime 55 = .ok (.ireturn, 1) := by decide +kernel
theorem dX2_allInTime_56 : decode cX2_allInTime 56 = .ok (.iinc 2 1, 3) := by decide +kernel
theorem dX2_allInTime_59 : decode cX2_allInTime 59 = .ok (.goto (-57), 3) := by decide +kernel
theorem dX2_allInTime_62 : decode cX2_allInTime 62 = .ok (.iconst 1, 1) := by decide +kernel
theorem dX2_allInTime_63 : decode cX2_allInTime 63 = .ok (.ireturn, 1) := by decide +kernel
def bX2_allInTime_56  (r2 : Int32 → Int32 → Hp → Option (Int32 × Hp)) (x1 : Int32) (x2 : Int32) (h : Hp) : Option (Int32 × Hp) := lt (x2 + 1) (fun v1 => r2 x1 v1 h)
set_option maxRecDepth 20000 in
theorem BX2_allInTime_56 {Z : ZT} {G : GT} {r : Int32} {hr : Hp} (X : CX Z G cX2_allInTime RX2 4 2) (E : RX Z G (some .boolean) (some (.int r)) hr) (hz : HZ Z) (r2 : Int32 → Int32 → Hp → Option (Int32 × Hp)) (hr2 : ∀ (x1 : Int32) (x2 : Int32) (h : Hp), r2 x1 x2 h = some (r, hr) → J Z G 4 h 2 [(0, .ref (Z.2.1 181)), (1, .int x1), (2, .int x2)] []) (x1 : Int32) (x2 : Int32) (h : Hp) (hF : bX2_allInTime_56  r2 x1 x2 h = some (r, hr)) : J Z G 4 h 56 [(0, .ref (Z.2.1 181)), (1, .int x1), (2, .int x2)] [] := by
  unfold bX2_allInTime_56 at hF
  refine j_iinc (pc := 56) 2 (x2 + 1) (fun y => [(2, .int y), (0, .ref (Z.2.1 181)), (1, .int x1)]) X dX2_allInTime_56 rfl rfl (by decide) (fun _ => rfl) hF (fun v1 hF => ?_)
  refine j_goto (pc := 59) 2 X dX2_allInTime_59 rfl ?_
  refine j_lv [(0, .ref (Z.2.1 181)), (1, .int x1), (2, .int v1)] [1, 2, 0] rfl ?_
  exact hr2 x1 v1 h hF
def bX2_allInTime_36  (r2 : Int32 → Int32 → Hp → Option (Int32 × Hp)) (x1 : Int32) (x2 : Int32) (s0 : Int32) (h : Hp) : Option (Int32 × Hp) := lt s0 (fun v1 => ck (inb x2 10) ((if (h.1 183 (ix x2)) = 1 then (if v1 = 0 then ck (zb 0) (some (0, h)) else bX2_allInTime_56 r2 x1 x2 h) else bX2_allInTime_56 r2 x1 x2 h)))
set_option maxRecDepth 20000 in
theorem BX2_allInTime_36 {Z : ZT} {G : GT} {r : Int32} {hr : Hp} (X : CX Z G cX2_allInTime RX2 4 2) (E : RX Z G (some .boolean) (some (.int r)) hr) (hz : HZ Z) (r2 : Int32 → Int32 → Hp → Option (Int32 × Hp)) (hr2 : ∀ (x1 : Int32) (x2 : Int32) (h : Hp), r2 x1 x2 h = some (r, hr) → J Z G 4 h 2 [(0, .ref (Z.2.1 181)), (1, .int x1), (2, .int x2)] []) (x1 : Int32) (x2 : Int32) (s0 : Int32) (h : Hp) (hF : bX2_allInTime_36  r2 x1 x2 s0 h = some (r, hr)) : J Z G 4 h 36 [(0, .ref (Z.2.1 181)), (1, .int x1), (2, .int x2)] [.int s0] := by
  unfold bX2_allInTime_36 at hF
  refine j_istore_n (pc := 36) (fun y => [(3, .int y), (0, .ref (Z.2.1 181)), (1, .int x1), (2, .int x2)]) X dX2_allInTime_36 (by decide) (fun _ => rfl) hF (fun v1 hF => ?_)
  refine j_aload_n (pc := 37) 1 X dX2_allInTime_37 rfl ?_
  refine j_getr (pc := 38) X dX2_allInTime_38 (hz _ sh_181) fl_X2_28 rfl ?_
  refine j_getr (pc := 41) X dX2_allInTime_41 (hz _ sh_182) fl_X2_58 rfl ?_
  refine j_iload_n (pc := 44) 3 X dX2_allInTime_44 rfl ?_
  refine j_iald (pc := 45) X dX2_allInTime_45 (hz _ sh_183) hF (fun hF => ?_)
  refine j_iconst (pc := 46) 1 X dX2_allInTime_46 rfl ?_
  refine j_icmp_ne (pc := 47) 56 X dX2_allInTime_47 rfl hF (fun hF => ?_) (fun hF => ?_)
  · refine j_lv [(0, .ref (Z.2.1 181)), (1, .int x1), (2, .int x2)] [1, 2, 3] rfl ?_
    exact BX2_allInTime_56 X E hz r2 hr2 x1 x2 h hF
  · refine j_iload_n (pc := 50) 0 X dX2_allInTime_50 rfl ?_
    refine j_if_ne (pc := 51) 56 X dX2_allInTime_51 rfl hF (fun hF => ?_) (fun hF => ?_)
    · refine j_lv [(0, .ref (Z.2.1 181)), (1, .int x1), (2, .int x2)] [1, 2, 3] rfl ?_
      exact BX2_allInTime_56 X E hz r2 hr2 x1 x2 h hF
    · refine j_iconst (pc := 54) 0 X dX2_allInTime_54 rfl ?_
      exact j_zret (pc := 55) X E dX2_allInTime_55 hF
def bX2_allInTime_35  (r2 : Int32 → Int32 → Hp → Option (Int32 × Hp)) (x1 : Int32) (x2 : Int32) (h : Hp) : Option (Int32 × Hp) := bX2_allInTime_36 r2 x1 x2 0 h
set_option maxRecDepth 20000 in
theorem BX2_allInTime_35 {Z : ZT} {G : GT} {r : Int32} {hr : Hp} (X : CX Z G cX2_allInTime RX2 4 2) (E : RX Z G (some .boolean) (some (.int r)) hr) (hz : HZ Z) (r2 : Int32 → Int32 → Hp → Option (Int32 × Hp)) (hr2 : ∀ (x1 : Int32) (x2 : Int32) (h : Hp), r2 x1 x2 h = some (r, hr) → J Z G 4 h 2 [(0, .ref (Z.2.1 181)), (1, .int x1), (2, .int x2)] []) (x1 : Int32) (x2 : Int32) (h : Hp) (hF : bX2_allInTime_35  r2 x1 x2 h = some (r, hr)) : J Z G 4 h 35 [(0, .ref (Z.2.1 181)), (1, .int x1), (2, .int x2)] [] := by
  unfold bX2_allInTime_35 at hF
  refine j_iconst (pc := 35) 0 X dX2_allInTime_35 rfl ?_
  exact BX2_allInTime_36 X E hz r2 hr2 x1 x2 0 h hF
def bX2_allInTime_2   (r2 : Int32 → Int32 → Hp → Option (Int32 × Hp)) (x1 : Int32) (x2 : Int32) (h : Hp) : Option (Int32 × Hp) := (if (h.1 108 9) ≤ x2 then ck (zb 1) (some (1, h)) else bi (fX2_bothHave 1 x2 h) (fun w2 h1 => (if w2 = 0 then bX2_allInTime_35 r2 x1 x2 h1 else bi (fX2_lateOf x2 h1) (fun w4 h3 => (if x1 < w4 then bX2_allInTime_35 r2 x1 x2 h3 else bX2_allInTime_36 r2 x1 x2 1 h3)))))
def lX2_allInTime_2   : Nat → Int32 → Int32 → Hp → Option (Int32 × Hp)
  | 0 => fun _ _ _ => none
  | n + 1 => bX2_allInTime_2   (lX2_allInTime_2   n)
set_option maxRecDepth 20000 in
theorem BX2_allInTime_2 {Z : ZT} {G : GT} {r : Int32} {hr : Hp} (X : CX Z G cX2_allInTime RX2 4 2) (E : RX Z G (some .boolean) (some (.int r)) hr) (hz : HZ Z)  (r2 : Int32 → Int32 → Hp → Option (Int32 × Hp)) (hr2 : ∀ (x1 : Int32) (x2 : Int32) (h : Hp), r2 x1 x2 h = some (r, hr) → J Z G 4 h 2 [(0, .ref (Z.2.1 181)), (1, .int x1), (2, .int x2)] []) (x1 : Int32) (x2 : Int32) (h : Hp) (hF : bX2_allInTime_2   r2 x1 x2 h = some (r, hr)) : J Z G 4 h 2 [(0, .ref (Z.2.1 181)), (1, .int x1), (2, .int x2)] [] := by
  unfold bX2_allInTime_2 at hF
  refine j_iload_n (pc := 2) 2 X dX2_allInTime_2 rfl ?_
  refine j_aload_n (pc := 3) 0 X dX2_allInTime_3 rfl ?_
  refine j_getr (pc := 4) X dX2_allInTime_4 (hz _ sh_181) fl_X2_9 rfl ?_
  refine j_geti (pc := 7) X dX2_allInTime_7 (hz _ sh_108) fl_X2_52 rfl ?_
  refine j_icmp_ge (pc := 10) 62 X dX2_allInTime_10 rfl hF (fun hF => ?_) (fun hF => ?_)
  · refine j_iconst (pc := 62) 1 X dX2_allInTime_62 rfl ?_
    exact j_zret (pc := 63) X E dX2_allInTime_63 hF
  · refine j_aload_n (pc := 13) 0 X dX2_allInTime_13 rfl ?_
    refine j_iconst (pc := 14) 1 X dX2_allInTime_14 rfl ?_
    refine j_iload_n (pc := 15) 2 X dX2_allInTime_15 rfl ?_
    refine j_cVi (pc := 16) (As := [.int 1, .int x2]) (rest := []) X dX2_allInTime_16 ml_X2_65 ck_X2_bothHave cv_X2_bothHave (hz _ sh_181) rfl (Nat.le_of_ble_eq_true rfl) rfl (Nat.le_of_ble_eq_true rfl) rfl hF (tX2_bothHave Z 1 x2 hz h) (fun w2 h1 hF => ?_)
    refine j_if_eq (pc := 19) 35 X dX2_allInTime_19 rfl hF (fun hF => ?_) (fun hF => ?_)
    · exact BX2_allInTime_35 X E hz r2 hr2 x1 x2 h1 hF
    · refine j_aload_n (pc := 22) 0 X dX2_allInTime_22 rfl ?_
      refine j_iload_n (pc := 23) 2 X dX2_allInTime_23 rfl ?_
      refine j_cVi (pc := 24) (As := [.int x2]) (rest := []) X dX2_allInTime_24 ml_X2_73 ck_X2_lateOf cv_X2_lateOf (hz _ sh_181) rfl (Nat.le_of_ble_eq_true rfl) rfl (Nat.le_of_ble_eq_true rfl) rfl hF (tX2_lateOf Z x2 hz h1) (fun w4 h3 hF => ?_)
      refine j_iload_n (pc := 27) 1 X dX2_allInTime_27 rfl ?_
      refine j_icmp_gt (pc := 28) 35 X dX2_allInTime_28 rfl hF (fun hF => ?_) (fun hF => ?_)
      · exact BX2_allInTime_35 X E hz r2 hr2 x1 x2 h3 hF
      · refine j_iconst (pc := 31) 1 X dX2_allInTime_31 rfl ?_
        refine j_goto (pc := 32) 36 X dX2_allInTime_32 rfl ?_
        exact BX2_allInTime_36 X E hz r2 hr2 x1 x2 1 h3 hF
theorem LX2_allInTime_2 {Z : ZT} {G : GT} {r : Int32} {hr : Hp} (X : CX Z G cX2_allInTime RX2 4 2) (E : RX Z G (some .boolean) (some (.int r)) hr) (hz : HZ Z)  : ∀ (n : Nat) (x1 : Int32) (x2 : Int32) (h : Hp), lX2_allInTime_2   n x1 x2 h = some (r, hr) → J Z G 4 h 2 [(0, .ref (Z.2.1 181)), (1, .int x1), (2, .int x2)] [] := by
  intro n
  induction n with
  | zero => intro x1 x2 h hF; cases hF
  | succ n ih => intro x1 x2 h hF; exact BX2_allInTime_2 X E hz  (lX2_allInTime_2   n) ih x1 x2 h hF
def fX2_allInTime (a1 : Int32) (h : Hp) : Option (Int32 × Hp) := lt 0 (fun v1 => lX2_allInTime_2 FU a1 v1 h)
set_option maxRecDepth 20000 in
theorem tX2_allInTime (Z : ZT) (a1 : Int32) (hz : HZ Z) (h : Hp) (r : Int32) (hr : Hp) (hF : fX2_allInTime a1 h = some (r, hr)) : MC Z yX2_allInTime cX2_allInTime 4 (some .boolean) 2 [.ref (Z.2.1 181), .int a1] h (some (.int r)) hr := by
  unfold fX2_allInTime at hF
  refine mc_start (by decide) (Nat.le_of_ble_eq_true rfl) (fun G X E => ?_)
  refine j_iconst (pc := 0) 0 X dX2_allInTime_0 rfl ?_
  refine j_istore_n (pc := 1) (fun y => [(2, .int y), (0, .ref (Z.2.1 181)), (1, .int a1)]) X dX2_allInTime_1 (by decide) (fun _ => rfl) hF (fun v1 hF => ?_)
  refine j_lv [(0, .ref (Z.2.1 181)), (1, .int a1), (2, .int v1)] [1, 2, 0] rfl ?_
  exact LX2_allInTime_2 X E hz FU a1 v1 h hF
theorem dX2_rarestLook_0 : decode cX2_rarestLook 0 = .ok (.aload_n 0, 1) := by decide +kernel
theorem dX2_rarestLook_1 : decode cX2_rarestLook 1 = .ok (.getfield 15, 3) := by decide +kernel
theorem dX2_rarestLook_4 : decode cX2_rarestLook 4 = .ok (.iload_n 1, 1) := by decide +kernel
theorem dX2_rarestLook_5 : decode cX2_rarestLook 5 = .ok (.invokevirtual 38, 3) := by decide +kernel
theorem dX2_rarestLook_8 : decode cX2_rarestLook 8 = .ok (.aload_n 0, 1) := by decide +kernel
theorem dX2_rarestLook_9 : decode cX2_rarestLook 9 = .ok (.getfield 28, 3) := by decide +kernel
theorem dX2_rarestLook_12 : decode cX2_rarestLook 12 = .ok (.iconst 1, 1) := by decide +kernel
theorem dX2_rarestLook_13 : decode cX2_rarestLook 13 = .ok (.bipush 59, 2) := by decide +kernel
theorem dX2_rarestLook_15 : decode cX2_rarestLook 15 = .ok (.iconst 0, 1) := by decide +kernel
theorem dX2_rarestLook_16 : decode cX2_rarestLook 16 = .ok (.invokevirtual 44, 3) := by decide +kernel
theorem dX2_rarestLook_19 : decode cX2_rarestLook 19 = .ok (.bipush 20, 2) := by decide +kernel
theorem dX2_rarestLook_21 : decode cX2_rarestLook 21 = .ok (.istore_n 3, 1) := by decide +kernel
theorem dX2_rarestLook_22 : decode cX2_rarestLook 22 = .ok (.iload_n 3, 1) := by decide +kernel
theorem dX2_rarestLook_23 : decode cX2_rarestLook 23 = .ok (.iconst 1, 1) := by decide +kernel
theorem dX2_rarestLook_24 : decode cX2_rarestLook 24 = .ok (.if_icmp .le 30, 3) := by decide +kernel
theorem dX2_rarestLook_27 : decode cX2_rarestLook 27 = .ok (.aload_n 0, 1) := by decide +kernel
theorem dX2_rarestLook_28 : decode cX2_rarestLook 28 = .ok (.getfield 32, 3) := by decide +kernel
theorem dX2_rarestLook_31 : decode cX2_rarestLook 31 = .ok (.iload_n 3, 1) := by decide +kernel
theorem dX2_rarestLook_32 : decode cX2_rarestLook 32 = .ok (.bipush 59, 2) := by decide +kernel
theorem dX2_rarestLook_34 : decode cX2_rarestLook 34 = .ok (.iconst 0, 1) := by decide +kernel
theorem dX2_rarestLook_35 : decode cX2_rarestLook 35 = .ok (.invokevirtual 44, 3) := by decide +kernel
theorem dX2_rarestLook_38 : decode cX2_rarestLook 38 = .ok (.aload_n 0, 1) := by decide +kernel
theorem dX2_rarestLook_39 : decode cX2_rarestLook 39 = .ok (.iload_n 2, 1) := by decide +kernel
theorem dX2_rarestLook_40 : decode cX2_rarestLook 40 = .ok (.invokevirtual 69, 3) := by decide +kernel
theorem dX2_rarestLook_43 : decode cX2_rarestLook 43 = .ok (.ifCond .eq 5, 3) := by decide +kernel
theorem dX2_rarestLook_46 : decode cX2_rarestLook 46 = .ok (.iload_n 3, 1) := by decide +kernel
theorem dX2_rarestLook_47 : decode cX2_rarestLook 47 = .ok (.ireturn, 1) := by decide +kernel
theorem dX2_rarestLook_48 : decode cX2_rarestLook 48 = .ok (.iinc 3 (-1), 3) := by decide +kernel
theorem dX2_rarestLook_51 : decode cX2_rarestLook 51 = .ok (.goto (-29), 3) := by decide +kernel
theorem dX2_rarestLook_54 : decode cX2_rarestLook 54 = .ok (.iconst 1, 1) := by decide +kernel
theorem dX2_rarestLook_55 : decode cX2_rarestLook 55 = .ok (.ireturn, 1) := by decide +kernel
def bX2_rarestLook_22   (r22 : Int32 → Int32 → Hp → Option (Int32 × Hp)) (x2 : Int32) (x3 : Int32) (h : Hp) : Option (Int32 × Hp) := (if x3 ≤ 1 then some (1, h) else bv (fX1_walk 190 x3 59 0 h) (fun h1 => bi (fX2_allInTime x2 h1) (fun w3 h2 => (if w3 = 0 then lt (x3 + (-1)) (fun v4 => r22 x2 v4 h2) else some (x3, h2)))))
def lX2_rarestLook_22   : Nat → Int32 → Int32 → Hp → Option (Int32 × Hp)
  | 0 => fun _ _ _ => none
  | n + 1 => bX2_rarestLook_22   (lX2_rarestLook_22   n)
set_option maxRecDepth 20000 in
theorem BX2_rarestLook_22 {Z : ZT} {G : GT} {r : Int32} {hr : Hp} (X : CX Z G cX2_rarestLook RX2 4 6) (E : RX Z G (some .int) (some (.int r)) hr) (hz : HZ Z)  (r22 : Int32 → Int32 → Hp → Option (Int32 × Hp)) (hr22 : ∀ (x2 : Int32) (x3 : Int32) (h : Hp), r22 x2 x3 h = some (r, hr) → J Z G 4 h 22 [(0, .ref (Z.2.1 181)), (2, .int x2), (3, .int x3)] []) (x2 : Int32) (x3 : Int32) (h : Hp) (hF : bX2_rarestLook_22   r22 x2 x3 h = some (r, hr)) : J Z G 4 h 22 [(0, .ref (Z.2.1 181)), (2, .int x2), (3, .int x3)] [] := by
  unfold bX2_rarestLook_22 at hF
  refine j_iload_n (pc := 22) 2 X dX2_rarestLook_22 rfl ?_
  refine j_iconst (pc := 23) 1 X dX2_rarestLook_23 rfl ?_
  refine j_icmp_le (pc := 24) 54 X dX2_rarestLook_24 rfl hF (fun hF => ?_) (fun hF => ?_)
  · refine j_iconst (pc := 54) 1 X dX2_rarestLook_54 rfl ?_
    exact j_iret (pc := 55) X E dX2_rarestLook_55 hF
  · refine j_aload_n (pc := 27) 0 X dX2_rarestLook_27 rfl ?_
    refine j_getr (pc := 28) X dX2_rarestLook_28 (hz _ sh_181) fl_X2_32 rfl ?_
    refine j_iload_n (pc := 31) 2 X dX2_rarestLook_31 rfl ?_
    refine j_bipush (pc := 32) 59 X dX2_rarestLook_32 rfl ?_
    refine j_iconst (pc := 34) 0 X dX2_rarestLook_34 rfl ?_
    refine j_cVv (pc := 35) (As := [.int x3, .int 59, .int 0]) (rest := []) X dX2_rarestLook_35 ml_X2_44 ck_X1_walk cv_X1_walk (hz _ sh_190) rfl (Nat.le_of_ble_eq_true rfl) rfl (Nat.le_of_ble_eq_true rfl) rfl hF (tX1_walk Z 190 isC_190 x3 59 0 hz h) (fun h1 hF => ?_)
    refine j_aload_n (pc := 38) 0 X dX2_rarestLook_38 rfl ?_
    refine j_iload_n (pc := 39) 1 X dX2_rarestLook_39 rfl ?_
    refine j_cVi (pc := 40) (As := [.int x2]) (rest := []) X dX2_rarestLook_40 ml_X2_69 ck_X2_allInTime cv_X2_allInTime (hz _ sh_181) rfl (Nat.le_of_ble_eq_true rfl) rfl (Nat.le_of_ble_eq_true rfl) rfl hF (tX2_allInTime Z x2 hz h1) (fun w3 h2 hF => ?_)
    refine j_if_eq (pc := 43) 48 X dX2_rarestLook_43 rfl hF (fun hF => ?_) (fun hF => ?_)
    · refine j_iinc (pc := 48) 2 (x3 + (-1)) (fun y => [(3, .int y), (0, .ref (Z.2.1 181)), (2, .int x2)]) X dX2_rarestLook_48 rfl rfl (by decide) (fun _ => rfl) hF (fun v4 hF => ?_)
      refine j_goto (pc := 51) 22 X dX2_rarestLook_51 rfl ?_
      refine j_lv [(0, .ref (Z.2.1 181)), (2, .int x2), (3, .int v4)] [1, 2, 0] rfl ?_
      exact hr22 x2 v4 h2 hF
    · refine j_iload_n (pc := 46) 2 X dX2_rarestLook_46 rfl ?_
      exact j_iret (pc := 47) X E dX2_rarestLook_47 hF
theorem LX2_rarestLook_22 {Z : ZT} {G : GT} {r : Int32} {hr : Hp} (X : CX Z G cX2_rarestLook RX2 4 6) (E : RX Z G (some .int) (some (.int r)) hr) (hz : HZ Z)  : ∀ (n : Nat) (x2 : Int32) (x3 : Int32) (h : Hp), lX2_rarestLook_22   n x2 x3 h = some (r, hr) → J Z G 4 h 22 [(0, .ref (Z.2.1 181)), (2, .int x2), (3, .int x3)] [] := by
  intro n
  induction n with
  | zero => intro x2 x3 h hF; cases hF
  | succ n ih => intro x2 x3 h hF; exact BX2_rarestLook_22 X E hz  (lX2_rarestLook_22   n) ih x2 x3 h hF
def fX2_rarestLook (a1 : Int32) (a2 : Int32) (h : Hp) : Option (Int32 × Hp) := bv (fX3_arrange a1 h) (fun h1 => bv (fX1_walk 182 1 59 0 h1) (fun h2 => lt 20 (fun v3 => lX2_rarestLook_22 FU a2 v3 h2)))
set_option maxRecDepth 20000 in
theorem tX2_rarestLook (Z : ZT) (a1 : Int32) (a2 : Int32) (hz : HZ Z) (h : Hp) (r : Int32) (hr : Hp) (hF : fX2_rarestLook a1 a2 h = some (r, hr)) : MC Z yX2_rarestLook cX2_rarestLook 4 (some .int) 6 [.ref (Z.2.1 181), .int a1, .int a2] h (some (.int r)) hr := by
  unfold fX2_rarestLook at hF
  refine mc_start (by decide) (Nat.le_of_ble_eq_true rfl) (fun G X E => ?_)
  refine j_aload_n (pc := 0) 0 X dX2_rarestLook_0 rfl ?_
  refine j_getr (pc := 1) X dX2_rarestLook_1 (hz _ sh_181) fl_X2_15 rfl ?_
  refine j_iload_n (pc := 4) 1 X dX2_rarestLook_4 rfl ?_
  refine j_cVv (pc := 5) (As := [.int a1]) (rest := []) X dX2_rarestLook_5 ml_X2_38 ck_X3_arrange cv_X3_arrange (hz _ sh_152) rfl (Nat.le_of_ble_eq_true rfl) rfl (Nat.le_of_ble_eq_true rfl) rfl hF (tX3_arrange Z a1 hz h) (fun h1 hF => ?_)
  refine j_aload_n (pc := 8) 0 X dX2_rarestLook_8 rfl ?_
  refine j_getr (pc := 9) X dX2_rarestLook_9 (hz _ sh_181) fl_X2_28 rfl ?_
  refine j_iconst (pc := 12) 1 X dX2_rarestLook_12 rfl ?_
  refine j_bipush (pc := 13) 59 X dX2_rarestLook_13 rfl ?_
  refine j_iconst (pc := 15) 0 X dX2_rarestLook_15 rfl ?_
  refine j_cVv (pc := 16) (As := [.int 1, .int 59, .int 0]) (rest := []) X dX2_rarestLook_16 ml_X2_44 ck_X1_walk cv_X1_walk (hz _ sh_182) rfl (Nat.le_of_ble_eq_true rfl) rfl (Nat.le_of_ble_eq_true rfl) rfl hF (tX1_walk Z 182 isC_182 1 59 0 hz h1) (fun h2 hF => ?_)
  refine j_bipush (pc := 19) 20 X dX2_rarestLook_19 rfl ?_
  refine j_istore_n (pc := 21) (fun y => [(3, .int y), (0, .ref (Z.2.1 181)), (1, .int a1), (2, .int a2)]) X dX2_rarestLook_21 (by decide) (fun _ => rfl) hF (fun v3 hF => ?_)
  refine j_lv [(0, .ref (Z.2.1 181)), (2, .int a2), (3, .int v3)] [1, 3, 0] rfl ?_
  exact LX2_rarestLook_22 X E hz FU a2 v3 h2 hF
theorem dX6_ruled_0 : decode cX6_ruled 0 = .ok (.iload_n 1, 1) := by decide +kernel
theorem dX6_ruled_1 : decode cX6_ruled 1 = .ok (.bipush 22, 2) := by decide +kernel
theorem dX6_ruled_3 : decode cX6_ruled 3 = .ok (.isub, 1) := by decide +kernel
theorem dX6_ruled_4 : decode cX6_ruled 4 = .ok (.istore 6, 2) := by decide +kernel
theorem dX6_ruled_6 : decode cX6_ruled 6 = .ok (.aload_n 0, 1) := by decide +kernel
theorem dX6_ruled_7 : decode cX6_ruled 7 = .ok (.getfield 24, 3) := by decide +kernel
theorem dX6_ruled_10 : decode cX6_ruled 10 = .ok (.getfield 45, 3) := by decide +kernel
theorem dX6_ruled_13 : decode cX6_ruled 13 = .ok (.iload 6, 2) := by decide +kernel
theorem dX6_ruled_15 : decode cX6_ruled 15 = .ok (.iaload, 1) := by decide +kernel
theorem dX6_ruled_16 : decode cX6_ruled 16 = .ok (.ifCond .ge 15, 3) := by decide +kernel
theorem dX6_ruled_19 : decode cX6_ruled 19 = .ok (.iload_n 1, 1) := by decide +kernel
theorem dX6_ruled_20 : decode cX6_ruled 20 = .ok (.bipush 23, 2) := by decide +kernel
theorem dX6_ruled_22 : decode cX6_ruled 22 = .ok (.if_icmp .ne 7, 3) := by decide +kernel
theorem dX6_ruled_25 : decode cX6_ruled 25 = .ok (.iconst 1, 1) := by decide +kernel
theorem dX6_ruled_26 : decode cX6_ruled 26 = .ok (.goto 4, 3) := by decide +kernel
theorem dX6_ruled_29 : decode cX6_ruled 29 = .ok (.iconst 0, 1) := by decide +kernel
theorem dX6_ruled_30 : decode cX6_ruled 30 = .ok (.ireturn, 1) := by decide +kernel
theorem dX6_ruled_31 : decode cX6_ruled 31 = .ok (.aload_n 0, 1) := by decide +kernel
theorem dX6_ruled_32 : decode cX6_ruled 32 = .ok (.getfield 15, 3) := by decide +kernel
theorem dX6_ruled_35 : decode cX6_ruled 35 = .ok (.iconst 0, 1) := by decide +kernel
theorem dX6_ruled_36 : decode cX6_ruled 36 = .ok (.iload_n 2, 1) := by decide +kernel
theorem dX6_ruled_37 : decode cX6_ruled 37 = .ok (.iastore, 1) := by decide +kernel
theorem dX6_ruled_38 : decode cX6_ruled 38 = .ok (.aload_n 0, 1) := by decide +kernel
theorem dX6_ruled_39 : decode cX6_ruled 39 = .ok (.getfield 15, 3) := by decide +kernel
theorem dX6_ruled_42 : decode cX6_ruled 42 = .ok (.iconst 1, 1) := by decide +kernel
theorem dX6_ruled_43 : decode cX6_ruled 43 = .ok (.iload_n 3, 1) := by decide +kernel
theorem dX6_ruled_44 : decode cX6_ruled 44 = .ok (.iastore, 1) := by decide +kernel
theorem dX6_ruled_45 : decode cX6_ruled 45 = .ok (.aload_n 0, 1) := by decide +kernel
theorem dX6_ruled_46 : decode cX6_ruled 46 = .ok (.getfield 15, 3) := by decide +kernel
theorem dX6_ruled_49 : decode cX6_ruled 49 = .ok (.iconst 2, 1) := by decide +kernel
theorem dX6_ruled_50 : decode cX6_ruled 50 = .ok (.iload 4, 2) := by decide +kernel
theorem dX6_ruled_52 : decode cX6_ruled 52 = .ok (.iastore, 1) := by decide +kernel
theorem dX6_ruled_53 : decode cX6_ruled 53 = .ok (.aload_n 0, 1) := by decide +kernel
theorem dX6_ruled_54 : decode cX6_ruled 54 = .ok (.getfield 15, 3) := by decide +kernel
theorem dX6_ruled_57 : decode cX6_ruled 57 = .ok (.iconst 3, 1) := by decide +kernel
theorem dX6_ruled_58 : decode cX6_ruled 58 = .ok (.iload 5, 2) := by decide +kernel
theorem dX6_ruled_60 : decode cX6_ruled 60 = .ok (.iastore, 1) := by decide +kernel
theorem dX6_ruled_61 : decode cX6_ruled 61 = .ok (.aload_n 0, 1) := by decide +kernel
theorem dX6_ruled_62 : decode cX6_ruled 62 = .ok (.aload_n 0, 1) := by decide +kernel
theorem dX6_ruled_63 : decode cX6_ruled 63 = .ok (.getfield 24, 3) := by decide +kernel
theorem dX6_ruled_66 : decode cX6_ruled 66 = .ok (.getfield 45, 3) := by decide +kernel
theorem dX6_ruled_69 : decode cX6_ruled 69 = .ok (.iload 6, 2) := by decide +kernel
theorem dX6_ruled_71 : decode cX6_ruled 71 = .ok (.iaload, 1) := by decide +kernel
theorem dX6_ruled_72 : decode cX6_ruled 72 = .ok (.aload_n 0, 1) := by decide +kernel
theorem dX6_ruled_73 : decode cX6_ruled 73 = .ok (.getfield 24, 3) := by decide +kernel
theorem dX6_ruled_76 : decode cX6_ruled 76 = .ok (.getfield 48, 3) := by decide +kernel
theorem dX6_ruled_79 : decode cX6_ruled 79 = .ok (.iload 6, 2) := by decide +kernel
theorem dX6_ruled_81 : decode cX6_ruled 81 = .ok (.iaload, 1) := by decide +kernel
theorem dX6_ruled_82 : decode cX6_ruled 82 = .ok (.invokevirtual 51, 3) := by decide +kernel
theorem dX6_ruled_85 : decode cX6_ruled 85 = .ok (.istore 7, 2) := by decide +kernel
theorem dX6_ruled_87 : decode cX6_ruled 87 = .ok (.aload_n 0, 1) := by decide +kernel
theorem dX6_ruled_88 : decode cX6_ruled 88 = .ok (.getfield 54, 3) := by decide +kernel
theorem dX6_ruled_91 : decode cX6_ruled 91 = .ok (.ifCond .eq 7, 3) := by decide +kernel
theorem dX6_ruled_94 : decode cX6_ruled 94 = .ok (.iconst 0, 1) := by decide +kernel
theorem dX6_ruled_95 : decode cX6_ruled 95 = .ok (.goto 5, 3) := by decide +kernel
theorem dX6_ruled_98 : decode cX6_ruled 98 = .ok (.iload 7, 2) := by decide +kernel
theorem dX6_ruled_100 : decode cX6_ruled 100 = .ok (.ireturn, 1) := by decide +kernel
def fX6_ruled (a1 : Int32) (a2 : Int32) (a3 : Int32) (a4 : Int32) (a5 : Int32) (h : Hp) : Option (Int32 × Hp) := lt (a1 - 22) (fun v1 => ck (inb v1 3) ((if 0 ≤ (h.1 113 (ix v1)) then ck (inb 0 4) (lt (wI h 149 (ix 0) a2) (fun h2 => ck (inb 1 4) (lt (wI h2 149 (ix 1) a3) (fun h3 => ck (inb 2 4) (lt (wI h3 149 (ix 2) a4) (fun h4 => ck (inb 3 4) (lt (wI h4 149 (ix 3) a5) (fun h5 => ck (inb v1 3) (ck (inb v1 3) (bi (fX6_execute (h5.1 113 (ix v1)) (h5.1 114 (ix v1)) h5) (fun w7 h6 => lt w7 (fun v8 => (if (h6.1 147 7) = 0 then some (v8, h6) else some (0, h6)))))))))))))) else (if a1 = 23 then some (1, h) else some (0, h)))))
set_option maxRecDepth 20000 in
theorem tX6_ruled (Z : ZT) (a1 : Int32) (a2 : Int32) (a3 : Int32) (a4 : Int32) (a5 : Int32) (hz : HZ Z) (h : Hp) (r : Int32) (hr : Hp) (hF : fX6_ruled a1 a2 a3 a4 a5 h = some (r, hr)) : MC Z yX6_ruled cX6_ruled 8 (some .int) 2 [.ref (Z.2.1 147), .int a1, .int a2, .int a3, .int a4, .int a5] h (some (.int r)) hr := by
  unfold fX6_ruled at hF
  refine mc_start (by decide) (Nat.le_of_ble_eq_true rfl) (fun G X E => ?_)
  refine j_iload_n (pc := 0) 1 X dX6_ruled_0 rfl ?_
  refine j_bipush (pc := 1) 22 X dX6_ruled_1 rfl ?_
  refine j_isub (pc := 3) X dX6_ruled_3 ?_
  refine j_istore (pc := 4) (fun y => [(6, .int y), (0, .ref (Z.2.1 147)), (1, .int a1), (2, .int a2), (3, .int a3), (4, .int a4), (5, .int a5)]) X dX6_ruled_4 (by decide) (fun _ => rfl) hF (fun v1 hF => ?_)
  refine j_aload_n (pc := 6) 1 X dX6_ruled_6 rfl ?_
  refine j_getr (pc := 7) X dX6_ruled_7 (hz _ sh_147) fl_X6_24 rfl ?_
  refine j_getr (pc := 10) X dX6_ruled_10 (hz _ sh_108) fl_X6_45 rfl ?_
  refine j_iload (pc := 13) 0 X dX6_ruled_13 rfl ?_
  refine j_iald (pc := 15) X dX6_ruled_15 (hz _ sh_113) hF (fun hF => ?_)
  refine j_if_ge (pc := 16) 31 X dX6_ruled_16 rfl hF (fun hF => ?_) (fun hF => ?_)
  · refine j_aload_n (pc := 31) 1 X dX6_ruled_31 rfl ?_
    refine j_getr (pc := 32) X dX6_ruled_32 (hz _ sh_147) fl_X6_15 rfl ?_
    refine j_iconst (pc := 35) 0 X dX6_ruled_35 rfl ?_
    refine j_iload_n (pc := 36) 3 X dX6_ruled_36 rfl ?_
    refine j_iast (pc := 37) X dX6_ruled_37 (hz _ sh_149) hF (fun h2 hF => ?_)
    refine j_aload_n (pc := 38) 1 X dX6_ruled_38 rfl ?_
    refine j_getr (pc := 39) X dX6_ruled_39 (hz _ sh_147) fl_X6_15 rfl ?_
    refine j_iconst (pc := 42) 1 X dX6_ruled_42 rfl ?_
    refine j_iload_n (pc := 43) 4 X dX6_ruled_43 rfl ?_
    refine j_iast (pc := 44) X dX6_ruled_44 (hz _ sh_149) hF (fun h3 hF => ?_)
    refine j_aload_n (pc := 45) 1 X dX6_ruled_45 rfl ?_
    refine j_getr (pc := 46) X dX6_ruled_46 (hz _ sh_147) fl_X6_15 rfl ?_
    refine j_iconst (pc := 49) 2 X dX6_ruled_49 rfl ?_
    refine j_iload (pc := 50) 5 X dX6_ruled_50 rfl ?_
    refine j_iast (pc := 52) X dX6_ruled_52 (hz _ sh_149) hF (fun h4 hF => ?_)
    refine j_aload_n (pc := 53) 1 X dX6_ruled_53 rfl ?_
    refine j_getr (pc := 54) X dX6_ruled_54 (hz _ sh_147) fl_X6_15 rfl ?_
    refine j_iconst (pc := 57) 3 X dX6_ruled_57 rfl ?_
    refine j_iload (pc := 58) 6 X dX6_ruled_58 rfl ?_
    refine j_iast (pc := 60) X dX6_ruled_60 (hz _ sh_149) hF (fun h5 hF => ?_)
    refine j_aload_n (pc := 61) 1 X dX6_ruled_61 rfl ?_
    refine j_aload_n (pc := 62) 1 X dX6_ruled_62 rfl ?_
    refine j_getr (pc := 63) X dX6_ruled_63 (hz _ sh_147) fl_X6_24 rfl ?_
    refine j_getr (pc := 66) X dX6_ruled_66 (hz _ sh_108) fl_X6_45 rfl ?_
    refine j_iload (pc := 69) 0 X dX6_ruled_69 rfl ?_
    refine j_iald (pc := 71) X dX6_ruled_71 (hz _ sh_113) hF (fun hF => ?_)
    refine j_aload_n (pc := 72) 1 X dX6_ruled_72 rfl ?_
    refine j_getr (pc := 73) X dX6_ruled_73 (hz _ sh_147) fl_X6_24 rfl ?_
    refine j_getr (pc := 76) X dX6_ruled_76 (hz _ sh_108) fl_X6_48 rfl ?_
    refine j_iload (pc := 79) 0 X dX6_ruled_79 rfl ?_
    refine j_iald (pc := 81) X dX6_ruled_81 (hz _ sh_114) hF (fun hF => ?_)
    refine j_cVi (pc := 82) (As := [.int (h5.1 113 (ix v1)), .int (h5.1 114 (ix v1))]) (rest := []) X dX6_ruled_82 ml_X6_51 ck_X6_execute cv_X6_execute (hz _ sh_147) rfl (Nat.le_of_ble_eq_true rfl) rfl (Nat.le_of_ble_eq_true rfl) rfl hF (tX6_execute Z (h5.1 113 (ix v1)) (h5.1 114 (ix v1)) hz h5) (fun w7 h6 hF => ?_)
    refine j_istore (pc := 85) (fun y => [(7, .int y), (6, .int v1), (0, .ref (Z.2.1 147)), (1, .int a1), (2, .int a2), (3, .int a3), (4, .int a4), (5, .int a5)]) X dX6_ruled_85 (by decide) (fun _ => rfl) hF (fun v8 hF => ?_)
    refine j_aload_n (pc := 87) 2 X dX6_ruled_87 rfl ?_
    refine j_geti (pc := 88) X dX6_ruled_88 (hz _ sh_147) fl_X6_54 rfl ?_
    refine j_if_eq (pc := 91) 98 X dX6_ruled_91 rfl hF (fun hF => ?_) (fun hF => ?_)
    · refine j_iload (pc := 98) 0 X dX6_ruled_98 rfl ?_
      exact j_iret (pc := 100) X E dX6_ruled_100 hF
    · refine j_iconst (pc := 94) 0 X dX6_ruled_94 rfl ?_
      refine j_goto (pc := 95) 100 X dX6_ruled_95 rfl ?_
      exact j_iret (pc := 100) X E dX6_ruled_100 hF
  · refine j_iload_n (pc := 19) 2 X dX6_ruled_19 rfl ?_
    refine j_bipush (pc := 20) 23 X dX6_ruled_20 rfl ?_
    refine j_icmp_ne (pc := 22) 29 X dX6_ruled_22 rfl hF (fun hF => ?_) (fun hF => ?_)
    · refine j_iconst (pc := 29) 0 X dX6_ruled_29 rfl ?_
      exact j_iret (pc := 30) X E dX6_ruled_30 hF
    · refine j_iconst (pc := 25) 1 X dX6_ruled_25 rfl ?_
      refine j_goto (pc := 26) 30 X dX6_ruled_26 rfl ?_
      exact j_iret (pc := 30) X E dX6_ruled_30 hF
theorem dX11_keepTo_0 : decode cX11_keepTo 0 = .ok (.iconst 0, 1) := by decide +kernel
theorem dX11_keepTo_1 : decode cX11_keepTo 1 = .ok (.iload_n 1, 1) := by decide +kernel
theorem dX11_keepTo_2 : decode cX11_keepTo 2 = .ok (.iload_n 0, 1) := by decide +kernel
theorem dX11_keepTo_3 : decode cX11_keepTo 3 = .ok (.invokestatic 94, 3) := by decide +kernel
theorem dX11_keepTo_6 : decode cX11_keepTo 6 = .ok (.invokestatic 100, 3) := by decide +kernel
theorem dX11_keepTo_9 : decode cX11_keepTo 9 = .ok (.ireturn, 1) := by decide +kernel
def fX11_keepTo (a1 : Int32) (a2 : Int32) (h : Hp) : Option (Int32 × Hp) := some ((if 0 < (if a1 < a2 then a1 else a2) then (if a1 < a2 then a1 else a2) else 0), h)
set_option maxRecDepth 20000 in
theorem tX11_keepTo (Z : ZT) (a1 : Int32) (a2 : Int32) (hz : True) (h : Hp) (r : Int32) (hr : Hp) (hF : fX11_keepTo a1 a2 h = some (r, hr)) : MC Z yX11_keepTo cX11_keepTo 2 (some .int) 1 [.int a1, .int a2] h (some (.int r)) hr := by
  unfold fX11_keepTo at hF
  refine mc_start (by decide) (Nat.le_of_ble_eq_true rfl) (fun G X E => ?_)
  refine j_iconst (pc := 0) 0 X dX11_keepTo_0 rfl ?_
  refine j_iload_n (pc := 1) 1 X dX11_keepTo_1 rfl ?_
  refine j_iload_n (pc := 2) 0 X dX11_keepTo_2 rfl ?_
  refine j_mmin (pc := 3) X dX11_keepTo_3 ml_X11_94 mm_min (Nat.le_of_ble_eq_true rfl) (Nat.le_of_ble_eq_true rfl) ?_
  refine j_mmax (pc := 6) X dX11_keepTo_6 ml_X11_100 mm_max (Nat.le_of_ble_eq_true rfl) (Nat.le_of_ble_eq_true rfl) ?_
  exact j_iret (pc := 9) X E dX11_keepTo_9 hF
theorem dX6_gainIn_0 : decode cX6_gainIn 0 = .ok (.aload_n 0, 1) := by decide +kernel
theorem dX6_gainIn_1 : decode cX6_gainIn 1 = .ok (.bipush 24, 2) := by decide +kernel
theorem dX6_gainIn_3 : decode cX6_gainIn 3 = .ok (.iload_n 1, 1) := by decide +kernel
theorem dX6_gainIn_4 : decode cX6_gainIn 4 = .ok (.iconst 0, 1) := by decide +kernel
theorem dX6_gainIn_5 : decode cX6_gainIn 5 = .ok (.iload_n 2, 1) := by decide +kernel
theorem dX6_gainIn_6 : decode cX6_gainIn 6 = .ok (.iload_n 3, 1) := by decide +kernel
theorem dX6_gainIn_7 : decode cX6_gainIn 7 = .ok (.invokevirtual 37, 3) := by decide +kernel
theorem dX6_gainIn_10 : decode cX6_gainIn 10 = .ok (.sipush 999, 3) := by decide +kernel
theorem dX6_gainIn_13 : decode cX6_gainIn 13 = .ok (.invokestatic 41, 3) := by decide +kernel
theorem dX6_gainIn_16 : decode cX6_gainIn 16 = .ok (.ireturn, 1) := by decide +kernel
def fX6_gainIn (a1 : Int32) (a2 : Int32) (a3 : Int32) (h : Hp) : Option (Int32 × Hp) := bi (fX6_ruled 24 a1 0 a2 a3 h) (fun w2 h1 => bi (fX11_keepTo w2 999 h1) (fun w4 h3 => some (w4, h3)))
set_option maxRecDepth 20000 in
theorem tX6_gainIn (Z : ZT) (a1 : Int32) (a2 : Int32) (a3 : Int32) (hz : HZ Z) (h : Hp) (r : Int32) (hr : Hp) (hF : fX6_gainIn a1 a2 a3 h = some (r, hr)) : MC Z yX6_gainIn cX6_gainIn 4 (some .int) 3 [.ref (Z.2.1 147), .int a1, .int a2, .int a3] h (some (.int r)) hr := by
  unfold fX6_gainIn at hF
  refine mc_start (by decide) (Nat.le_of_ble_eq_true rfl) (fun G X E => ?_)
  refine j_aload_n (pc := 0) 0 X dX6_gainIn_0 rfl ?_
  refine j_bipush (pc := 1) 24 X dX6_gainIn_1 rfl ?_
  refine j_iload_n (pc := 3) 1 X dX6_gainIn_3 rfl ?_
  refine j_iconst (pc := 4) 0 X dX6_gainIn_4 rfl ?_
  refine j_iload_n (pc := 5) 2 X dX6_gainIn_5 rfl ?_
  refine j_iload_n (pc := 6) 3 X dX6_gainIn_6 rfl ?_
  refine j_cVi (pc := 7) (As := [.int 24, .int a1, .int 0, .int a2, .int a3]) (rest := []) X dX6_gainIn_7 ml_X6_37 ck_X6_ruled cv_X6_ruled (hz _ sh_147) rfl (Nat.le_of_ble_eq_true rfl) rfl (Nat.le_of_ble_eq_true rfl) rfl hF (tX6_ruled Z 24 a1 0 a2 a3 hz h) (fun w2 h1 hF => ?_)
  refine j_sipush (pc := 10) 999 X dX6_gainIn_10 rfl ?_
  refine j_cSNi (pc := 13) (As := [.int w2, .int 999]) (rest := []) X dX6_gainIn_13 ml_X6_41 ck_X11_keepTo sk_X11_keepTo (Nat.le_of_ble_eq_true rfl) rfl (Nat.le_of_ble_eq_true rfl) rfl hF (tX11_keepTo Z w2 999 trivial h1) (fun w4 h3 hF => ?_)
  exact j_iret (pc := 16) X E dX6_gainIn_16 hF
