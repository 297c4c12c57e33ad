theorem dX12_lookFrom_0 : decode cX12_lookFrom 0 = .ok (.iload_n 3, 1) := by decide +kernel
theorem dX12_lookFrom_1 : decode cX12_lookFrom 1 = .ok (.istore 4, 2) := by decide +kernel
theorem dX12_lookFrom_3 : decode cX12_lookFrom 3 = .ok (.iconst 1, 1) := by decide +kernel
theorem dX12_lookFrom_4 : decode cX12_lookFrom 4 = .ok (.istore 5, 2) := by decide +kernel
theorem dX12_lookFrom_6 : decode cX12_lookFrom 6 = .ok (.iload 5, 2) := by decide +kernel
theorem dX12_lookFrom_8 : decode cX12_lookFrom 8 = .ok (.ifCond .eq 76, 3) := by decide +kernel
theorem dX12_lookFrom_11 : decode cX12_lookFrom 11 = .ok (.iconst 0, 1) := by decide +kernel
theorem dX12_lookFrom_12 : decode cX12_lookFrom 12 = .ok (.istore 5, 2) := by decide +kernel
theorem dX12_lookFrom_14 : decode cX12_lookFrom 14 = .ok (.iconst 0, 1) := by decide +kernel
theorem dX12_lookFrom_15 : decode cX12_lookFrom 15 = .ok (.istore 6, 2) := by decide +kernel
theorem dX12_lookFrom_17 : decode cX12_lookFrom 17 = .ok (.iload 6, 2) := by decide +kernel
theorem dX12_lookFrom_19 : decode cX12_lookFrom 19 = .ok (.aload_n 0, 1) := by decide +kernel
theorem dX12_lookFrom_20 : decode cX12_lookFrom 20 = .ok (.getfield 67, 3) := by decide +kernel
theorem dX12_lookFrom_23 : decode cX12_lookFrom 23 = .ok (.aload_n 0, 1) := by decide +kernel
theorem dX12_lookFrom_24 : decode cX12_lookFrom 24 = .ok (.getfield 284, 3) := by decide +kernel
theorem dX12_lookFrom_27 : decode cX12_lookFrom 27 = .ok (.iaload, 1) := by decide +kernel
theorem dX12_lookFrom_28 : decode cX12_lookFrom 28 = .ok (.if_icmp .ge 53, 3) := by decide +kernel
theorem dX12_lookFrom_31 : decode cX12_lookFrom 31 = .ok (.iload 5, 2) := by decide +kernel
theorem dX12_lookFrom_33 : decode cX12_lookFrom 33 = .ok (.ifCond .ne 48, 3) := by decide +kernel
theorem dX12_lookFrom_36 : decode cX12_lookFrom 36 = .ok (.iload 4, 2) := by decide +kernel
theorem dX12_lookFrom_38 : decode cX12_lookFrom 38 = .ok (.iload 6, 2) := by decide +kernel
theorem dX12_lookFrom_40 : decode cX12_lookFrom 40 = .ok (.ishr, 1) := by decide +kernel
theorem dX12_lookFrom_41 : decode cX12_lookFrom 41 = .ok (.iconst 1, 1) := by decide +kernel
theorem dX12_lookFrom_42 : decode cX12_lookFrom 42 = .ok (.iand, 1) := by decide +kernel
theorem dX12_lookFrom_43 : decode cX12_lookFrom 43 = .ok (.iconst 1, 1) := by decide +kernel
theorem dX12_lookFrom_44 : decode cX12_lookFrom 44 = .ok (.if_icmp .eq 31, 3) := by decide +kernel
theorem dX12_lookFrom_47 : decode cX12_lookFrom 47 = .ok (.aload_n 0, 1) := by decide +kernel
theorem dX12_lookFrom_48 : decode cX12_lookFrom 48 = .ok (.iload 6, 2) := by decide +kernel
theorem dX12_lookFrom_50 : decode cX12_lookFrom 50 = .ok (.iload_n 1, 1) := by decide +kernel
theorem dX12_lookFrom_51 : decode cX12_lookFrom 51 = .ok (.iload_n 2, 1) := by decide +kernel
theorem dX12_lookFrom_52 : decode cX12_lookFrom 52 = .ok (.iload 4, 2) := by decide +kernel
theorem dX12_lookFrom_54 : decode cX12_lookFrom 54 = .ok (.invokevirtual 534, 3) := by decide +kernel
theorem dX12_lookFrom_57 : decode cX12_lookFrom 57 = .ok (.ifCond .ne 6, 3) := by decide +kernel
theorem dX12_lookFrom_60 : decode cX12_lookFrom 60 = .ok (.goto 15, 3) := by decide +kernel
theorem dX12_lookFrom_63 : decode cX12_lookFrom 63 = .ok (.iload 4, 2) := by decide +kernel
theorem dX12_lookFrom_65 : decode cX12_lookFrom 65 = .ok (.iconst 1, 1) := by decide +kernel
theorem dX12_lookFrom_66 : decode cX12_lookFrom 66 = .ok (.iload 6, 2) := by decide +kernel
theorem dX12_lookFrom_68 : decode cX12_lookFrom 68 = .ok (.ishl, 1) := by decide +kernel
theorem dX12_lookFrom_69 : decode cX12_lookFrom 69 = .ok (.ior, 1) := by decide +kernel
theorem dX12_lookFrom_70 : decode cX12_lookFrom 70 = .ok (.istore 4, 2) := by decide +kernel
theorem dX12_lookFrom_72 : decode cX12_lookFrom 72 = .ok (.iconst 1, 1) := by decide +kernel
theorem dX12_lookFrom_73 : decode cX12_lookFrom 73 = .ok (.istore 5, 2) := by decide +kernel
theorem dX12_lookFrom_75 : decode cX12_lookFrom 75 = .ok (.iinc 6 1, 3) := by decide +kernel
theorem dX12_lookFrom_78 : decode cX12_lookFrom 78 = .ok (.goto (-61), 3) := by decide +kernel
theorem dX12_lookFrom_81 : decode cX12_lookFrom 81 = .ok (.goto (-75), 3) := by decide +kernel
theorem dX12_lookFrom_84 : decode cX12_lookFrom 84 = .ok (.iload 4, 2) := by decide +kernel
theorem dX12_lookFrom_86 : decode cX12_lookFrom 86 = .ok (.ireturn, 1) := by decide +kernel
def bX12_lookFrom_75  (r6 : Int32 → Int32 → Int32 → Int32 → Hp → Option (Int32 × Hp)) (r17 : Int32 → Int32 → Int32 → Int32 → Int32 → Hp → Option (Int32 × Hp)) (x1 : Int32) (x2 : Int32) (x4 : Int32) (x5 : Int32) (x6 : Int32) (h : Hp) : Option (Int32 × Hp) := lt (x6 + 1) (fun v1 => r17 x1 x2 x4 x5 v1 h)
set_option maxRecDepth 20000 in
theorem BX12_lookFrom_75 {Z : ZT} {G : GT} {r : Int32} {hr : Hp} (X : CX Z G cX12_lookFrom RX12 7 5) (E : RX Z G (some .int) (some (.int r)) hr) (hz : HZM Z) (r6 : Int32 → Int32 → Int32 → Int32 → Hp → Option (Int32 × Hp)) (hr6 : ∀ (x1 : Int32) (x2 : Int32) (x4 : Int32) (x5 : Int32) (h : Hp), r6 x1 x2 x4 x5 h = some (r, hr) → J Z G 7 h 6 [(0, .ref (Z.2.1 0)), (1, .int x1), (2, .int x2), (4, .int x4), (5, .int x5)] []) (r17 : Int32 → Int32 → Int32 → Int32 → Int32 → Hp → Option (Int32 × Hp)) (hr17 : ∀ (x1 : Int32) (x2 : Int32) (x4 : Int32) (x5 : Int32) (x6 : Int32) (h : Hp), r17 x1 x2 x4 x5 x6 h = some (r, hr) → J Z G 7 h 17 [(0, .ref (Z.2.1 0)), (1, .int x1), (2, .int x2), (4, .int x4), (5, .int x5), (6, .int x6)] []) (x1 : Int32) (x2 : Int32) (x4 : Int32) (x5 : Int32) (x6 : Int32) (h : Hp) (hF : bX12_lookFrom_75  r6 r17 x1 x2 x4 x5 x6 h = some (r, hr)) : J Z G 7 h 75 [(0, .ref (Z.2.1 0)), (1, .int x1), (2, .int x2), (4, .int x4), (5, .int x5), (6, .int x6)] [] := by
  unfold bX12_lookFrom_75 at hF
  refine j_iinc (pc := 75) 5 (x6 + 1) (fun y => [(6, .int y), (0, .ref (Z.2.1 0)), (1, .int x1), (2, .int x2), (4, .int x4), (5, .int x5)]) X dX12_lookFrom_75 rfl rfl (by decide) (fun _ => rfl) hF (fun v1 hF => ?_)
  refine j_goto (pc := 78) 17 X dX12_lookFrom_78 rfl ?_
  refine j_lv [(0, .ref (Z.2.1 0)), (1, .int x1), (2, .int x2), (4, .int x4), (5, .int x5), (6, .int v1)] [1, 2, 3, 4, 5, 0] rfl ?_
  exact hr17 x1 x2 x4 x5 v1 h hF
def bX12_lookFrom_81  (r6 : Int32 → Int32 → Int32 → Int32 → Hp → Option (Int32 × Hp)) (x1 : Int32) (x2 : Int32) (x4 : Int32) (x5 : Int32) (h : Hp) : Option (Int32 × Hp) := r6 x1 x2 x4 x5 h
set_option maxRecDepth 20000 in
theorem BX12_lookFrom_81 {Z : ZT} {G : GT} {r : Int32} {hr : Hp} (X : CX Z G cX12_lookFrom RX12 7 5) (E : RX Z G (some .int) (some (.int r)) hr) (hz : HZM Z) (r6 : Int32 → Int32 → Int32 → Int32 → Hp → Option (Int32 × Hp)) (hr6 : ∀ (x1 : Int32) (x2 : Int32) (x4 : Int32) (x5 : Int32) (h : Hp), r6 x1 x2 x4 x5 h = some (r, hr) → J Z G 7 h 6 [(0, .ref (Z.2.1 0)), (1, .int x1), (2, .int x2), (4, .int x4), (5, .int x5)] []) (x1 : Int32) (x2 : Int32) (x4 : Int32) (x5 : Int32) (h : Hp) (hF : bX12_lookFrom_81  r6 x1 x2 x4 x5 h = some (r, hr)) : J Z G 7 h 81 [(0, .ref (Z.2.1 0)), (1, .int x1), (2, .int x2), (4, .int x4), (5, .int x5)] [] := by
  unfold bX12_lookFrom_81 at hF
  refine j_goto (pc := 81) 6 X dX12_lookFrom_81 rfl ?_
  exact hr6 x1 x2 x4 x5 h hF
def bX12_lookFrom_17  (r6 : Int32 → Int32 → Int32 → Int32 → Hp → Option (Int32 × Hp)) (r17 : Int32 → Int32 → Int32 → Int32 → Int32 → Hp → Option (Int32 × Hp)) (x1 : Int32) (x2 : Int32) (x4 : Int32) (x5 : Int32) (x6 : Int32) (h : Hp) : Option (Int32 × Hp) := ck (inb (h.1 0 18) 2) ((if (h.1 17 (ix (h.1 0 18))) ≤ x6 then bX12_lookFrom_81 r6 x1 x2 x4 x5 h else (if x5 = 0 then (if ((x4 >>> (x6 &&& 31)) &&& 1) = 1 then bX12_lookFrom_75 r6 r17 x1 x2 x4 x5 x6 h else bi (fX12_mayBeOpened x6 x1 x2 x4 h) (fun w2 h1 => (if w2 = 0 then bX12_lookFrom_75 r6 r17 x1 x2 x4 x5 x6 h1 else lt (x4 ||| ((1 : Int32) <<< (x6 &&& 31))) (fun v3 => lt 1 (fun v4 => bX12_lookFrom_75 r6 r17 x1 x2 v3 v4 x6 h1))))) else bX12_lookFrom_81 r6 x1 x2 x4 x5 h)))
def lX12_lookFrom_17  (r6 : Int32 → Int32 → Int32 → Int32 → Hp → Option (Int32 × Hp)) : Nat → Int32 → Int32 → Int32 → Int32 → Int32 → Hp → Option (Int32 × Hp)
  | 0 => fun _ _ _ _ _ _ => none
  | n + 1 => bX12_lookFrom_17  r6 (lX12_lookFrom_17  r6 n)
set_option maxRecDepth 20000 in
theorem BX12_lookFrom_17 {Z : ZT} {G : GT} {r : Int32} {hr : Hp} (X : CX Z G cX12_lookFrom RX12 7 5) (E : RX Z G (some .int) (some (.int r)) hr) (hz : HZM Z) (r6 : Int32 → Int32 → Int32 → Int32 → Hp → Option (Int32 × Hp)) (hr6 : ∀ (x1 : Int32) (x2 : Int32) (x4 : Int32) (x5 : Int32) (h : Hp), r6 x1 x2 x4 x5 h = some (r, hr) → J Z G 7 h 6 [(0, .ref (Z.2.1 0)), (1, .int x1), (2, .int x2), (4, .int x4), (5, .int x5)] []) (r17 : Int32 → Int32 → Int32 → Int32 → Int32 → Hp → Option (Int32 × Hp)) (hr17 : ∀ (x1 : Int32) (x2 : Int32) (x4 : Int32) (x5 : Int32) (x6 : Int32) (h : Hp), r17 x1 x2 x4 x5 x6 h = some (r, hr) → J Z G 7 h 17 [(0, .ref (Z.2.1 0)), (1, .int x1), (2, .int x2), (4, .int x4), (5, .int x5), (6, .int x6)] []) (x1 : Int32) (x2 : Int32) (x4 : Int32) (x5 : Int32) (x6 : Int32) (h : Hp) (hF : bX12_lookFrom_17  r6 r17 x1 x2 x4 x5 x6 h = some (r, hr)) : J Z G 7 h 17 [(0, .ref (Z.2.1 0)), (1, .int x1), (2, .int x2), (4, .int x4), (5, .int x5), (6, .int x6)] [] := by
  unfold bX12_lookFrom_17 at hF
  refine j_iload (pc := 17) 5 X dX12_lookFrom_17 rfl ?_
  refine j_aload_n (pc := 19) 0 X dX12_lookFrom_19 rfl ?_
  refine j_getr (pc := 20) X dX12_lookFrom_20 (hz _ sh_0) fl_X12_67 rfl ?_
  refine j_aload_n (pc := 23) 0 X dX12_lookFrom_23 rfl ?_
  refine j_geti (pc := 24) X dX12_lookFrom_24 (hz _ sh_0) fl_X12_284 rfl ?_
  refine j_iald (pc := 27) X dX12_lookFrom_27 (hz _ sh_17) hF (fun hF => ?_)
  refine j_icmp_ge (pc := 28) 81 X dX12_lookFrom_28 rfl hF (fun hF => ?_) (fun hF => ?_)
  · refine j_lv [(0, .ref (Z.2.1 0)), (1, .int x1), (2, .int x2), (4, .int x4), (5, .int x5)] [0, 1, 2, 3, 4] rfl ?_
    exact BX12_lookFrom_81 X E hz r6 hr6 x1 x2 x4 x5 h hF
  · refine j_iload (pc := 31) 4 X dX12_lookFrom_31 rfl ?_
    refine j_if_ne (pc := 33) 81 X dX12_lookFrom_33 rfl hF (fun hF => ?_) (fun hF => ?_)
    · refine j_lv [(0, .ref (Z.2.1 0)), (1, .int x1), (2, .int x2), (4, .int x4), (5, .int x5)] [0, 1, 2, 3, 4] rfl ?_
      exact BX12_lookFrom_81 X E hz r6 hr6 x1 x2 x4 x5 h hF
    · refine j_iload (pc := 36) 3 X dX12_lookFrom_36 rfl ?_
      refine j_iload (pc := 38) 5 X dX12_lookFrom_38 rfl ?_
      refine j_ishr (pc := 40) X dX12_lookFrom_40 ?_
      refine j_iconst (pc := 41) 1 X dX12_lookFrom_41 rfl ?_
      refine j_iand (pc := 42) X dX12_lookFrom_42 ?_
      refine j_iconst (pc := 43) 1 X dX12_lookFrom_43 rfl ?_
      refine j_icmp_eq (pc := 44) 75 X dX12_lookFrom_44 rfl hF (fun hF => ?_) (fun hF => ?_)
      · exact BX12_lookFrom_75 X E hz r6 hr6 r17 hr17 x1 x2 x4 x5 x6 h hF
      · refine j_aload_n (pc := 47) 0 X dX12_lookFrom_47 rfl ?_
        refine j_iload (pc := 48) 5 X dX12_lookFrom_48 rfl ?_
        refine j_iload_n (pc := 50) 1 X dX12_lookFrom_50 rfl ?_
        refine j_iload_n (pc := 51) 2 X dX12_lookFrom_51 rfl ?_
        refine j_iload (pc := 52) 3 X dX12_lookFrom_52 rfl ?_
        refine j_cVi (pc := 54) (As := [.int x6, .int x1, .int x2, .int x4]) (rest := []) X dX12_lookFrom_54 ml_X12_534 ck_X12_mayBeOpened cv_X12_mayBeOpened (hz _ sh_0) rfl (Nat.le_of_ble_eq_true rfl) rfl (Nat.le_of_ble_eq_true rfl) rfl hF (tX12_mayBeOpened Z x6 x1 x2 x4 hz h) (fun w2 h1 hF => ?_)
        refine j_if_ne (pc := 57) 63 X dX12_lookFrom_57 rfl hF (fun hF => ?_) (fun hF => ?_)
        · refine j_iload (pc := 63) 3 X dX12_lookFrom_63 rfl ?_
          refine j_iconst (pc := 65) 1 X dX12_lookFrom_65 rfl ?_
          refine j_iload (pc := 66) 5 X dX12_lookFrom_66 rfl ?_
          refine j_ishl (pc := 68) X dX12_lookFrom_68 ?_
          refine j_ior (pc := 69) X dX12_lookFrom_69 ?_
          refine j_istore (pc := 70) (fun y => [(4, .int y), (0, .ref (Z.2.1 0)), (1, .int x1), (2, .int x2), (5, .int x5), (6, .int x6)]) X dX12_lookFrom_70 (by decide) (fun _ => rfl) hF (fun v3 hF => ?_)
          refine j_iconst (pc := 72) 1 X dX12_lookFrom_72 rfl ?_
          refine j_istore (pc := 73) (fun y => [(5, .int y), (4, .int v3), (0, .ref (Z.2.1 0)), (1, .int x1), (2, .int x2), (6, .int x6)]) X dX12_lookFrom_73 (by decide) (fun _ => rfl) hF (fun v4 hF => ?_)
          refine j_lv [(0, .ref (Z.2.1 0)), (1, .int x1), (2, .int x2), (4, .int v3), (5, .int v4), (6, .int x6)] [2, 3, 4, 1, 0, 5] rfl ?_
          exact BX12_lookFrom_75 X E hz r6 hr6 r17 hr17 x1 x2 v3 v4 x6 h1 hF
        · refine j_goto (pc := 60) 75 X dX12_lookFrom_60 rfl ?_
          exact BX12_lookFrom_75 X E hz r6 hr6 r17 hr17 x1 x2 x4 x5 x6 h1 hF
theorem LX12_lookFrom_17 {Z : ZT} {G : GT} {r : Int32} {hr : Hp} (X : CX Z G cX12_lookFrom RX12 7 5) (E : RX Z G (some .int) (some (.int r)) hr) (hz : HZM Z) (r6 : Int32 → Int32 → Int32 → Int32 → Hp → Option (Int32 × Hp)) (hr6 : ∀ (x1 : Int32) (x2 : Int32) (x4 : Int32) (x5 : Int32) (h : Hp), r6 x1 x2 x4 x5 h = some (r, hr) → J Z G 7 h 6 [(0, .ref (Z.2.1 0)), (1, .int x1), (2, .int x2), (4, .int x4), (5, .int x5)] []) : ∀ (n : Nat) (x1 : Int32) (x2 : Int32) (x4 : Int32) (x5 : Int32) (x6 : Int32) (h : Hp), lX12_lookFrom_17  r6 n x1 x2 x4 x5 x6 h = some (r, hr) → J Z G 7 h 17 [(0, .ref (Z.2.1 0)), (1, .int x1), (2, .int x2), (4, .int x4), (5, .int x5), (6, .int x6)] [] := by
  intro n
  induction n with
  | zero => intro x1 x2 x4 x5 x6 h hF; cases hF
  | succ n ih => intro x1 x2 x4 x5 x6 h hF; exact BX12_lookFrom_17 X E hz r6 hr6 (lX12_lookFrom_17  r6 n) ih x1 x2 x4 x5 x6 h hF
def bX12_lookFrom_6   (r6 : Int32 → Int32 → Int32 → Int32 → Hp → Option (Int32 × Hp)) (x1 : Int32) (x2 : Int32) (x4 : Int32) (x5 : Int32) (h : Hp) : Option (Int32 × Hp) := (if x5 = 0 then some (x4, h) else lt 0 (fun v1 => lt 0 (fun v2 => lX12_lookFrom_17 r6 FU x1 x2 x4 v1 v2 h)))
def lX12_lookFrom_6   : Nat → Int32 → Int32 → Int32 → Int32 → Hp → Option (Int32 × Hp)
  | 0 => fun _ _ _ _ _ => none
  | n + 1 => bX12_lookFrom_6   (lX12_lookFrom_6   n)
set_option maxRecDepth 20000 in
theorem BX12_lookFrom_6 {Z : ZT} {G : GT} {r : Int32} {hr : Hp} (X : CX Z G cX12_lookFrom RX12 7 5) (E : RX Z G (some .int) (some (.int r)) hr) (hz : HZM Z)  (r6 : Int32 → Int32 → Int32 → Int32 → Hp → Option (Int32 × Hp)) (hr6 : ∀ (x1 : Int32) (x2 : Int32) (x4 : Int32) (x5 : Int32) (h : Hp), r6 x1 x2 x4 x5 h = some (r, hr) → J Z G 7 h 6 [(0, .ref (Z.2.1 0)), (1, .int x1), (2, .int x2), (4, .int x4), (5, .int x5)] []) (x1 : Int32) (x2 : Int32) (x4 : Int32) (x5 : Int32) (h : Hp) (hF : bX12_lookFrom_6   r6 x1 x2 x4 x5 h = some (r, hr)) : J Z G 7 h 6 [(0, .ref (Z.2.1 0)), (1, .int x1), (2, .int x2), (4, .int x4), (5, .int x5)] [] := by
  unfold bX12_lookFrom_6 at hF
  refine j_iload (pc := 6) 4 X dX12_lookFrom_6 rfl ?_
  refine j_if_eq (pc := 8) 84 X dX12_lookFrom_8 rfl hF (fun hF => ?_) (fun hF => ?_)
  · refine j_iload (pc := 84) 3 X dX12_lookFrom_84 rfl ?_
    exact j_iret (pc := 86) X E dX12_lookFrom_86 hF
  · refine j_iconst (pc := 11) 0 X dX12_lookFrom_11 rfl ?_
    refine j_istore (pc := 12) (fun y => [(5, .int y), (0, .ref (Z.2.1 0)), (1, .int x1), (2, .int x2), (4, .int x4)]) X dX12_lookFrom_12 (by decide) (fun _ => rfl) hF (fun v1 hF => ?_)
    refine j_iconst (pc := 14) 0 X dX12_lookFrom_14 rfl ?_
    refine j_istore (pc := 15) (fun y => [(6, .int y), (5, .int v1), (0, .ref (Z.2.1 0)), (1, .int x1), (2, .int x2), (4, .int x4)]) X dX12_lookFrom_15 (by decide) (fun _ => rfl) hF (fun v2 hF => ?_)
    refine j_lv [(0, .ref (Z.2.1 0)), (1, .int x1), (2, .int x2), (4, .int x4), (5, .int v1), (6, .int v2)] [2, 3, 4, 5, 1, 0] rfl ?_
    exact LX12_lookFrom_17 X E hz r6 hr6 FU x1 x2 x4 v1 v2 h hF
theorem LX12_lookFrom_6 {Z : ZT} {G : GT} {r : Int32} {hr : Hp} (X : CX Z G cX12_lookFrom RX12 7 5) (E : RX Z G (some .int) (some (.int r)) hr) (hz : HZM Z)  : ∀ (n : Nat) (x1 : Int32) (x2 : Int32) (x4 : Int32) (x5 : Int32) (h : Hp), lX12_lookFrom_6   n x1 x2 x4 x5 h = some (r, hr) → J Z G 7 h 6 [(0, .ref (Z.2.1 0)), (1, .int x1), (2, .int x2), (4, .int x4), (5, .int x5)] [] := by
  intro n
  induction n with
  | zero => intro x1 x2 x4 x5 h hF; cases hF
  | succ n ih => intro x1 x2 x4 x5 h hF; exact BX12_lookFrom_6 X E hz  (lX12_lookFrom_6   n) ih x1 x2 x4 x5 h hF
def fX12_lookFrom (a1 : Int32) (a2 : Int32) (a3 : Int32) (h : Hp) : Option (Int32 × Hp) := lt a3 (fun v1 => lt 1 (fun v2 => lX12_lookFrom_6 FU a1 a2 v1 v2 h))
set_option maxRecDepth 20000 in
theorem tX12_lookFrom (Z : ZT) (a1 : Int32) (a2 : Int32) (a3 : Int32) (hz : HZM Z) (h : Hp) (r : Int32) (hr : Hp) (hF : fX12_lookFrom a1 a2 a3 h = some (r, hr)) : MC Z yX12_lookFrom cX12_lookFrom 7 (some .int) 5 [.ref (Z.2.1 0), .int a1, .int a2, .int a3] h (some (.int r)) hr := by
  unfold fX12_lookFrom at hF
  refine mc_start (by decide) (Nat.le_of_ble_eq_true rfl) (fun G X E => ?_)
  refine j_iload_n (pc := 0) 3 X dX12_lookFrom_0 rfl ?_
  refine j_istore (pc := 1) (fun y => [(4, .int y), (0, .ref (Z.2.1 0)), (1, .int a1), (2, .int a2), (3, .int a3)]) X dX12_lookFrom_1 (by decide) (fun _ => rfl) hF (fun v1 hF => ?_)
  refine j_iconst (pc := 3) 1 X dX12_lookFrom_3 rfl ?_
  refine j_istore (pc := 4) (fun y => [(5, .int y), (4, .int v1), (0, .ref (Z.2.1 0)), (1, .int a1), (2, .int a2), (3, .int a3)]) X dX12_lookFrom_4 (by decide) (fun _ => rfl) hF (fun v2 hF => ?_)
  refine j_lv [(0, .ref (Z.2.1 0)), (1, .int a1), (2, .int a2), (4, .int v1), (5, .int v2)] [2, 3, 4, 1, 0] rfl ?_
  exact LX12_lookFrom_6 X E hz FU a1 a2 v1 v2 h hF
theorem dX12_odds_0 : decode cX12_odds 0 = .ok (.aload_n 0, 1) := by decide +kernel
theorem dX12_odds_1 : decode cX12_odds 1 = .ok (.iload_n 1, 1) := by decide +kernel
theorem dX12_odds_2 : decode cX12_odds 2 = .ok (.invokevirtual 400, 3) := by decide +kernel
theorem dX12_odds_5 : decode cX12_odds 5 = .ok (.ifCond .eq 27, 3) := by decide +kernel
theorem dX12_odds_8 : decode cX12_odds 8 = .ok (.iload_n 2, 1) := by decide +kernel
theorem dX12_odds_9 : decode cX12_odds 9 = .ok (.invokestatic 412, 3) := by decide +kernel
theorem dX12_odds_12 : decode cX12_odds 12 = .ok (.ifCond .eq 20, 3) := by decide +kernel
theorem dX12_odds_15 : decode cX12_odds 15 = .ok (.iload_n 3, 1) := by decide +kernel
theorem dX12_odds_16 : decode cX12_odds 16 = .ok (.iconst 1, 1) := by decide +kernel
theorem dX12_odds_17 : decode cX12_odds 17 = .ok (.iconst 2, 1) := by decide +kernel
theorem dX12_odds_18 : decode cX12_odds 18 = .ok (.invokestatic 383, 3) := by decide +kernel
theorem dX12_odds_21 : decode cX12_odds 21 = .ok (.ifCond .eq 11, 3) := by decide +kernel
theorem dX12_odds_24 : decode cX12_odds 24 = .ok (.iload_n 2, 1) := by decide +kernel
theorem dX12_odds_25 : decode cX12_odds 25 = .ok (.iload_n 3, 1) := by decide +kernel
theorem dX12_odds_26 : decode cX12_odds 26 = .ok (.iadd, 1) := by decide +kernel
theorem dX12_odds_27 : decode cX12_odds 27 = .ok (.bipush 60, 2) := by decide +kernel
theorem dX12_odds_29 : decode cX12_odds 29 = .ok (.if_icmp .le 7, 3) := by decide +kernel
theorem dX12_odds_32 : decode cX12_odds 32 = .ok (.ldc2_w 540, 3) := by decide +kernel
theorem dX12_odds_35 : decode cX12_odds 35 = .ok (.lreturn, 1) := by decide +kernel
theorem dX12_odds_36 : decode cX12_odds 36 = .ok (.aload_n 0, 1) := by decide +kernel
theorem dX12_odds_37 : decode cX12_odds 37 = .ok (.getfield 49, 3) := by decide +kernel
theorem dX12_odds_40 : decode cX12_odds 40 = .ok (.aload_n 0, 1) := by decide +kernel
theorem dX12_odds_41 : decode cX12_odds 41 = .ok (.getfield 284, 3) := by decide +kernel
theorem dX12_odds_44 : decode cX12_odds 44 = .ok (.iaload, 1) := by decide +kernel
theorem dX12_odds_45 : decode cX12_odds 45 = .ok (.iconst 4, 1) := by decide +kernel
theorem dX12_odds_46 : decode cX12_odds 46 = .ok (.if_icmp .le 7, 3) := by decide +kernel
theorem dX12_odds_49 : decode cX12_odds 49 = .ok (.ldc2_w 544, 3) := by decide +kernel
theorem dX12_odds_52 : decode cX12_odds 52 = .ok (.lreturn, 1) := by decide +kernel
theorem dX12_odds_53 : decode cX12_odds 53 = .ok (.iconst 0, 1) := by decide +kernel
theorem dX12_odds_54 : decode cX12_odds 54 = .ok (.istore 4, 2) := by decide +kernel
theorem dX12_odds_56 : decode cX12_odds 56 = .ok (.iload 4, 2) := by decide +kernel
theorem dX12_odds_58 : decode cX12_odds 58 = .ok (.sipush 16384, 3) := by decide +kernel
theorem dX12_odds_61 : decode cX12_odds 61 = .ok (.if_icmp .ge 26, 3) := by decide +kernel
theorem dX12_odds_64 : decode cX12_odds 64 = .ok (.aload_n 0, 1) := by decide +kernel
theorem dX12_odds_65 : decode cX12_odds 65 = .ok (.getfield 191, 3) := by decide +kernel
theorem dX12_odds_68 : decode cX12_odds 68 = .ok (.iload 4, 2) := by decide +kernel
theorem dX12_odds_70 : decode cX12_odds 70 = .ok (.iload 4, 2) := by decide +kernel
theorem dX12_odds_72 : decode cX12_odds 72 = .ok (.ifCond .ne 7, 3) := by decide +kernel
theorem dX12_odds_75 : decode cX12_odds 75 = .ok (.lconst 1, 1) := by decide +kernel
theorem dX12_odds_76 : decode cX12_odds 76 = .ok (.goto 4, 3) := by decide +kernel
theorem dX12_odds_79 : decode cX12_odds 79 = .ok (.lconst 0, 1) := by decide +kernel
theorem dX12_odds_80 : decode cX12_odds 80 = .ok (.lastore, 1) := by decide +kernel
theorem dX12_odds_81 : decode cX12_odds 81 = .ok (.iinc 4 1, 3) := by decide +kernel
theorem dX12_odds_84 : decode cX12_odds 84 = .ok (.goto (-28), 3) := by decide +kernel
theorem dX12_odds_87 : decode cX12_odds 87 = .ok (.iload_n 2, 1) := by decide +kernel
theorem dX12_odds_88 : decode cX12_odds 88 = .ok (.istore 4, 2) := by decide +kernel
theorem dX12_odds_90 : decode cX12_odds 90 = .ok (.iload 4, 2) := by decide +kernel
theorem dX12_odds_92 : decode cX12_odds 92 = .ok (.iload_n 2, 1) := by decide +kernel
theorem dX12_odds_93 : decode cX12_odds 93 = .ok (.iload_n 3, 1) := by decide +kernel
theorem dX12_odds_94 : decode cX12_odds 94 = .ok (.iadd, 1) := by decide +kernel
theorem dX12_odds_95 : decode cX12_odds 95 = .ok (.if_icmp .ge 205, 3) := by decide +kernel
theorem dX12_odds_98 : decode cX12_odds 98 = .ok (.iconst 0, 1) := by decide +kernel
theorem dX12_odds_99 : decode cX12_odds 99 = .ok (.istore 5, 2) := by decide +kernel
theorem dX12_odds_101 : decode cX12_odds 101 = .ok (.iload 5, 2) := by decide +kernel
theorem dX12_odds_103 : decode cX12_odds 103 = .ok (.sipush 16384, 3) := by decide +kernel
theorem dX12_odds_106 : decode cX12_odds 106 = .ok (.if_icmp .ge 17, 3) := by decide +kernel
theorem dX12_odds_109 : decode cX12_odds 109 = .ok (.aload_n 0, 1) := by decide +kernel
theorem dX12_odds_110 : decode cX12_odds 110 = .ok (.getfield 194, 3) := by decide +kernel
theorem dX12_odds_113 : decode cX12_odds 113 = .ok (.iload 5, 2) := by decide +kernel
theorem dX12_odds_115 : decode cX12_odds 115 = .ok (.lconst 0, 1) := by decide +kernel
theorem dX12_odds_116 : decode cX12_odds 116 = .ok (.lastore, 1) := by decide +kernel
theorem dX12_odds_117 : decode cX12_odds 117 = .ok (.iinc 5 1, 3) := by decide +kernel
theorem dX12_odds_120 : decode cX12_odds 120 = .ok (.goto (-19), 3) := by decide +kernel
theorem dX12_odds_123 : decode cX12_odds 123 = .ok (.iconst 0, 1) := by decide +kernel
theorem dX12_odds_124 : decode cX12_odds 124 = .ok (.istore 5, 2) := by decide +kernel
theorem dX12_odds_126 : decode cX12_odds 126 = .ok (.iload 5, 2) := by decide +kernel
theorem dX12_odds_128 : decode cX12_odds 128 = .ok (.sipush 16384, 3) := by decide +kernel
theorem dX12_odds_131 : decode cX12_odds 131 = .ok (.if_icmp .ge 132, 3) := by decide +kernel
theorem dX12_odds_134 : decode cX12_odds 134 = .ok (.aload_n 0, 1) := by decide +kernel
theorem dX12_odds_135 : decode cX12_odds 135 = .ok (.getfield 191, 3) := by decide +kernel
theorem dX12_odds_138 : decode cX12_odds 138 = .ok (.iload 5, 2) := by decide +kernel
theorem dX12_odds_140 : decode cX12_odds 140 = .ok (.laload, 1) := by decide +kernel
theorem dX12_odds_141 : decode cX12_odds 141 = .ok (.lconst 0, 1) := by decide +kernel
theorem dX12_odds_142 : decode cX12_odds 142 = .ok (.lcmp, 1) := by decide +kernel
theorem dX12_odds_143 : decode cX12_odds 143 = .ok (.ifCond .ne 6, 3) := by decide +kernel
theorem dX12_odds_146 : decode cX12_odds 146 = .ok (.goto 111, 3) := by decide +kernel
theorem dX12_odds_149 : decode cX12_odds 149 = .ok (.iload 5, 2) := by decide +kernel
theorem dX12_odds_151 : decode cX12_odds 151 = .ok (.sipush 1024, 3) := by decide +kernel
theorem dX12_odds_154 : decode cX12_odds 154 = .ok (.idiv, 1) := by decide +kernel
theorem dX12_odds_155 : decode cX12_odds 155 = .ok (.istore 6, 2) := by decide +kernel
theorem dX12_odds_157 : decode cX12_odds 157 = .ok (.iconst 0, 1) := by decide +kernel
theorem dX12_odds_158 : decode cX12_odds 158 = .ok (.istore 7, 2) := by decide +kernel
theorem dX12_odds_160 : decode cX12_odds 160 = .ok (.iload 7, 2) := by decide +kernel
theorem dX12_odds_162 : decode cX12_odds 162 = .ok (.iconst 1, 1) := by decide +kernel
theorem dX12_odds_163 : decode cX12_odds 163 = .ok (.aload_n 0, 1) := by decide +kernel
theorem dX12_odds_164 : decode cX12_odds 164 = .ok (.getfield 49, 3) := by decide +kernel
theorem dX12_odds_167 : decode cX12_odds 167 = .ok (.aload_n 0, 1) := by decide +kernel
theorem dX12_odds_168 : decode cX12_odds 168 = .ok (.getfield 284, 3) := by decide +kernel
theorem dX12_odds_171 : decode cX12_odds 171 = .ok (.iaload, 1) := by decide +kernel
theorem dX12_odds_172 : decode cX12_odds 172 = .ok (.ishl, 1) := by decide +kernel
theorem dX12_odds_173 : decode cX12_odds 173 = .ok (.if_icmp .ge 84, 3) := by decide +kernel
theorem dX12_odds_176 : decode cX12_odds 176 = .ok (.iload 7, 2) := by decide +kernel
theorem dX12_odds_178 : decode cX12_odds 178 = .ok (.iload 6, 2) := by decide +kernel
theorem dX12_odds_180 : decode cX12_odds 180 = .ok (.iand, 1) := by decide +kernel
theorem dX12_odds_181 : decode cX12_odds 181 = .ok (.ifCond .eq 6, 3) := by decide +kernel
theorem dX12_odds_184 : decode cX12_odds 184 = .ok (.goto 67, 3) := by decide +kernel
theorem dX12_odds_187 : decode cX12_odds 187 = .ok (.aload_n 0, 1) := by decide +kernel
theorem dX12_odds_188 : decode cX12_odds 188 = .ok (.iload 6, 2) := by decide +kernel
theorem dX12_odds_190 : decode cX12_odds 190 = .ok (.iload 7, 2) := by decide +kernel
theorem dX12_odds_192 : decode cX12_odds 192 = .ok (.iload 4, 2) := by decide +kernel
theorem dX12_odds_194 : decode cX12_odds 194 = .ok (.invokevirtual 546, 3) := by decide +kernel
theorem dX12_odds_197 : decode cX12_odds 197 = .ok (.lstore 8, 2) := by decide +kernel
theorem dX12_odds_199 : decode cX12_odds 199 = .ok (.lload 8, 2) := by decide +kernel
theorem dX12_odds_201 : decode cX12_odds 201 = .ok (.lconst 0, 1) := by decide +kernel
theorem dX12_odds_202 : decode cX12_odds 202 = .ok (.lcmp, 1) := by decide +kernel
theorem dX12_odds_203 : decode cX12_odds 203 = .ok (.ifCond .le 48, 3) := by decide +kernel
theorem dX12_odds_206 : decode cX12_odds 206 = .ok (.aload_n 0, 1) := by decide +kernel
theorem dX12_odds_207 : decode cX12_odds 207 = .ok (.getfield 194, 3) := by decide +kernel
theorem dX12_odds_210 : decode cX12_odds 210 = .ok (.sipush 1024, 3) := by decide +kernel
theorem dX12_odds_213 : decode cX12_odds 213 = .ok (.iload 6, 2) := by decide +kernel
theorem dX12_odds_215 : decode cX12_odds 215 = .ok (.iload 7, 2) := by decide +kernel
theorem dX12_odds_217 : decode cX12_odds 217 = .ok (.ior, 1) := by decide +kernel
theorem dX12_odds_218 : decode cX12_odds 218 = .ok (.imul, 1) := by decide +kernel
theorem dX12_odds_219 : decode cX12_odds 219 = .ok (.aload_n 0, 1) := by decide +kernel
theorem dX12_odds_220 : decode cX12_odds 220 = .ok (.iload 4, 2) := by decide +kernel
theorem dX12_odds_222 : decode cX12_odds 222 = .ok (.iload 6, 2) := by decide +kernel
theorem dX12_odds_224 : decode cX12_odds 224 = .ok (.iload 7, 2) := by decide +kernel
theorem dX12_odds_226 : decode cX12_odds 226 = .ok (.ior, 1) := by decide +kernel
theorem dX12_odds_227 : decode cX12_odds 227 = .ok (.iload 5, 2) := by decide +kernel
theorem dX12_odds_229 : decode cX12_odds 229 = .ok (.sipush 1024, 3) := by decide +kernel
theorem dX12_odds_232 : decode cX12_odds 232 = .ok (.irem, 1) := by decide +kernel
theorem dX12_odds_233 : decode cX12_odds 233 = .ok (.invokevirtual 550, 3) := by decide +kernel
theorem dX12_odds_236 : decode cX12_odds 236 = .ok (.iadd, 1) := by decide +kernel
theorem dX12_odds_237 : decode cX12_odds 237 = .ok (.dup2, 1) := by decide +kernel
theorem dX12_odds_238 : decode cX12_odds 238 = .ok (.laload, 1) := by decide +kernel
theorem dX12_odds_239 : decode cX12_odds 239 = .ok (.aload_n 0, 1) := by decide +kernel
theorem dX12_odds_240 : decode cX12_odds 240 = .ok (.getfield 191, 3) := by decide +kernel
theorem dX12_odds_243 : decode cX12_odds 243 = .ok (.iload 5, 2) := by decide +kernel
theorem dX12_odds_245 : decode cX12_odds 245 = .ok (.laload, 1) := by decide +kernel
theorem dX12_odds_246 : decode cX12_odds 246 = .ok (.lload 8, 2) := by decide +kernel
theorem dX12_odds_248 : decode cX12_odds 248 = .ok (.lmul, 1) := by decide +kernel
theorem dX12_odds_249 : decode cX12_odds 249 = .ok (.ladd, 1) := by decide +kernel
theorem dX12_odds_250 : decode cX12_odds 250 = .ok (.lastore, 1) := by decide +kernel
theorem dX12_odds_251 : decode cX12_odds 251 = .ok (.iinc 7 1, 3) := by decide +kernel
theorem dX12_odds_254 : decode cX12_odds 254 = .ok (.goto (-94), 3) := by decide +kernel
theorem dX12_odds_257 : decode cX12_odds 257 = .ok (.iinc 5 1, 3) := by decide +kernel
theorem dX12_odds_260 : decode cX12_odds 260 = .ok (.goto (-134), 3) := by decide +kernel
theorem dX12_odds_263 : decode cX12_odds 263 = .ok (.iconst 0, 1) := by decide +kernel
theorem dX12_odds_264 : decode cX12_odds 264 = .ok (.istore 5, 2) := by decide +kernel
theorem dX12_odds_266 : decode cX12_odds 266 = .ok (.iload 5, 2) := by decide +kernel
theorem dX12_odds_268 : decode cX12_odds 268 = .ok (.sipush 16384, 3) := by decide +kernel
theorem dX12_odds_271 : decode cX12_odds 271 = .ok (.if_icmp .ge 23, 3) := by decide +kernel
theorem dX12_odds_274 : decode cX12_odds 274 = .ok (.aload_n 0, 1) := by decide +kernel
theorem dX12_odds_275 : decode cX12_odds 275 = .ok (.getfield 191, 3) := by decide +kernel
theorem dX12_odds_278 : decode cX12_odds 278 = .ok (.iload 5, 2) := by decide +kernel
theorem dX12_odds_280 : decode cX12_odds 280 = .ok (.aload_n 0, 1) := by decide +kernel
theorem dX12_odds_281 : decode cX12_odds 281 = .ok (.getfield 194, 3) := by decide +kernel
theorem dX12_odds_284 : decode cX12_odds 284 = .ok (.iload 5, 2) := by decide +kernel
theorem dX12_odds_286 : decode cX12_odds 286 = .ok (.laload, 1) := by decide +kernel
theorem dX12_odds_287 : decode cX12_odds 287 = .ok (.lastore, 1) := by decide +kernel
theorem dX12_odds_288 : decode cX12_odds 288 = .ok (.iinc 5 1, 3) := by decide +kernel
theorem dX12_odds_291 : decode cX12_odds 291 = .ok (.goto (-25), 3) := by decide +kernel
theorem dX12_odds_294 : decode cX12_odds 294 = .ok (.iinc 4 1, 3) := by decide +kernel
theorem dX12_odds_297 : decode cX12_odds 297 = .ok (.goto (-207), 3) := by decide +kernel
theorem dX12_odds_300 : decode cX12_odds 300 = .ok (.lconst 0, 1) := by decide +kernel
theorem dX12_odds_301 : decode cX12_odds 301 = .ok (.lstore 4, 2) := by decide +kernel
theorem dX12_odds_303 : decode cX12_odds 303 = .ok (.iconst 0, 1) := by decide +kernel
theorem dX12_odds_304 : decode cX12_odds 304 = .ok (.istore 6, 2) := by decide +kernel
theorem dX12_odds_306 : decode cX12_odds 306 = .ok (.iload 6, 2) := by decide +kernel
theorem dX12_odds_308 : decode cX12_odds 308 = .ok (.sipush 16384, 3) := by decide +kernel
theorem dX12_odds_311 : decode cX12_odds 311 = .ok (.if_icmp .ge 35, 3) := by decide +kernel
theorem dX12_odds_314 : decode cX12_odds 314 = .ok (.iload 6, 2) := by decide +kernel
theorem dX12_odds_316 : decode cX12_odds 316 = .ok (.sipush 1024, 3) := by decide +kernel
theorem dX12_odds_319 : decode cX12_odds 319 = .ok (.irem, 1) := by decide +kernel
theorem dX12_odds_320 : decode cX12_odds 320 = .ok (.iload_n 1, 1) := by decide +kernel
theorem dX12_odds_321 : decode cX12_odds 321 = .ok (.ishr, 1) := by decide +kernel
theorem dX12_odds_322 : decode cX12_odds 322 = .ok (.iconst 1, 1) := by decide +kernel
theorem dX12_odds_323 : decode cX12_odds 323 = .ok (.iand, 1) := by decide +kernel
theorem dX12_odds_324 : decode cX12_odds 324 = .ok (.iconst 1, 1) := by decide +kernel
theorem dX12_odds_325 : decode cX12_odds 325 = .ok (.if_icmp .ne 15, 3) := by decide +kernel
theorem dX12_odds_328 : decode cX12_odds 328 = .ok (.lload 4, 2) := by decide +kernel
theorem dX12_odds_330 : decode cX12_odds 330 = .ok (.aload_n 0, 1) := by decide +kernel
theorem dX12_odds_331 : decode cX12_odds 331 = .ok (.getfield 191, 3) := by decide +kernel
theorem dX12_odds_334 : decode cX12_odds 334 = .ok (.iload 6, 2) := by decide +kernel
theorem dX12_odds_336 : decode cX12_odds 336 = .ok (.laload, 1) := by decide +kernel
theorem dX12_odds_337 : decode cX12_odds 337 = .ok (.ladd, 1) := by decide +kernel
theorem dX12_odds_338 : decode cX12_odds 338 = .ok (.lstore 4, 2) := by decide +kernel
theorem dX12_odds_340 : decode cX12_odds 340 = .ok (.iinc 6 1, 3) := by decide +kernel
theorem dX12_odds_343 : decode cX12_odds 343 = .ok (.goto (-37), 3) := by decide +kernel
theorem dX12_odds_346 : decode cX12_odds 346 = .ok (.lload 4, 2) := by decide +kernel
theorem dX12_odds_348 : decode cX12_odds 348 = .ok (.lreturn, 1) := by decide +kernel
def bX12_odds_80  (r56 : Int32 → Int32 → Int32 → Int32 → Hp → Option (Int64 × Hp)) (x1 : Int32) (x2 : Int32) (x3 : Int32) (x4 : Int32) (s0 : Int64) (s1 : Int32) (h : Hp) : Option (Int64 × Hp) := ck (inb s1 16384) (lt (wL h 58 (ix s1) s0) (fun h1 => lt (x4 + 1) (fun v2 => r56 x1 x2 x3 v2 h1)))
set_option maxRecDepth 20000 in
theorem BX12_odds_80 {Z : ZT} {G : GT} {r : Int64} {hr : Hp} (X : CX Z G cX12_odds RX12 10 6) (E : RX Z G (some .long) (some (.long r)) hr) (hz : HZM Z) (r56 : Int32 → Int32 → Int32 → Int32 → Hp → Option (Int64 × Hp)) (hr56 : ∀ (x1 : Int32) (x2 : Int32) (x3 : Int32) (x4 : Int32) (h : Hp), r56 x1 x2 x3 x4 h = some (r, hr) → J Z G 10 h 56 [(0, .ref (Z.2.1 0)), (1, .int x1), (2, .int x2), (3, .int x3), (4, .int x4)] []) (x1 : Int32) (x2 : Int32) (x3 : Int32) (x4 : Int32) (s0 : Int64) (s1 : Int32) (h : Hp) (hF : bX12_odds_80  r56 x1 x2 x3 x4 s0 s1 h = some (r, hr)) : J Z G 10 h 80 [(0, .ref (Z.2.1 0)), (1, .int x1), (2, .int x2), (3, .int x3), (4, .int x4)] [.long s0, .int s1, .ref (Z.2.1 58)] := by
  unfold bX12_odds_80 at hF
  refine j_last (pc := 80) X dX12_odds_80 (hz _ sh_58) hF (fun h1 hF => ?_)
  refine j_iinc (pc := 81) 4 (x4 + 1) (fun y => [(4, .int y), (0, .ref (Z.2.1 0)), (1, .int x1), (2, .int x2), (3, .int x3)]) X dX12_odds_81 rfl rfl (by decide) (fun _ => rfl) hF (fun v2 hF => ?_)
  refine j_goto (pc := 84) 56 X dX12_odds_84 rfl ?_
  refine j_lv [(0, .ref (Z.2.1 0)), (1, .int x1), (2, .int x2), (3, .int x3), (4, .int v2)] [1, 2, 3, 4, 0] rfl ?_
  exact hr56 x1 x2 x3 v2 h1 hF
def bX12_odds_257  (r90 : Int32 → Int32 → Int32 → Int32 → Hp → Option (Int64 × Hp)) (r126 : Int32 → Int32 → Int32 → Int32 → Int32 → Hp → Option (Int64 × Hp)) (x1 : Int32) (x2 : Int32) (x3 : Int32) (x4 : Int32) (x5 : Int32) (h : Hp) : Option (Int64 × Hp) := lt (x5 + 1) (fun v1 => r126 x1 x2 x3 x4 v1 h)
set_option maxRecDepth 20000 in
theorem BX12_odds_257 {Z : ZT} {G : GT} {r : Int64} {hr : Hp} (X : CX Z G cX12_odds RX12 10 6) (E : RX Z G (some .long) (some (.long r)) hr) (hz : HZM Z) (r90 : Int32 → Int32 → Int32 → Int32 → Hp → Option (Int64 × Hp)) (hr90 : ∀ (x1 : Int32) (x2 : Int32) (x3 : Int32) (x4 : Int32) (h : Hp), r90 x1 x2 x3 x4 h = some (r, hr) → J Z G 10 h 90 [(0, .ref (Z.2.1 0)), (1, .int x1), (2, .int x2), (3, .int x3), (4, .int x4)] []) (r126 : Int32 → Int32 → Int32 → Int32 → Int32 → Hp → Option (Int64 × Hp)) (hr126 : ∀ (x1 : Int32) (x2 : Int32) (x3 : Int32) (x4 : Int32) (x5 : Int32) (h : Hp), r126 x1 x2 x3 x4 x5 h = some (r, hr) → J Z G 10 h 126 [(0, .ref (Z.2.1 0)), (1, .int x1), (2, .int x2), (3, .int x3), (4, .int x4), (5, .int x5)] []) (x1 : Int32) (x2 : Int32) (x3 : Int32) (x4 : Int32) (x5 : Int32) (h : Hp) (hF : bX12_odds_257  r90 r126 x1 x2 x3 x4 x5 h = some (r, hr)) : J Z G 10 h 257 [(0, .ref (Z.2.1 0)), (1, .int x1), (2, .int x2), (3, .int x3), (4, .int x4), (5, .int x5)] [] := by
  unfold bX12_odds_257 at hF
  refine j_iinc (pc := 257) 5 (x5 + 1) (fun y => [(5, .int y), (0, .ref (Z.2.1 0)), (1, .int x1), (2, .int x2), (3, .int x3), (4, .int x4)]) X dX12_odds_257 rfl rfl (by decide) (fun _ => rfl) hF (fun v1 hF => ?_)
  refine j_goto (pc := 260) 126 X dX12_odds_260 rfl ?_
  refine j_lv [(0, .ref (Z.2.1 0)), (1, .int x1), (2, .int x2), (3, .int x3), (4, .int x4), (5, .int v1)] [1, 2, 3, 4, 5, 0] rfl ?_
  exact hr126 x1 x2 x3 x4 v1 h hF
def bX12_odds_251  (r90 : Int32 → Int32 → Int32 → Int32 → Hp → Option (Int64 × Hp)) (r126 : Int32 → Int32 → Int32 → Int32 → Int32 → Hp → Option (Int64 × Hp)) (r160 : Int32 → Int32 → Int32 → Int32 → Int32 → Int32 → Int32 → Hp → Option (Int64 × Hp)) (x1 : Int32) (x2 : Int32) (x3 : Int32) (x4 : Int32) (x5 : Int32) (x6 : Int32) (x7 : Int32) (h : Hp) : Option (Int64 × Hp) := lt (x7 + 1) (fun v1 => r160 x1 x2 x3 x4 x5 x6 v1 h)
set_option maxRecDepth 20000 in
theorem BX12_odds_251 {Z : ZT} {G : GT} {r : Int64} {hr : Hp} (X : CX Z G cX12_odds RX12 10 6) (E : RX Z G (some .long) (some (.long r)) hr) (hz : HZM Z) (r90 : Int32 → Int32 → Int32 → Int32 → Hp → Option (Int64 × Hp)) (hr90 : ∀ (x1 : Int32) (x2 : Int32) (x3 : Int32) (x4 : Int32) (h : Hp), r90 x1 x2 x3 x4 h = some (r, hr) → J Z G 10 h 90 [(0, .ref (Z.2.1 0)), (1, .int x1), (2, .int x2), (3, .int x3), (4, .int x4)] []) (r126 : Int32 → Int32 → Int32 → Int32 → Int32 → Hp → Option (Int64 × Hp)) (hr126 : ∀ (x1 : Int32) (x2 : Int32) (x3 : Int32) (x4 : Int32) (x5 : Int32) (h : Hp), r126 x1 x2 x3 x4 x5 h = some (r, hr) → J Z G 10 h 126 [(0, .ref (Z.2.1 0)), (1, .int x1), (2, .int x2), (3, .int x3), (4, .int x4), (5, .int x5)] []) (r160 : Int32 → Int32 → Int32 → Int32 → Int32 → Int32 → Int32 → Hp → Option (Int64 × Hp)) (hr160 : ∀ (x1 : Int32) (x2 : Int32) (x3 : Int32) (x4 : Int32) (x5 : Int32) (x6 : Int32) (x7 : Int32) (h : Hp), r160 x1 x2 x3 x4 x5 x6 x7 h = some (r, hr) → J Z G 10 h 160 [(0, .ref (Z.2.1 0)), (1, .int x1), (2, .int x2), (3, .int x3), (4, .int x4), (5, .int x5), (6, .int x6), (7, .int x7)] []) (x1 : Int32) (x2 : Int32) (x3 : Int32) (x4 : Int32) (x5 : Int32) (x6 : Int32) (x7 : Int32) (h : Hp) (hF : bX12_odds_251  r90 r126 r160 x1 x2 x3 x4 x5 x6 x7 h = some (r, hr)) : J Z G 10 h 251 [(0, .ref (Z.2.1 0)), (1, .int x1), (2, .int x2), (3, .int x3), (4, .int x4), (5, .int x5), (6, .int x6), (7, .int x7)] [] := by
  unfold bX12_odds_251 at hF
  refine j_iinc (pc := 251) 7 (x7 + 1) (fun y => [(7, .int y), (0, .ref (Z.2.1 0)), (1, .int x1), (2, .int x2), (3, .int x3), (4, .int x4), (5, .int x5), (6, .int x6)]) X dX12_odds_251 rfl rfl (by decide) (fun _ => rfl) hF (fun v1 hF => ?_)
  refine j_goto (pc := 254) 160 X dX12_odds_254 rfl ?_
  refine j_lv [(0, .ref (Z.2.1 0)), (1, .int x1), (2, .int x2), (3, .int x3), (4, .int x4), (5, .int x5), (6, .int x6), (7, .int v1)] [1, 2, 3, 4, 5, 6, 7, 0] rfl ?_
  exact hr160 x1 x2 x3 x4 x5 x6 v1 h hF
def bX12_odds_160  (r90 : Int32 → Int32 → Int32 → Int32 → Hp → Option (Int64 × Hp)) (r126 : Int32 → Int32 → Int32 → Int32 → Int32 → Hp → Option (Int64 × Hp)) (r160 : Int32 → Int32 → Int32 → Int32 → Int32 → Int32 → Int32 → Hp → Option (Int64 × Hp)) (x1 : Int32) (x2 : Int32) (x3 : Int32) (x4 : Int32) (x5 : Int32) (x6 : Int32) (x7 : Int32) (h : Hp) : Option (Int64 × Hp) := ck (inb (h.1 0 18) 2) ((if ((1 : Int32) <<< ((h.1 11 (ix (h.1 0 18))) &&& 31)) ≤ x7 then bX12_odds_257 r90 r126 x1 x2 x3 x4 x5 h else (if (x7 &&& x6) = 0 then bi (fX12_waysOf x6 x7 x4 h) (fun w2 h1 => lt w2 (fun v3 => (if (lg_cmp v3 0) ≤ 0 then bX12_odds_251 r90 r126 r160 x1 x2 x3 x4 x5 x6 x7 h1 else ck (nz 1024) (bi (fX12_lookFrom x4 (x6 ||| x7) (x5 - x5 / 1024 * 1024) h1) (fun w5 h4 => ck (inb (((1024 : Int32) * (x6 ||| x7)) + w5) 16384) (ck (inb x5 16384) (ck (inb (((1024 : Int32) * (x6 ||| x7)) + w5) 16384) (lt (wL h4 59 (ix (((1024 : Int32) * (x6 ||| x7)) + w5)) ((h4.2 59 (ix (((1024 : Int32) * (x6 ||| x7)) + w5))) + ((h4.2 58 (ix x5)) * v3))) (fun h6 => bX12_odds_251 r90 r126 r160 x1 x2 x3 x4 x5 x6 x7 h6))))))))) else bX12_odds_251 r90 r126 r160 x1 x2 x3 x4 x5 x6 x7 h)))
def lX12_odds_160  (r90 : Int32 → Int32 → Int32 → Int32 → Hp → Option (Int64 × Hp)) (r126 : Int32 → Int32 → Int32 → Int32 → Int32 → Hp → Option (Int64 × Hp)) : Nat → Int32 → Int32 → Int32 → Int32 → Int32 → Int32 → Int32 → Hp → Option (Int64 × Hp)
  | 0 => fun _ _ _ _ _ _ _ _ => none
  | n + 1 => bX12_odds_160  r90 r126 (lX12_odds_160  r90 r126 n)
set_option maxRecDepth 20000 in
theorem BX12_odds_160 {Z : ZT} {G : GT} {r : Int64} {hr : Hp} (X : CX Z G cX12_odds RX12 10 6) (E : RX Z G (some .long) (some (.long r)) hr) (hz : HZM Z) (r90 : Int32 → Int32 → Int32 → Int32 → Hp → Option (Int64 × Hp)) (hr90 : ∀ (x1 : Int32) (x2 : Int32) (x3 : Int32) (x4 : Int32) (h : Hp), r90 x1 x2 x3 x4 h = some (r, hr) → J Z G 10 h 90 [(0, .ref (Z.2.1 0)), (1, .int x1), (2, .int x2), (3, .int x3), (4, .int x4)] []) (r126 : Int32 → Int32 → Int32 → Int32 → Int32 → Hp → Option (Int64 × Hp)) (hr126 : ∀ (x1 : Int32) (x2 : Int32) (x3 : Int32) (x4 : Int32) (x5 : Int32) (h : Hp), r126 x1 x2 x3 x4 x5 h = some (r, hr) → J Z G 10 h 126 [(0, .ref (Z.2.1 0)), (1, .int x1), (2, .int x2), (3, .int x3), (4, .int x4), (5, .int x5)] []) (r160 : Int32 → Int32 → Int32 → Int32 → Int32 → Int32 → Int32 → Hp → Option (Int64 × Hp)) (hr160 : ∀ (x1 : Int32) (x2 : Int32) (x3 : Int32) (x4 : Int32) (x5 : Int32) (x6 : Int32) (x7 : Int32) (h : Hp), r160 x1 x2 x3 x4 x5 x6 x7 h = some (r, hr) → J Z G 10 h 160 [(0, .ref (Z.2.1 0)), (1, .int x1), (2, .int x2), (3, .int x3), (4, .int x4), (5, .int x5), (6, .int x6), (7, .int x7)] []) (x1 : Int32) (x2 : Int32) (x3 : Int32) (x4 : Int32) (x5 : Int32) (x6 : Int32) (x7 : Int32) (h : Hp) (hF : bX12_odds_160  r90 r126 r160 x1 x2 x3 x4 x5 x6 x7 h = some (r, hr)) : J Z G 10 h 160 [(0, .ref (Z.2.1 0)), (1, .int x1), (2, .int x2), (3, .int x3), (4, .int x4), (5, .int x5), (6, .int x6), (7, .int x7)] [] := by
  unfold bX12_odds_160 at hF
  refine j_iload (pc := 160) 7 X dX12_odds_160 rfl ?_
  refine j_iconst (pc := 162) 1 X dX12_odds_162 rfl ?_
  refine j_aload_n (pc := 163) 0 X dX12_odds_163 rfl ?_
  refine j_getr (pc := 164) X dX12_odds_164 (hz _ sh_0) fl_X12_49 rfl ?_
  refine j_aload_n (pc := 167) 0 X dX12_odds_167 rfl ?_
  refine j_geti (pc := 168) X dX12_odds_168 (hz _ sh_0) fl_X12_284 rfl ?_
  refine j_iald (pc := 171) X dX12_odds_171 (hz _ sh_11) hF (fun hF => ?_)
  refine j_ishl (pc := 172) X dX12_odds_172 ?_
  refine j_icmp_ge (pc := 173) 257 X dX12_odds_173 rfl hF (fun hF => ?_) (fun hF => ?_)
  · refine j_lv [(0, .ref (Z.2.1 0)), (1, .int x1), (2, .int x2), (3, .int x3), (4, .int x4), (5, .int x5)] [0, 1, 2, 3, 4, 5] rfl ?_
    exact BX12_odds_257 X E hz r90 hr90 r126 hr126 x1 x2 x3 x4 x5 h hF
  · refine j_iload (pc := 176) 7 X dX12_odds_176 rfl ?_
    refine j_iload (pc := 178) 6 X dX12_odds_178 rfl ?_
    refine j_iand (pc := 180) X dX12_odds_180 ?_
    refine j_if_eq (pc := 181) 187 X dX12_odds_181 rfl hF (fun hF => ?_) (fun hF => ?_)
    · refine j_aload_n (pc := 187) 0 X dX12_odds_187 rfl ?_
      refine j_iload (pc := 188) 6 X dX12_odds_188 rfl ?_
      refine j_iload (pc := 190) 7 X dX12_odds_190 rfl ?_
      refine j_iload (pc := 192) 4 X dX12_odds_192 rfl ?_
      refine j_cVl (pc := 194) (As := [.int x6, .int x7, .int x4]) (rest := []) X dX12_odds_194 ml_X12_546 ck_X12_waysOf cv_X12_waysOf (hz _ sh_0) rfl (Nat.le_of_ble_eq_true rfl) rfl (Nat.le_of_ble_eq_true rfl) rfl hF (tX12_waysOf Z x6 x7 x4 hz h) (fun w2 h1 hF => ?_)
      refine j_lstore (pc := 197) (fun y => [(8, .long y), (0, .ref (Z.2.1 0)), (1, .int x1), (2, .int x2), (3, .int x3), (4, .int x4), (5, .int x5), (6, .int x6), (7, .int x7)]) X dX12_odds_197 (by decide) (fun _ => rfl) hF (fun v3 hF => ?_)
      refine j_lload (pc := 199) 0 X dX12_odds_199 rfl ?_
      refine j_lconst (pc := 201) 0 X dX12_odds_201 rfl ?_
      refine j_lcmp (pc := 202) X dX12_odds_202 ?_
      refine j_if_le (pc := 203) 251 X dX12_odds_203 rfl hF (fun hF => ?_) (fun hF => ?_)
      · refine j_lv [(0, .ref (Z.2.1 0)), (1, .int x1), (2, .int x2), (3, .int x3), (4, .int x4), (5, .int x5), (6, .int x6), (7, .int x7)] [1, 2, 3, 4, 5, 6, 7, 8] rfl ?_
        exact BX12_odds_251 X E hz r90 hr90 r126 hr126 r160 hr160 x1 x2 x3 x4 x5 x6 x7 h1 hF
      · refine j_aload_n (pc := 206) 1 X dX12_odds_206 rfl ?_
        refine j_getr (pc := 207) X dX12_odds_207 (hz _ sh_0) fl_X12_194 rfl ?_
        refine j_sipush (pc := 210) 1024 X dX12_odds_210 rfl ?_
        refine j_iload (pc := 213) 7 X dX12_odds_213 rfl ?_
        refine j_iload (pc := 215) 8 X dX12_odds_215 rfl ?_
        refine j_ior (pc := 217) X dX12_odds_217 ?_
        refine j_imul (pc := 218) X dX12_odds_218 ?_
        refine j_aload_n (pc := 219) 1 X dX12_odds_219 rfl ?_
        refine j_iload (pc := 220) 5 X dX12_odds_220 rfl ?_
        refine j_iload (pc := 222) 7 X dX12_odds_222 rfl ?_
        refine j_iload (pc := 224) 8 X dX12_odds_224 rfl ?_
        refine j_ior (pc := 226) X dX12_odds_226 ?_
        refine j_iload (pc := 227) 6 X dX12_odds_227 rfl ?_
        refine j_sipush (pc := 229) 1024 X dX12_odds_229 rfl ?_
        refine j_irem (pc := 232) X dX12_odds_232 hF (fun hF => ?_)
        refine j_cVi (pc := 233) (As := [.int x4, .int (x6 ||| x7), .int (x5 - x5 / 1024 * 1024)]) (rest := [.int ((1024 : Int32) * (x6 ||| x7)), .ref (Z.2.1 59)]) X dX12_odds_233 ml_X12_550 ck_X12_lookFrom cv_X12_lookFrom (hz _ sh_0) rfl (Nat.le_of_ble_eq_true rfl) rfl (Nat.le_of_ble_eq_true rfl) rfl hF (tX12_lookFrom Z x4 (x6 ||| x7) (x5 - x5 / 1024 * 1024) hz h1) (fun w5 h4 hF => ?_)
        refine j_iadd (pc := 236) X dX12_odds_236 ?_
        refine j_dup2 (pc := 237) X dX12_odds_237 rfl rfl ?_
        refine j_lald (pc := 238) X dX12_odds_238 (hz _ sh_59) hF (fun hF => ?_)
        refine j_aload_n (pc := 239) 1 X dX12_odds_239 rfl ?_
        refine j_getr (pc := 240) X dX12_odds_240 (hz _ sh_0) fl_X12_191 rfl ?_
        refine j_iload (pc := 243) 6 X dX12_odds_243 rfl ?_
        refine j_lald (pc := 245) X dX12_odds_245 (hz _ sh_58) hF (fun hF => ?_)
        refine j_lload (pc := 246) 0 X dX12_odds_246 rfl ?_
        refine j_lmul (pc := 248) X dX12_odds_248 ?_
        refine j_ladd (pc := 249) X dX12_odds_249 ?_
        refine j_last (pc := 250) X dX12_odds_250 (hz _ sh_59) hF (fun h6 hF => ?_)
        refine j_lv [(0, .ref (Z.2.1 0)), (1, .int x1), (2, .int x2), (3, .int x3), (4, .int x4), (5, .int x5), (6, .int x6), (7, .int x7)] [1, 2, 3, 4, 5, 6, 7, 8] rfl ?_
        exact BX12_odds_251 X E hz r90 hr90 r126 hr126 r160 hr160 x1 x2 x3 x4 x5 x6 x7 h6 hF
    · refine j_goto (pc := 184) 251 X dX12_odds_184 rfl ?_
      exact BX12_odds_251 X E hz r90 hr90 r126 hr126 r160 hr160 x1 x2 x3 x4 x5 x6 x7 h hF
theorem LX12_odds_160 {Z : ZT} {G : GT} {r : Int64} {hr : Hp} (X : CX Z G cX12_odds RX12 10 6) (E : RX Z G (some .long) (some (.long r)) hr) (hz : HZM Z) (r90 : Int32 → Int32 → Int32 → Int32 → Hp → Option (Int64 × Hp)) (hr90 : ∀ (x1 : Int32) (x2 : Int32) (x3 : Int32) (x4 : Int32) (h : Hp), r90 x1 x2 x3 x4 h = some (r, hr) → J Z G 10 h 90 [(0, .ref (Z.2.1 0)), (1, .int x1), (2, .int x2), (3, .int x3), (4, .int x4)] []) (r126 : Int32 → Int32 → Int32 → Int32 → Int32 → Hp → Option (Int64 × Hp)) (hr126 : ∀ (x1 : Int32) (x2 : Int32) (x3 : Int32) (x4 : Int32) (x5 : Int32) (h : Hp), r126 x1 x2 x3 x4 x5 h = some (r, hr) → J Z G 10 h 126 [(0, .ref (Z.2.1 0)), (1, .int x1), (2, .int x2), (3, .int x3), (4, .int x4), (5, .int x5)] []) : ∀ (n : Nat) (x1 : Int32) (x2 : Int32) (x3 : Int32) (x4 : Int32) (x5 : Int32) (x6 : Int32) (x7 : Int32) (h : Hp), lX12_odds_160  r90 r126 n x1 x2 x3 x4 x5 x6 x7 h = some (r, hr) → J Z G 10 h 160 [(0, .ref (Z.2.1 0)), (1, .int x1), (2, .int x2), (3, .int x3), (4, .int x4), (5, .int x5), (6, .int x6), (7, .int x7)] [] := by
  intro n
  induction n with
  | zero => intro x1 x2 x3 x4 x5 x6 x7 h hF; cases hF
  | succ n ih => intro x1 x2 x3 x4 x5 x6 x7 h hF; exact BX12_odds_160 X E hz r90 hr90 r126 hr126 (lX12_odds_160  r90 r126 n) ih x1 x2 x3 x4 x5 x6 x7 h hF
def bX12_odds_266  (r90 : Int32 → Int32 → Int32 → Int32 → Hp → Option (Int64 × Hp)) (r266 : Int32 → Int32 → Int32 → Int32 → Int32 → Hp → Option (Int64 × Hp)) (x1 : Int32) (x2 : Int32) (x3 : Int32) (x4 : Int32) (x5 : Int32) (h : Hp) : Option (Int64 × Hp) := (if 16384 ≤ x5 then lt (x4 + 1) (fun v1 => r90 x1 x2 x3 v1 h) else ck (inb x5 16384) (ck (inb x5 16384) (lt (wL h 58 (ix x5) (h.2 59 (ix x5))) (fun h2 => lt (x5 + 1) (fun v3 => r266 x1 x2 x3 x4 v3 h2)))))
def lX12_odds_266  (r90 : Int32 → Int32 → Int32 → Int32 → Hp → Option (Int64 × Hp)) : Nat → Int32 → Int32 → Int32 → Int32 → Int32 → Hp → Option (Int64 × Hp)
  | 0 => fun _ _ _ _ _ _ => none
  | n + 1 => bX12_odds_266  r90 (lX12_odds_266  r90 n)
set_option maxRecDepth 20000 in
theorem BX12_odds_266 {Z : ZT} {G : GT} {r : Int64} {hr : Hp} (X : CX Z G cX12_odds RX12 10 6) (E : RX Z G (some .long) (some (.long r)) hr) (hz : HZM Z) (r90 : Int32 → Int32 → Int32 → Int32 → Hp → Option (Int64 × Hp)) (hr90 : ∀ (x1 : Int32) (x2 : Int32) (x3 : Int32) (x4 : Int32) (h : Hp), r90 x1 x2 x3 x4 h = some (r, hr) → J Z G 10 h 90 [(0, .ref (Z.2.1 0)), (1, .int x1), (2, .int x2), (3, .int x3), (4, .int x4)] []) (r266 : Int32 → Int32 → Int32 → Int32 → Int32 → Hp → Option (Int64 × Hp)) (hr266 : ∀ (x1 : Int32) (x2 : Int32) (x3 : Int32) (x4 : Int32) (x5 : Int32) (h : Hp), r266 x1 x2 x3 x4 x5 h = some (r, hr) → J Z G 10 h 266 [(0, .ref (Z.2.1 0)), (1, .int x1), (2, .int x2), (3, .int x3), (4, .int x4), (5, .int x5)] []) (x1 : Int32) (x2 : Int32) (x3 : Int32) (x4 : Int32) (x5 : Int32) (h : Hp) (hF : bX12_odds_266  r90 r266 x1 x2 x3 x4 x5 h = some (r, hr)) : J Z G 10 h 266 [(0, .ref (Z.2.1 0)), (1, .int x1), (2, .int x2), (3, .int x3), (4, .int x4), (5, .int x5)] [] := by
  unfold bX12_odds_266 at hF
  refine j_iload (pc := 266) 5 X dX12_odds_266 rfl ?_
  refine j_sipush (pc := 268) 16384 X dX12_odds_268 rfl ?_
  refine j_icmp_ge (pc := 271) 294 X dX12_odds_271 rfl hF (fun hF => ?_) (fun hF => ?_)
  · refine j_iinc (pc := 294) 4 (x4 + 1) (fun y => [(4, .int y), (0, .ref (Z.2.1 0)), (1, .int x1), (2, .int x2), (3, .int x3), (5, .int x5)]) X dX12_odds_294 rfl rfl (by decide) (fun _ => rfl) hF (fun v1 hF => ?_)
    refine j_goto (pc := 297) 90 X dX12_odds_297 rfl ?_
    refine j_lv [(0, .ref (Z.2.1 0)), (1, .int x1), (2, .int x2), (3, .int x3), (4, .int v1)] [1, 2, 3, 4, 0] rfl ?_
    exact hr90 x1 x2 x3 v1 h hF
  · refine j_aload_n (pc := 274) 0 X dX12_odds_274 rfl ?_
    refine j_getr (pc := 275) X dX12_odds_275 (hz _ sh_0) fl_X12_191 rfl ?_
    refine j_iload (pc := 278) 5 X dX12_odds_278 rfl ?_
    refine j_aload_n (pc := 280) 0 X dX12_odds_280 rfl ?_
    refine j_getr (pc := 281) X dX12_odds_281 (hz _ sh_0) fl_X12_194 rfl ?_
    refine j_iload (pc := 284) 5 X dX12_odds_284 rfl ?_
    refine j_lald (pc := 286) X dX12_odds_286 (hz _ sh_59) hF (fun hF => ?_)
    refine j_last (pc := 287) X dX12_odds_287 (hz _ sh_58) hF (fun h2 hF => ?_)
    refine j_iinc (pc := 288) 5 (x5 + 1) (fun y => [(5, .int y), (0, .ref (Z.2.1 0)), (1, .int x1), (2, .int x2), (3, .int x3), (4, .int x4)]) X dX12_odds_288 rfl rfl (by decide) (fun _ => rfl) hF (fun v3 hF => ?_)
    refine j_goto (pc := 291) 266 X dX12_odds_291 rfl ?_
    refine j_lv [(0, .ref (Z.2.1 0)), (1, .int x1), (2, .int x2), (3, .int x3), (4, .int x4), (5, .int v3)] [1, 2, 3, 4, 5, 0] rfl ?_
    exact hr266 x1 x2 x3 x4 v3 h2 hF
theorem LX12_odds_266 {Z : ZT} {G : GT} {r : Int64} {hr : Hp} (X : CX Z G cX12_odds RX12 10 6) (E : RX Z G (some .long) (some (.long r)) hr) (hz : HZM Z) (r90 : Int32 → Int32 → Int32 → Int32 → Hp → Option (Int64 × Hp)) (hr90 : ∀ (x1 : Int32) (x2 : Int32) (x3 : Int32) (x4 : Int32) (h : Hp), r90 x1 x2 x3 x4 h = some (r, hr) → J Z G 10 h 90 [(0, .ref (Z.2.1 0)), (1, .int x1), (2, .int x2), (3, .int x3), (4, .int x4)] []) : ∀ (n : Nat) (x1 : Int32) (x2 : Int32) (x3 : Int32) (x4 : Int32) (x5 : Int32) (h : Hp), lX12_odds_266  r90 n x1 x2 x3 x4 x5 h = some (r, hr) → J Z G 10 h 266 [(0, .ref (Z.2.1 0)), (1, .int x1), (2, .int x2), (3, .int x3), (4, .int x4), (5, .int x5)] [] := by
  intro n
  induction n with
  | zero => intro x1 x2 x3 x4 x5 h hF; cases hF
  | succ n ih => intro x1 x2 x3 x4 x5 h hF; exact BX12_odds_266 X E hz r90 hr90 (lX12_odds_266  r90 n) ih x1 x2 x3 x4 x5 h hF
def bX12_odds_126  (r90 : Int32 → Int32 → Int32 → Int32 → Hp → Option (Int64 × Hp)) (r126 : Int32 → Int32 → Int32 → Int32 → Int32 → Hp → Option (Int64 × Hp)) (x1 : Int32) (x2 : Int32) (x3 : Int32) (x4 : Int32) (x5 : Int32) (h : Hp) : Option (Int64 × Hp) := (if 16384 ≤ x5 then lt 0 (fun v1 => lX12_odds_266 r90 FU x1 x2 x3 x4 v1 h) else ck (inb x5 16384) ((if (lg_cmp (h.2 58 (ix x5)) 0) = 0 then bX12_odds_257 r90 r126 x1 x2 x3 x4 x5 h else ck (nz 1024) (lt (x5 / 1024) (fun v2 => lt 0 (fun v3 => lX12_odds_160 r90 r126 FU x1 x2 x3 x4 x5 v2 v3 h))))))
def lX12_odds_126  (r90 : Int32 → Int32 → Int32 → Int32 → Hp → Option (Int64 × Hp)) : Nat → Int32 → Int32 → Int32 → Int32 → Int32 → Hp → Option (Int64 × Hp)
  | 0 => fun _ _ _ _ _ _ => none
  | n + 1 => bX12_odds_126  r90 (lX12_odds_126  r90 n)
set_option maxRecDepth 20000 in
theorem BX12_odds_126 {Z : ZT} {G : GT} {r : Int64} {hr : Hp} (X : CX Z G cX12_odds RX12 10 6) (E : RX Z G (some .long) (some (.long r)) hr) (hz : HZM Z) (r90 : Int32 → Int32 → Int32 → Int32 → Hp → Option (Int64 × Hp)) (hr90 : ∀ (x1 : Int32) (x2 : Int32) (x3 : Int32) (x4 : Int32) (h : Hp), r90 x1 x2 x3 x4 h = some (r, hr) → J Z G 10 h 90 [(0, .ref (Z.2.1 0)), (1, .int x1), (2, .int x2), (3, .int x3), (4, .int x4)] []) (r126 : Int32 → Int32 → Int32 → Int32 → Int32 → Hp → Option (Int64 × Hp)) (hr126 : ∀ (x1 : Int32) (x2 : Int32) (x3 : Int32) (x4 : Int32) (x5 : Int32) (h : Hp), r126 x1 x2 x3 x4 x5 h = some (r, hr) → J Z G 10 h 126 [(0, .ref (Z.2.1 0)), (1, .int x1), (2, .int x2), (3, .int x3), (4, .int x4), (5, .int x5)] []) (x1 : Int32) (x2 : Int32) (x3 : Int32) (x4 : Int32) (x5 : Int32) (h : Hp) (hF : bX12_odds_126  r90 r126 x1 x2 x3 x4 x5 h = some (r, hr)) : J Z G 10 h 126 [(0, .ref (Z.2.1 0)), (1, .int x1), (2, .int x2), (3, .int x3), (4, .int x4), (5, .int x5)] [] := by
  unfold bX12_odds_126 at hF
  refine j_iload (pc := 126) 5 X dX12_odds_126 rfl ?_
  refine j_sipush (pc := 128) 16384 X dX12_odds_128 rfl ?_
  refine j_icmp_ge (pc := 131) 263 X dX12_odds_131 rfl hF (fun hF => ?_) (fun hF => ?_)
  · refine j_iconst (pc := 263) 0 X dX12_odds_263 rfl ?_
    refine j_istore (pc := 264) (fun y => [(5, .int y), (0, .ref (Z.2.1 0)), (1, .int x1), (2, .int x2), (3, .int x3), (4, .int x4)]) X dX12_odds_264 (by decide) (fun _ => rfl) hF (fun v1 hF => ?_)
    refine j_lv [(0, .ref (Z.2.1 0)), (1, .int x1), (2, .int x2), (3, .int x3), (4, .int x4), (5, .int v1)] [1, 2, 3, 4, 5, 0] rfl ?_
    exact LX12_odds_266 X E hz r90 hr90 FU x1 x2 x3 x4 v1 h hF
  · refine j_aload_n (pc := 134) 0 X dX12_odds_134 rfl ?_
    refine j_getr (pc := 135) X dX12_odds_135 (hz _ sh_0) fl_X12_191 rfl ?_
    refine j_iload (pc := 138) 5 X dX12_odds_138 rfl ?_
    refine j_lald (pc := 140) X dX12_odds_140 (hz _ sh_58) hF (fun hF => ?_)
    refine j_lconst (pc := 141) 0 X dX12_odds_141 rfl ?_
    refine j_lcmp (pc := 142) X dX12_odds_142 ?_
    refine j_if_ne (pc := 143) 149 X dX12_odds_143 rfl hF (fun hF => ?_) (fun hF => ?_)
    · refine j_iload (pc := 149) 5 X dX12_odds_149 rfl ?_
      refine j_sipush (pc := 151) 1024 X dX12_odds_151 rfl ?_
      refine j_idiv (pc := 154) X dX12_odds_154 hF (fun hF => ?_)
      refine j_istore (pc := 155) (fun y => [(6, .int y), (0, .ref (Z.2.1 0)), (1, .int x1), (2, .int x2), (3, .int x3), (4, .int x4), (5, .int x5)]) X dX12_odds_155 (by decide) (fun _ => rfl) hF (fun v2 hF => ?_)
      refine j_iconst (pc := 157) 0 X dX12_odds_157 rfl ?_
      refine j_istore (pc := 158) (fun y => [(7, .int y), (6, .int v2), (0, .ref (Z.2.1 0)), (1, .int x1), (2, .int x2), (3, .int x3), (4, .int x4), (5, .int x5)]) X dX12_odds_158 (by decide) (fun _ => rfl) hF (fun v3 hF => ?_)
      refine j_lv [(0, .ref (Z.2.1 0)), (1, .int x1), (2, .int x2), (3, .int x3), (4, .int x4), (5, .int x5), (6, .int v2), (7, .int v3)] [2, 3, 4, 5, 6, 7, 1, 0] rfl ?_
      exact LX12_odds_160 X E hz r90 hr90 r126 hr126 FU x1 x2 x3 x4 x5 v2 v3 h hF
    · refine j_goto (pc := 146) 257 X dX12_odds_146 rfl ?_
      exact BX12_odds_257 X E hz r90 hr90 r126 hr126 x1 x2 x3 x4 x5 h hF
theorem LX12_odds_126 {Z : ZT} {G : GT} {r : Int64} {hr : Hp} (X : CX Z G cX12_odds RX12 10 6) (E : RX Z G (some .long) (some (.long r)) hr) (hz : HZM Z) (r90 : Int32 → Int32 → Int32 → Int32 → Hp → Option (Int64 × Hp)) (hr90 : ∀ (x1 : Int32) (x2 : Int32) (x3 : Int32) (x4 : Int32) (h : Hp), r90 x1 x2 x3 x4 h = some (r, hr) → J Z G 10 h 90 [(0, .ref (Z.2.1 0)), (1, .int x1), (2, .int x2), (3, .int x3), (4, .int x4)] []) : ∀ (n : Nat) (x1 : Int32) (x2 : Int32) (x3 : Int32) (x4 : Int32) (x5 : Int32) (h : Hp), lX12_odds_126  r90 n x1 x2 x3 x4 x5 h = some (r, hr) → J Z G 10 h 126 [(0, .ref (Z.2.1 0)), (1, .int x1), (2, .int x2), (3, .int x3), (4, .int x4), (5, .int x5)] [] := by
  intro n
  induction n with
  | zero => intro x1 x2 x3 x4 x5 h hF; cases hF
  | succ n ih => intro x1 x2 x3 x4 x5 h hF; exact BX12_odds_126 X E hz r90 hr90 (lX12_odds_126  r90 n) ih x1 x2 x3 x4 x5 h hF
def bX12_odds_101  (r90 : Int32 → Int32 → Int32 → Int32 → Hp → Option (Int64 × Hp)) (r101 : Int32 → Int32 → Int32 → Int32 → Int32 → Hp → Option (Int64 × Hp)) (x1 : Int32) (x2 : Int32) (x3 : Int32) (x4 : Int32) (x5 : Int32) (h : Hp) : Option (Int64 × Hp) := (if 16384 ≤ x5 then lt 0 (fun v1 => lX12_odds_126 r90 FU x1 x2 x3 x4 v1 h) else ck (inb x5 16384) (lt (wL h 59 (ix x5) 0) (fun h2 => lt (x5 + 1) (fun v3 => r101 x1 x2 x3 x4 v3 h2))))
def lX12_odds_101  (r90 : Int32 → Int32 → Int32 → Int32 → Hp → Option (Int64 × Hp)) : Nat → Int32 → Int32 → Int32 → Int32 → Int32 → Hp → Option (Int64 × Hp)
  | 0 => fun _ _ _ _ _ _ => none
  | n + 1 => bX12_odds_101  r90 (lX12_odds_101  r90 n)
set_option maxRecDepth 20000 in
theorem BX12_odds_101 {Z : ZT} {G : GT} {r : Int64} {hr : Hp} (X : CX Z G cX12_odds RX12 10 6) (E : RX Z G (some .long) (some (.long r)) hr) (hz : HZM Z) (r90 : Int32 → Int32 → Int32 → Int32 → Hp → Option (Int64 × Hp)) (hr90 : ∀ (x1 : Int32) (x2 : Int32) (x3 : Int32) (x4 : Int32) (h : Hp), r90 x1 x2 x3 x4 h = some (r, hr) → J Z G 10 h 90 [(0, .ref (Z.2.1 0)), (1, .int x1), (2, .int x2), (3, .int x3), (4, .int x4)] []) (r101 : Int32 → Int32 → Int32 → Int32 → Int32 → Hp → Option (Int64 × Hp)) (hr101 : ∀ (x1 : Int32) (x2 : Int32) (x3 : Int32) (x4 : Int32) (x5 : Int32) (h : Hp), r101 x1 x2 x3 x4 x5 h = some (r, hr) → J Z G 10 h 101 [(0, .ref (Z.2.1 0)), (1, .int x1), (2, .int x2), (3, .int x3), (4, .int x4), (5, .int x5)] []) (x1 : Int32) (x2 : Int32) (x3 : Int32) (x4 : Int32) (x5 : Int32) (h : Hp) (hF : bX12_odds_101  r90 r101 x1 x2 x3 x4 x5 h = some (r, hr)) : J Z G 10 h 101 [(0, .ref (Z.2.1 0)), (1, .int x1), (2, .int x2), (3, .int x3), (4, .int x4), (5, .int x5)] [] := by
  unfold bX12_odds_101 at hF
  refine j_iload (pc := 101) 5 X dX12_odds_101 rfl ?_
  refine j_sipush (pc := 103) 16384 X dX12_odds_103 rfl ?_
  refine j_icmp_ge (pc := 106) 123 X dX12_odds_106 rfl hF (fun hF => ?_) (fun hF => ?_)
  · refine j_iconst (pc := 123) 0 X dX12_odds_123 rfl ?_
    refine j_istore (pc := 124) (fun y => [(5, .int y), (0, .ref (Z.2.1 0)), (1, .int x1), (2, .int x2), (3, .int x3), (4, .int x4)]) X dX12_odds_124 (by decide) (fun _ => rfl) hF (fun v1 hF => ?_)
    refine j_lv [(0, .ref (Z.2.1 0)), (1, .int x1), (2, .int x2), (3, .int x3), (4, .int x4), (5, .int v1)] [1, 2, 3, 4, 5, 0] rfl ?_
    exact LX12_odds_126 X E hz r90 hr90 FU x1 x2 x3 x4 v1 h hF
  · refine j_aload_n (pc := 109) 0 X dX12_odds_109 rfl ?_
    refine j_getr (pc := 110) X dX12_odds_110 (hz _ sh_0) fl_X12_194 rfl ?_
    refine j_iload (pc := 113) 5 X dX12_odds_113 rfl ?_
    refine j_lconst (pc := 115) 0 X dX12_odds_115 rfl ?_
    refine j_last (pc := 116) X dX12_odds_116 (hz _ sh_59) hF (fun h2 hF => ?_)
    refine j_iinc (pc := 117) 5 (x5 + 1) (fun y => [(5, .int y), (0, .ref (Z.2.1 0)), (1, .int x1), (2, .int x2), (3, .int x3), (4, .int x4)]) X dX12_odds_117 rfl rfl (by decide) (fun _ => rfl) hF (fun v3 hF => ?_)
    refine j_goto (pc := 120) 101 X dX12_odds_120 rfl ?_
    refine j_lv [(0, .ref (Z.2.1 0)), (1, .int x1), (2, .int x2), (3, .int x3), (4, .int x4), (5, .int v3)] [1, 2, 3, 4, 5, 0] rfl ?_
    exact hr101 x1 x2 x3 x4 v3 h2 hF
theorem LX12_odds_101 {Z : ZT} {G : GT} {r : Int64} {hr : Hp} (X : CX Z G cX12_odds RX12 10 6) (E : RX Z G (some .long) (some (.long r)) hr) (hz : HZM Z) (r90 : Int32 → Int32 → Int32 → Int32 → Hp → Option (Int64 × Hp)) (hr90 : ∀ (x1 : Int32) (x2 : Int32) (x3 : Int32) (x4 : Int32) (h : Hp), r90 x1 x2 x3 x4 h = some (r, hr) → J Z G 10 h 90 [(0, .ref (Z.2.1 0)), (1, .int x1), (2, .int x2), (3, .int x3), (4, .int x4)] []) : ∀ (n : Nat) (x1 : Int32) (x2 : Int32) (x3 : Int32) (x4 : Int32) (x5 : Int32) (h : Hp), lX12_odds_101  r90 n x1 x2 x3 x4 x5 h = some (r, hr) → J Z G 10 h 101 [(0, .ref (Z.2.1 0)), (1, .int x1), (2, .int x2), (3, .int x3), (4, .int x4), (5, .int x5)] [] := by
  intro n
  induction n with
  | zero => intro x1 x2 x3 x4 x5 h hF; cases hF
  | succ n ih => intro x1 x2 x3 x4 x5 h hF; exact BX12_odds_101 X E hz r90 hr90 (lX12_odds_101  r90 n) ih x1 x2 x3 x4 x5 h hF
def bX12_odds_340  (r306 : Int32 → Int64 → Int32 → Hp → Option (Int64 × Hp)) (x1 : Int32) (x4 : Int64) (x6 : Int32) (h : Hp) : Option (Int64 × Hp) := lt (x6 + 1) (fun v1 => r306 x1 x4 v1 h)
set_option maxRecDepth 20000 in
theorem BX12_odds_340 {Z : ZT} {G : GT} {r : Int64} {hr : Hp} (X : CX Z G cX12_odds RX12 10 6) (E : RX Z G (some .long) (some (.long r)) hr) (hz : HZM Z) (r306 : Int32 → Int64 → Int32 → Hp → Option (Int64 × Hp)) (hr306 : ∀ (x1 : Int32) (x4 : Int64) (x6 : Int32) (h : Hp), r306 x1 x4 x6 h = some (r, hr) → J Z G 10 h 306 [(0, .ref (Z.2.1 0)), (1, .int x1), (4, .long x4), (6, .int x6)] []) (x1 : Int32) (x4 : Int64) (x6 : Int32) (h : Hp) (hF : bX12_odds_340  r306 x1 x4 x6 h = some (r, hr)) : J Z G 10 h 340 [(0, .ref (Z.2.1 0)), (1, .int x1), (4, .long x4), (6, .int x6)] [] := by
  unfold bX12_odds_340 at hF
  refine j_iinc (pc := 340) 3 (x6 + 1) (fun y => [(6, .int y), (0, .ref (Z.2.1 0)), (1, .int x1), (4, .long x4)]) X dX12_odds_340 rfl rfl (by decide) (fun _ => rfl) hF (fun v1 hF => ?_)
  refine j_goto (pc := 343) 306 X dX12_odds_343 rfl ?_
  refine j_lv [(0, .ref (Z.2.1 0)), (1, .int x1), (4, .long x4), (6, .int v1)] [1, 2, 3, 0] rfl ?_
  exact hr306 x1 x4 v1 h hF
def bX12_odds_306   (r306 : Int32 → Int64 → Int32 → Hp → Option (Int64 × Hp)) (x1 : Int32) (x4 : Int64) (x6 : Int32) (h : Hp) : Option (Int64 × Hp) := (if 16384 ≤ x6 then some (x4, h) else ck (nz 1024) ((if (((x6 - x6 / 1024 * 1024) >>> (x1 &&& 31)) &&& 1) = 1 then ck (inb x6 16384) (lt (x4 + (h.2 58 (ix x6))) (fun v1 => bX12_odds_340 r306 x1 v1 x6 h)) else bX12_odds_340 r306 x1 x4 x6 h)))
def lX12_odds_306   : Nat → Int32 → Int64 → Int32 → Hp → Option (Int64 × Hp)
  | 0 => fun _ _ _ _ => none
  | n + 1 => bX12_odds_306   (lX12_odds_306   n)
set_option maxRecDepth 20000 in
theorem BX12_odds_306 {Z : ZT} {G : GT} {r : Int64} {hr : Hp} (X : CX Z G cX12_odds RX12 10 6) (E : RX Z G (some .long) (some (.long r)) hr) (hz : HZM Z)  (r306 : Int32 → Int64 → Int32 → Hp → Option (Int64 × Hp)) (hr306 : ∀ (x1 : Int32) (x4 : Int64) (x6 : Int32) (h : Hp), r306 x1 x4 x6 h = some (r, hr) → J Z G 10 h 306 [(0, .ref (Z.2.1 0)), (1, .int x1), (4, .long x4), (6, .int x6)] []) (x1 : Int32) (x4 : Int64) (x6 : Int32) (h : Hp) (hF : bX12_odds_306   r306 x1 x4 x6 h = some (r, hr)) : J Z G 10 h 306 [(0, .ref (Z.2.1 0)), (1, .int x1), (4, .long x4), (6, .int x6)] [] := by
  unfold bX12_odds_306 at hF
  refine j_iload (pc := 306) 3 X dX12_odds_306 rfl ?_
  refine j_sipush (pc := 308) 16384 X dX12_odds_308 rfl ?_
  refine j_icmp_ge (pc := 311) 346 X dX12_odds_311 rfl hF (fun hF => ?_) (fun hF => ?_)
  · refine j_lload (pc := 346) 2 X dX12_odds_346 rfl ?_
    exact j_lret (pc := 348) X E dX12_odds_348 hF
  · refine j_iload (pc := 314) 3 X dX12_odds_314 rfl ?_
    refine j_sipush (pc := 316) 1024 X dX12_odds_316 rfl ?_
    refine j_irem (pc := 319) X dX12_odds_319 hF (fun hF => ?_)
    refine j_iload_n (pc := 320) 1 X dX12_odds_320 rfl ?_
    refine j_ishr (pc := 321) X dX12_odds_321 ?_
    refine j_iconst (pc := 322) 1 X dX12_odds_322 rfl ?_
    refine j_iand (pc := 323) X dX12_odds_323 ?_
    refine j_iconst (pc := 324) 1 X dX12_odds_324 rfl ?_
    refine j_icmp_ne (pc := 325) 340 X dX12_odds_325 rfl hF (fun hF => ?_) (fun hF => ?_)
    · exact BX12_odds_340 X E hz r306 hr306 x1 x4 x6 h hF
    · refine j_lload (pc := 328) 2 X dX12_odds_328 rfl ?_
      refine j_aload_n (pc := 330) 0 X dX12_odds_330 rfl ?_
      refine j_getr (pc := 331) X dX12_odds_331 (hz _ sh_0) fl_X12_191 rfl ?_
      refine j_iload (pc := 334) 3 X dX12_odds_334 rfl ?_
      refine j_lald (pc := 336) X dX12_odds_336 (hz _ sh_58) hF (fun hF => ?_)
      refine j_ladd (pc := 337) X dX12_odds_337 ?_
      refine j_lstore (pc := 338) (fun y => [(4, .long y), (0, .ref (Z.2.1 0)), (1, .int x1), (6, .int x6)]) X dX12_odds_338 (by decide) (fun _ => rfl) hF (fun v1 hF => ?_)
      refine j_lv [(0, .ref (Z.2.1 0)), (1, .int x1), (4, .long v1), (6, .int x6)] [1, 2, 0, 3] rfl ?_
      exact BX12_odds_340 X E hz r306 hr306 x1 v1 x6 h hF
theorem LX12_odds_306 {Z : ZT} {G : GT} {r : Int64} {hr : Hp} (X : CX Z G cX12_odds RX12 10 6) (E : RX Z G (some .long) (some (.long r)) hr) (hz : HZM Z)  : ∀ (n : Nat) (x1 : Int32) (x4 : Int64) (x6 : Int32) (h : Hp), lX12_odds_306   n x1 x4 x6 h = some (r, hr) → J Z G 10 h 306 [(0, .ref (Z.2.1 0)), (1, .int x1), (4, .long x4), (6, .int x6)] [] := by
  intro n
  induction n with
  | zero => intro x1 x4 x6 h hF; cases hF
  | succ n ih => intro x1 x4 x6 h hF; exact BX12_odds_306 X E hz  (lX12_odds_306   n) ih x1 x4 x6 h hF
def bX12_odds_90   (r90 : Int32 → Int32 → Int32 → Int32 → Hp → Option (Int64 × Hp)) (x1 : Int32) (x2 : Int32) (x3 : Int32) (x4 : Int32) (h : Hp) : Option (Int64 × Hp) := (if (x2 + x3) ≤ x4 then lt 0 (fun v1 => lt 0 (fun v2 => lX12_odds_306 FU x1 v1 v2 h)) else lt 0 (fun v3 => lX12_odds_101 r90 FU x1 x2 x3 x4 v3 h))
def lX12_odds_90   : Nat → Int32 → Int32 → Int32 → Int32 → Hp → Option (Int64 × Hp)
  | 0 => fun _ _ _ _ _ => none
  | n + 1 => bX12_odds_90   (lX12_odds_90   n)
set_option maxRecDepth 20000 in
theorem BX12_odds_90 {Z : ZT} {G : GT} {r : Int64} {hr : Hp} (X : CX Z G cX12_odds RX12 10 6) (E : RX Z G (some .long) (some (.long r)) hr) (hz : HZM Z)  (r90 : Int32 → Int32 → Int32 → Int32 → Hp → Option (Int64 × Hp)) (hr90 : ∀ (x1 : Int32) (x2 : Int32) (x3 : Int32) (x4 : Int32) (h : Hp), r90 x1 x2 x3 x4 h = some (r, hr) → J Z G 10 h 90 [(0, .ref (Z.2.1 0)), (1, .int x1), (2, .int x2), (3, .int x3), (4, .int x4)] []) (x1 : Int32) (x2 : Int32) (x3 : Int32) (x4 : Int32) (h : Hp) (hF : bX12_odds_90   r90 x1 x2 x3 x4 h = some (r, hr)) : J Z G 10 h 90 [(0, .ref (Z.2.1 0)), (1, .int x1), (2, .int x2), (3, .int x3), (4, .int x4)] [] := by
  unfold bX12_odds_90 at hF
  refine j_iload (pc := 90) 4 X dX12_odds_90 rfl ?_
  refine j_iload_n (pc := 92) 2 X dX12_odds_92 rfl ?_
  refine j_iload_n (pc := 93) 3 X dX12_odds_93 rfl ?_
  refine j_iadd (pc := 94) X dX12_odds_94 ?_
  refine j_icmp_ge (pc := 95) 300 X dX12_odds_95 rfl hF (fun hF => ?_) (fun hF => ?_)
  · refine j_lconst (pc := 300) 0 X dX12_odds_300 rfl ?_
    refine j_lstore (pc := 301) (fun y => [(4, .long y), (0, .ref (Z.2.1 0)), (1, .int x1), (2, .int x2), (3, .int x3)]) X dX12_odds_301 (by decide) (fun _ => rfl) hF (fun v1 hF => ?_)
    refine j_iconst (pc := 303) 0 X dX12_odds_303 rfl ?_
    refine j_istore (pc := 304) (fun y => [(6, .int y), (4, .long v1), (0, .ref (Z.2.1 0)), (1, .int x1), (2, .int x2), (3, .int x3)]) X dX12_odds_304 (by decide) (fun _ => rfl) hF (fun v2 hF => ?_)
    refine j_lv [(0, .ref (Z.2.1 0)), (1, .int x1), (4, .long v1), (6, .int v2)] [2, 3, 1, 0] rfl ?_
    exact LX12_odds_306 X E hz FU x1 v1 v2 h hF
  · refine j_iconst (pc := 98) 0 X dX12_odds_98 rfl ?_
    refine j_istore (pc := 99) (fun y => [(5, .int y), (0, .ref (Z.2.1 0)), (1, .int x1), (2, .int x2), (3, .int x3), (4, .int x4)]) X dX12_odds_99 (by decide) (fun _ => rfl) hF (fun v3 hF => ?_)
    refine j_lv [(0, .ref (Z.2.1 0)), (1, .int x1), (2, .int x2), (3, .int x3), (4, .int x4), (5, .int v3)] [1, 2, 3, 4, 5, 0] rfl ?_
    exact LX12_odds_101 X E hz r90 hr90 FU x1 x2 x3 x4 v3 h hF
theorem LX12_odds_90 {Z : ZT} {G : GT} {r : Int64} {hr : Hp} (X : CX Z G cX12_odds RX12 10 6) (E : RX Z G (some .long) (some (.long r)) hr) (hz : HZM Z)  : ∀ (n : Nat) (x1 : Int32) (x2 : Int32) (x3 : Int32) (x4 : Int32) (h : Hp), lX12_odds_90   n x1 x2 x3 x4 h = some (r, hr) → J Z G 10 h 90 [(0, .ref (Z.2.1 0)), (1, .int x1), (2, .int x2), (3, .int x3), (4, .int x4)] [] := by
  intro n
  induction n with
  | zero => intro x1 x2 x3 x4 h hF; cases hF
  | succ n ih => intro x1 x2 x3 x4 h hF; exact BX12_odds_90 X E hz  (lX12_odds_90   n) ih x1 x2 x3 x4 h hF
def bX12_odds_56   (r56 : Int32 → Int32 → Int32 → Int32 → Hp → Option (Int64 × Hp)) (x1 : Int32) (x2 : Int32) (x3 : Int32) (x4 : Int32) (h : Hp) : Option (Int64 × Hp) := (if 16384 ≤ x4 then lt x2 (fun v1 => lX12_odds_90 FU x1 x2 x3 v1 h) else (if x4 = 0 then bX12_odds_80 r56 x1 x2 x3 x4 1 x4 h else bX12_odds_80 r56 x1 x2 x3 x4 0 x4 h))
def lX12_odds_56   : Nat → Int32 → Int32 → Int32 → Int32 → Hp → Option (Int64 × Hp)
  | 0 => fun _ _ _ _ _ => none
  | n + 1 => bX12_odds_56   (lX12_odds_56   n)
set_option maxRecDepth 20000 in
theorem BX12_odds_56 {Z : ZT} {G : GT} {r : Int64} {hr : Hp} (X : CX Z G cX12_odds RX12 10 6) (E : RX Z G (some .long) (some (.long r)) hr) (hz : HZM Z)  (r56 : Int32 → Int32 → Int32 → Int32 → Hp → Option (Int64 × Hp)) (hr56 : ∀ (x1 : Int32) (x2 : Int32) (x3 : Int32) (x4 : Int32) (h : Hp), r56 x1 x2 x3 x4 h = some (r, hr) → J Z G 10 h 56 [(0, .ref (Z.2.1 0)), (1, .int x1), (2, .int x2), (3, .int x3), (4, .int x4)] []) (x1 : Int32) (x2 : Int32) (x3 : Int32) (x4 : Int32) (h : Hp) (hF : bX12_odds_56   r56 x1 x2 x3 x4 h = some (r, hr)) : J Z G 10 h 56 [(0, .ref (Z.2.1 0)), (1, .int x1), (2, .int x2), (3, .int x3), (4, .int x4)] [] := by
  unfold bX12_odds_56 at hF
  refine j_iload (pc := 56) 4 X dX12_odds_56 rfl ?_
  refine j_sipush (pc := 58) 16384 X dX12_odds_58 rfl ?_
  refine j_icmp_ge (pc := 61) 87 X dX12_odds_61 rfl hF (fun hF => ?_) (fun hF => ?_)
  · refine j_iload_n (pc := 87) 2 X dX12_odds_87 rfl ?_
    refine j_istore (pc := 88) (fun y => [(4, .int y), (0, .ref (Z.2.1 0)), (1, .int x1), (2, .int x2), (3, .int x3)]) X dX12_odds_88 (by decide) (fun _ => rfl) hF (fun v1 hF => ?_)
    refine j_lv [(0, .ref (Z.2.1 0)), (1, .int x1), (2, .int x2), (3, .int x3), (4, .int v1)] [1, 2, 3, 4, 0] rfl ?_
    exact LX12_odds_90 X E hz FU x1 x2 x3 v1 h hF
  · refine j_aload_n (pc := 64) 0 X dX12_odds_64 rfl ?_
    refine j_getr (pc := 65) X dX12_odds_65 (hz _ sh_0) fl_X12_191 rfl ?_
    refine j_iload (pc := 68) 4 X dX12_odds_68 rfl ?_
    refine j_iload (pc := 70) 4 X dX12_odds_70 rfl ?_
    refine j_if_ne (pc := 72) 79 X dX12_odds_72 rfl hF (fun hF => ?_) (fun hF => ?_)
    · refine j_lconst (pc := 79) 0 X dX12_odds_79 rfl ?_
      exact BX12_odds_80 X E hz r56 hr56 x1 x2 x3 x4 0 x4 h hF
    · refine j_lconst (pc := 75) 1 X dX12_odds_75 rfl ?_
      refine j_goto (pc := 76) 80 X dX12_odds_76 rfl ?_
      exact BX12_odds_80 X E hz r56 hr56 x1 x2 x3 x4 1 x4 h hF
theorem LX12_odds_56 {Z : ZT} {G : GT} {r : Int64} {hr : Hp} (X : CX Z G cX12_odds RX12 10 6) (E : RX Z G (some .long) (some (.long r)) hr) (hz : HZM Z)  : ∀ (n : Nat) (x1 : Int32) (x2 : Int32) (x3 : Int32) (x4 : Int32) (h : Hp), lX12_odds_56   n x1 x2 x3 x4 h = some (r, hr) → J Z G 10 h 56 [(0, .ref (Z.2.1 0)), (1, .int x1), (2, .int x2), (3, .int x3), (4, .int x4)] [] := by
  intro n
  induction n with
  | zero => intro x1 x2 x3 x4 h hF; cases hF
  | succ n ih => intro x1 x2 x3 x4 h hF; exact BX12_odds_56 X E hz  (lX12_odds_56   n) ih x1 x2 x3 x4 h hF
def fX12_odds (a1 : Int32) (a2 : Int32) (a3 : Int32) (h : Hp) : Option (Int64 × Hp) := bi (fX12_hasLetter a1 h) (fun w2 h1 => (if w2 = 0 then some ((-1), h1) else bi (fX12_isYear a2 h1) (fun w4 h3 => (if w4 = 0 then some ((-1), h3) else bi (fX12_in a3 1 2 h3) (fun w6 h5 => (if w6 = 0 then some ((-1), h5) else (if (a2 + a3) ≤ 60 then ck (inb (h5.1 0 18) 2) ((if (h5.1 11 (ix (h5.1 0 18))) ≤ 4 then lt 0 (fun v7 => lX12_odds_56 FU a1 a2 a3 v7 h5) else some ((-2), h5))) else some ((-1), h5))))))))
set_option maxRecDepth 20000 in
theorem tX12_odds (Z : ZT) (a1 : Int32) (a2 : Int32) (a3 : Int32) (hz : HZM Z) (h : Hp) (r : Int64) (hr : Hp) (hF : fX12_odds a1 a2 a3 h = some (r, hr)) : MC Z yX12_odds cX12_odds 10 (some .long) 6 [.ref (Z.2.1 0), .int a1, .int a2, .int a3] h (some (.long r)) hr := by
  unfold fX12_odds at hF
  refine mc_start (by decide) (Nat.le_of_ble_eq_true rfl) (fun G X E => ?_)
  refine j_aload_n (pc := 0) 0 X dX12_odds_0 rfl ?_
  refine j_iload_n (pc := 1) 1 X dX12_odds_1 rfl ?_
  refine j_cVi (pc := 2) (As := [.int a1]) (rest := []) X dX12_odds_2 ml_X12_400 ck_X12_hasLetter cv_X12_hasLetter (hz _ sh_0) rfl (Nat.le_of_ble_eq_true rfl) rfl (Nat.le_of_ble_eq_true rfl) rfl hF (tX12_hasLetter Z a1 hz h) (fun w2 h1 hF => ?_)
  refine j_if_eq (pc := 5) 32 X dX12_odds_5 rfl hF (fun hF => ?_) (fun hF => ?_)
  · refine j_ldc2_w (pc := 32) X dX12_odds_32 k_X12_540 ?_
    exact j_lret (pc := 35) X E dX12_odds_35 hF
  · refine j_iload_n (pc := 8) 2 X dX12_odds_8 rfl ?_
    refine j_cSi (pc := 9) (As := [.int a2]) (rest := []) X dX12_odds_9 ml_X12_412 ck_X12_isYear sk_X12_isYear (Nat.le_of_ble_eq_true rfl) rfl (Nat.le_of_ble_eq_true rfl) rfl hF (tX12_isYear Z a2 trivial h1) (fun w4 h3 hF => ?_)
    refine j_if_eq (pc := 12) 32 X dX12_odds_12 rfl hF (fun hF => ?_) (fun hF => ?_)
    · refine j_ldc2_w (pc := 32) X dX12_odds_32 k_X12_540 ?_
      exact j_lret (pc := 35) X E dX12_odds_35 hF
    · refine j_iload_n (pc := 15) 3 X dX12_odds_15 rfl ?_
      refine j_iconst (pc := 16) 1 X dX12_odds_16 rfl ?_
      refine j_iconst (pc := 17) 2 X dX12_odds_17 rfl ?_
      refine j_cSi (pc := 18) (As := [.int a3, .int 1, .int 2]) (rest := []) X dX12_odds_18 ml_X12_383 ck_X12_in sk_X12_in (Nat.le_of_ble_eq_true rfl) rfl (Nat.le_of_ble_eq_true rfl) rfl hF (tX12_in Z a3 1 2 trivial h3) (fun w6 h5 hF => ?_)
      refine j_if_eq (pc := 21) 32 X dX12_odds_21 rfl hF (fun hF => ?_) (fun hF => ?_)
      · refine j_ldc2_w (pc := 32) X dX12_odds_32 k_X12_540 ?_
        exact j_lret (pc := 35) X E dX12_odds_35 hF
      · refine j_iload_n (pc := 24) 2 X dX12_odds_24 rfl ?_
        refine j_iload_n (pc := 25) 3 X dX12_odds_25 rfl ?_
        refine j_iadd (pc := 26) X dX12_odds_26 ?_
        refine j_bipush (pc := 27) 60 X dX12_odds_27 rfl ?_
        refine j_icmp_le (pc := 29) 36 X dX12_odds_29 rfl hF (fun hF => ?_) (fun hF => ?_)
        · refine j_aload_n (pc := 36) 0 X dX12_odds_36 rfl ?_
          refine j_getr (pc := 37) X dX12_odds_37 (hz _ sh_0) fl_X12_49 rfl ?_
          refine j_aload_n (pc := 40) 0 X dX12_odds_40 rfl ?_
          refine j_geti (pc := 41) X dX12_odds_41 (hz _ sh_0) fl_X12_284 rfl ?_
          refine j_iald (pc := 44) X dX12_odds_44 (hz _ sh_11) hF (fun hF => ?_)
          refine j_iconst (pc := 45) 4 X dX12_odds_45 rfl ?_
          refine j_icmp_le (pc := 46) 53 X dX12_odds_46 rfl hF (fun hF => ?_) (fun hF => ?_)
          · refine j_iconst (pc := 53) 0 X dX12_odds_53 rfl ?_
            refine j_istore (pc := 54) (fun y => [(4, .int y), (0, .ref (Z.2.1 0)), (1, .int a1), (2, .int a2), (3, .int a3)]) X dX12_odds_54 (by decide) (fun _ => rfl) hF (fun v7 hF => ?_)
            refine j_lv [(0, .ref (Z.2.1 0)), (1, .int a1), (2, .int a2), (3, .int a3), (4, .int v7)] [1, 2, 3, 4, 0] rfl ?_
            exact LX12_odds_56 X E hz FU a1 a2 a3 v7 h5 hF
          · refine j_ldc2_w (pc := 49) X dX12_odds_49 k_X12_544 ?_
            exact j_lret (pc := 52) X E dX12_odds_52 hF
        · refine j_ldc2_w (pc := 32) X dX12_odds_32 k_X12_540 ?_
          exact j_lret (pc := 35) X E dX12_odds_35 hF
theorem dX12_mixed_0 : decode cX12_mixed 0 = .ok (.iload_n 0, 1) := by decide +kernel
theorem dX12_mixed_1 : decode cX12_mixed 1 = .ok (.iload_n 1, 1) := by decide +kernel
theorem dX12_mixed_2 : decode cX12_mixed 2 = .ok (.ixor, 1) := by decide +kernel
theorem dX12_mixed_3 : decode cX12_mixed 3 = .ok (.ldc_w 553, 3) := by decide +kernel
theorem dX12_mixed_6 : decode cX12_mixed 6 = .ok (.imul, 1) := by decide +kernel
theorem dX12_mixed_7 : decode cX12_mixed 7 = .ok (.sipush 12345, 3) := by decide +kernel
theorem dX12_mixed_10 : decode cX12_mixed 10 = .ok (.iadd, 1) := by decide +kernel
theorem dX12_mixed_11 : decode cX12_mixed 11 = .ok (.istore_n 2, 1) := by decide +kernel
theorem dX12_mixed_12 : decode cX12_mixed 12 = .ok (.iload_n 2, 1) := by decide +kernel
theorem dX12_mixed_13 : decode cX12_mixed 13 = .ok (.iload_n 2, 1) := by decide +kernel
theorem dX12_mixed_14 : decode cX12_mixed 14 = .ok (.bipush 15, 2) := by decide +kernel
theorem dX12_mixed_16 : decode cX12_mixed 16 = .ok (.iushr, 1) := by decide +kernel
theorem dX12_mixed_17 : decode cX12_mixed 17 = .ok (.ixor, 1) := by decide +kernel
theorem dX12_mixed_18 : decode cX12_mixed 18 = .ok (.ireturn, 1) := by decide +kernel
def fX12_mixed (a1 : Int32) (a2 : Int32) (h : Hp) : Option (Int32 × Hp) := lt (((a1 ^^^ a2) * 1103515245) + 12345) (fun v1 => some ((v1 ^^^ (ushr v1 15)), h))
set_option maxRecDepth 20000 in
theorem tX12_mixed (Z : ZT) (a1 : Int32) (a2 : Int32) (hz : True) (h : Hp) (r : Int32) (hr : Hp) (hF : fX12_mixed a1 a2 h = some (r, hr)) : MC Z yX12_mixed cX12_mixed 3 (some .int) 0 [.int a1, .int a2] h (some (.int r)) hr := by
  unfold fX12_mixed at hF
  refine mc_start (by decide) (Nat.le_of_ble_eq_true rfl) (fun G X E => ?_)
  refine j_iload_n (pc := 0) 0 X dX12_mixed_0 rfl ?_
  refine j_iload_n (pc := 1) 1 X dX12_mixed_1 rfl ?_
  refine j_ixor (pc := 2) X dX12_mixed_2 ?_
  refine j_ldc_w (pc := 3) X dX12_mixed_3 k_X12_553 ?_
  refine j_imul (pc := 6) X dX12_mixed_6 ?_
  refine j_sipush (pc := 7) 12345 X dX12_mixed_7 rfl ?_
  refine j_iadd (pc := 10) X dX12_mixed_10 ?_
  refine j_istore_n (pc := 11) (fun y => [(2, .int y), (0, .int a1), (1, .int a2)]) X dX12_mixed_11 (by decide) (fun _ => rfl) hF (fun v1 hF => ?_)
  refine j_iload_n (pc := 12) 0 X dX12_mixed_12 rfl ?_
  refine j_iload_n (pc := 13) 0 X dX12_mixed_13 rfl ?_
  refine j_bipush (pc := 14) 15 X dX12_mixed_14 rfl ?_
  refine j_iushr (pc := 16) X dX12_mixed_16 ?_
  refine j_ixor (pc := 17) X dX12_mixed_17 ?_
  exact j_iret (pc := 18) X E dX12_mixed_18 hF
theorem dX12_lot_0 : decode cX12_lot 0 = .ok (.iload_n 0, 1) := by decide +kernel
theorem dX12_lot_1 : decode cX12_lot 1 = .ok (.bipush 18, 2) := by decide +kernel
theorem dX12_lot_3 : decode cX12_lot 3 = .ok (.invokestatic 554, 3) := by decide +kernel
theorem dX12_lot_6 : decode cX12_lot 6 = .ok (.iload_n 1, 1) := by decide +kernel
theorem dX12_lot_7 : decode cX12_lot 7 = .ok (.invokestatic 554, 3) := by decide +kernel
theorem dX12_lot_10 : decode cX12_lot 10 = .ok (.iconst 1, 1) := by decide +kernel
theorem dX12_lot_11 : decode cX12_lot 11 = .ok (.iushr, 1) := by decide +kernel
theorem dX12_lot_12 : decode cX12_lot 12 = .ok (.iload_n 2, 1) := by decide +kernel
theorem dX12_lot_13 : decode cX12_lot 13 = .ok (.irem, 1) := by decide +kernel
theorem dX12_lot_14 : decode cX12_lot 14 = .ok (.ireturn, 1) := by decide +kernel
def fX12_lot (a1 : Int32) (a2 : Int32) (a3 : Int32) (h : Hp) : Option (Int32 × Hp) := bi (fX12_mixed a1 18 h) (fun w2 h1 => bi (fX12_mixed w2 a2 h1) (fun w4 h3 => ck (nz a3) (some (((ushr w4 1) - (ushr w4 1) / a3 * a3), h3))))
set_option maxRecDepth 20000 in
theorem tX12_lot (Z : ZT) (a1 : Int32) (a2 : Int32) (a3 : Int32) (hz : True) (h : Hp) (r : Int32) (hr : Hp) (hF : fX12_lot a1 a2 a3 h = some (r, hr)) : MC Z yX12_lot cX12_lot 3 (some .int) 1 [.int a1, .int a2, .int a3] h (some (.int r)) hr := by
  unfold fX12_lot at hF
  refine mc_start (by decide) (Nat.le_of_ble_eq_true rfl) (fun G X E => ?_)
  refine j_iload_n (pc := 0) 0 X dX12_lot_0 rfl ?_
  refine j_bipush (pc := 1) 18 X dX12_lot_1 rfl ?_
  refine j_cSi (pc := 3) (As := [.int a1, .int 18]) (rest := []) X dX12_lot_3 ml_X12_554 ck_X12_mixed sk_X12_mixed (Nat.le_of_ble_eq_true rfl) rfl (Nat.le_of_ble_eq_true rfl) rfl hF (tX12_mixed Z a1 18 trivial h) (fun w2 h1 hF => ?_)
  refine j_iload_n (pc := 6) 1 X dX12_lot_6 rfl ?_
  refine j_cSi (pc := 7) (As := [.int w2, .int a2]) (rest := []) X dX12_lot_7 ml_X12_554 ck_X12_mixed sk_X12_mixed (Nat.le_of_ble_eq_true rfl) rfl (Nat.le_of_ble_eq_true rfl) rfl hF (tX12_mixed Z w2 a2 trivial h1) (fun w4 h3 hF => ?_)
  refine j_iconst (pc := 10) 1 X dX12_lot_10 rfl ?_
  refine j_iushr (pc := 11) X dX12_lot_11 ?_
  refine j_iload_n (pc := 12) 2 X dX12_lot_12 rfl ?_
  refine j_irem (pc := 13) X dX12_lot_13 hF (fun hF => ?_)
  exact j_iret (pc := 14) X E dX12_lot_14 hF
theorem dX12_livesBy_0 : decode cX12_livesBy 0 = .ok (.aload_n 0, 1) := by decide +kernel
theorem dX12_livesBy_1 : decode cX12_livesBy 1 = .ok (.invokevirtual 469, 3) := by decide +kernel
theorem dX12_livesBy_4 : decode cX12_livesBy 4 = .ok (.iconst 0, 1) := by decide +kernel
theorem dX12_livesBy_5 : decode cX12_livesBy 5 = .ok (.istore_n 3, 1) := by decide +kernel
theorem dX12_livesBy_6 : decode cX12_livesBy 6 = .ok (.iload_n 3, 1) := by decide +kernel
theorem dX12_livesBy_7 : decode cX12_livesBy 7 = .ok (.bipush 60, 2) := by decide +kernel
theorem dX12_livesBy_9 : decode cX12_livesBy 9 = .ok (.if_icmp .ge 132, 3) := by decide +kernel
theorem dX12_livesBy_12 : decode cX12_livesBy 12 = .ok (.iconst 0, 1) := by decide +kernel
theorem dX12_livesBy_13 : decode cX12_livesBy 13 = .ok (.istore 4, 2) := by decide +kernel
theorem dX12_livesBy_15 : decode cX12_livesBy 15 = .ok (.iload 4, 2) := by decide +kernel
theorem dX12_livesBy_17 : decode cX12_livesBy 17 = .ok (.aload_n 0, 1) := by decide +kernel
theorem dX12_livesBy_18 : decode cX12_livesBy 18 = .ok (.getfield 49, 3) := by decide +kernel
theorem dX12_livesBy_21 : decode cX12_livesBy 21 = .ok (.aload_n 0, 1) := by decide +kernel
theorem dX12_livesBy_22 : decode cX12_livesBy 22 = .ok (.getfield 284, 3) := by decide +kernel
theorem dX12_livesBy_25 : decode cX12_livesBy 25 = .ok (.iaload, 1) := by decide +kernel
theorem dX12_livesBy_26 : decode cX12_livesBy 26 = .ok (.if_icmp .ge 57, 3) := by decide +kernel
theorem dX12_livesBy_29 : decode cX12_livesBy 29 = .ok (.aload_n 0, 1) := by decide +kernel
theorem dX12_livesBy_30 : decode cX12_livesBy 30 = .ok (.getfield 441, 3) := by decide +kernel
theorem dX12_livesBy_33 : decode cX12_livesBy 33 = .ok (.iload 4, 2) := by decide +kernel
theorem dX12_livesBy_35 : decode cX12_livesBy 35 = .ok (.ishr, 1) := by decide +kernel
theorem dX12_livesBy_36 : decode cX12_livesBy 36 = .ok (.iconst 1, 1) := by decide +kernel
theorem dX12_livesBy_37 : decode cX12_livesBy 37 = .ok (.iand, 1) := by decide +kernel
theorem dX12_livesBy_38 : decode cX12_livesBy 38 = .ok (.ifCond .ne 39, 3) := by decide +kernel
theorem dX12_livesBy_41 : decode cX12_livesBy 41 = .ok (.iload_n 1, 1) := by decide +kernel
theorem dX12_livesBy_42 : decode cX12_livesBy 42 = .ok (.bipush 100, 2) := by decide +kernel
theorem dX12_livesBy_44 : decode cX12_livesBy 44 = .ok (.iload_n 3, 1) := by decide +kernel
theorem dX12_livesBy_45 : decode cX12_livesBy 45 = .ok (.imul, 1) := by decide +kernel
theorem dX12_livesBy_46 : decode cX12_livesBy 46 = .ok (.iload 4, 2) := by decide +kernel
theorem dX12_livesBy_48 : decode cX12_livesBy 48 = .ok (.iadd, 1) := by decide +kernel
theorem dX12_livesBy_49 : decode cX12_livesBy 49 = .ok (.bipush 100, 2) := by decide +kernel
theorem dX12_livesBy_51 : decode cX12_livesBy 51 = .ok (.invokestatic 557, 3) := by decide +kernel
theorem dX12_livesBy_54 : decode cX12_livesBy 54 = .ok (.aload_n 0, 1) := by decide +kernel
theorem dX12_livesBy_55 : decode cX12_livesBy 55 = .ok (.iload 4, 2) := by decide +kernel
theorem dX12_livesBy_57 : decode cX12_livesBy 57 = .ok (.iload_n 3, 1) := by decide +kernel
theorem dX12_livesBy_58 : decode cX12_livesBy 58 = .ok (.invokevirtual 415, 3) := by decide +kernel
theorem dX12_livesBy_61 : decode cX12_livesBy 61 = .ok (.if_icmp .ge 16, 3) := by decide +kernel
theorem dX12_livesBy_64 : decode cX12_livesBy 64 = .ok (.aload_n 0, 1) := by decide +kernel
theorem dX12_livesBy_65 : decode cX12_livesBy 65 = .ok (.dup, 1) := by decide +kernel
theorem dX12_livesBy_66 : decode cX12_livesBy 66 = .ok (.getfield 441, 3) := by decide +kernel
theorem dX12_livesBy_69 : decode cX12_livesBy 69 = .ok (.iconst 1, 1) := by decide +kernel
theorem dX12_livesBy_70 : decode cX12_livesBy 70 = .ok (.iload 4, 2) := by decide +kernel
theorem dX12_livesBy_72 : decode cX12_livesBy 72 = .ok (.ishl, 1) := by decide +kernel
theorem dX12_livesBy_73 : decode cX12_livesBy 73 = .ok (.ior, 1) := by decide +kernel
theorem dX12_livesBy_74 : decode cX12_livesBy 74 = .ok (.putfield 441, 3) := by decide +kernel
theorem dX12_livesBy_77 : decode cX12_livesBy 77 = .ok (.iinc 4 1, 3) := by decide +kernel
theorem dX12_livesBy_80 : decode cX12_livesBy 80 = .ok (.goto (-65), 3) := by decide +kernel
theorem dX12_livesBy_83 : decode cX12_livesBy 83 = .ok (.iconst 0, 1) := by decide +kernel
theorem dX12_livesBy_84 : decode cX12_livesBy 84 = .ok (.istore 4, 2) := by decide +kernel
theorem dX12_livesBy_86 : decode cX12_livesBy 86 = .ok (.iload 4, 2) := by decide +kernel
theorem dX12_livesBy_88 : decode cX12_livesBy 88 = .ok (.iconst 4, 1) := by decide +kernel
theorem dX12_livesBy_89 : decode cX12_livesBy 89 = .ok (.if_icmp .ge 36, 3) := by decide +kernel
theorem dX12_livesBy_92 : decode cX12_livesBy 92 = .ok (.iload_n 1, 1) := by decide +kernel
theorem dX12_livesBy_93 : decode cX12_livesBy 93 = .ok (.bipush 100, 2) := by decide +kernel
theorem dX12_livesBy_95 : decode cX12_livesBy 95 = .ok (.iload_n 3, 1) := by decide +kernel
theorem dX12_livesBy_96 : decode cX12_livesBy 96 = .ok (.imul, 1) := by decide +kernel
theorem dX12_livesBy_97 : decode cX12_livesBy 97 = .ok (.bipush 50, 2) := by decide +kernel
theorem dX12_livesBy_99 : decode cX12_livesBy 99 = .ok (.iadd, 1) := by decide +kernel
theorem dX12_livesBy_100 : decode cX12_livesBy 100 = .ok (.iload 4, 2) := by decide +kernel
theorem dX12_livesBy_102 : decode cX12_livesBy 102 = .ok (.iadd, 1) := by decide +kernel
theorem dX12_livesBy_103 : decode cX12_livesBy 103 = .ok (.bipush 100, 2) := by decide +kernel
theorem dX12_livesBy_105 : decode cX12_livesBy 105 = .ok (.invokestatic 557, 3) := by decide +kernel
theorem dX12_livesBy_108 : decode cX12_livesBy 108 = .ok (.iload_n 2, 1) := by decide +kernel
theorem dX12_livesBy_109 : decode cX12_livesBy 109 = .ok (.if_icmp .ge 10, 3) := by decide +kernel
theorem dX12_livesBy_112 : decode cX12_livesBy 112 = .ok (.aload_n 0, 1) := by decide +kernel
theorem dX12_livesBy_113 : decode cX12_livesBy 113 = .ok (.iload 4, 2) := by decide +kernel
theorem dX12_livesBy_115 : decode cX12_livesBy 115 = .ok (.iload_n 3, 1) := by decide +kernel
theorem dX12_livesBy_116 : decode cX12_livesBy 116 = .ok (.invokevirtual 460, 3) := by decide +kernel
theorem dX12_livesBy_119 : decode cX12_livesBy 119 = .ok (.iinc 4 1, 3) := by decide +kernel
theorem dX12_livesBy_122 : decode cX12_livesBy 122 = .ok (.goto (-36), 3) := by decide +kernel
theorem dX12_livesBy_125 : decode cX12_livesBy 125 = .ok (.aload_n 0, 1) := by decide +kernel
theorem dX12_livesBy_126 : decode cX12_livesBy 126 = .ok (.iload_n 3, 1) := by decide +kernel
theorem dX12_livesBy_127 : decode cX12_livesBy 127 = .ok (.invokevirtual 476, 3) := by decide +kernel
theorem dX12_livesBy_130 : decode cX12_livesBy 130 = .ok (.aload_n 0, 1) := by decide +kernel
theorem dX12_livesBy_131 : decode cX12_livesBy 131 = .ok (.iload_n 3, 1) := by decide +kernel
theorem dX12_livesBy_132 : decode cX12_livesBy 132 = .ok (.invokevirtual 479, 3) := by decide +kernel
theorem dX12_livesBy_135 : decode cX12_livesBy 135 = .ok (.iinc 3 1, 3) := by decide +kernel
theorem dX12_livesBy_138 : decode cX12_livesBy 138 = .ok (.goto (-132), 3) := by decide +kernel
theorem dX12_livesBy_141 : decode cX12_livesBy 141 = .ok (.return_, 1) := by decide +kernel
def bX12_livesBy_77  (r6 : Int32 → Int32 → Int32 → Hp → Option (Hp)) (r15 : Int32 → Int32 → Int32 → Int32 → Hp → Option (Hp)) (x1 : Int32) (x2 : Int32) (x3 : Int32) (x4 : Int32) (h : Hp) : Option (Hp) := lt (x4 + 1) (fun v1 => r15 x1 x2 x3 v1 h)
set_option maxRecDepth 20000 in
theorem BX12_livesBy_77 {Z : ZT} {G : GT} {hr : Hp} (X : CX Z G cX12_livesBy RX12 5 6) (E : RX Z G none (none) hr) (hz : HZM Z) (r6 : Int32 → Int32 → Int32 → Hp → Option (Hp)) (hr6 : ∀ (x1 : Int32) (x2 : Int32) (x3 : Int32) (h : Hp), r6 x1 x2 x3 h = some hr → J Z G 5 h 6 [(0, .ref (Z.2.1 0)), (1, .int x1), (2, .int x2), (3, .int x3)] []) (r15 : Int32 → Int32 → Int32 → Int32 → Hp → Option (Hp)) (hr15 : ∀ (x1 : Int32) (x2 : Int32) (x3 : Int32) (x4 : Int32) (h : Hp), r15 x1 x2 x3 x4 h = some hr → J Z G 5 h 15 [(0, .ref (Z.2.1 0)), (1, .int x1), (2, .int x2), (3, .int x3), (4, .int x4)] []) (x1 : Int32) (x2 : Int32) (x3 : Int32) (x4 : Int32) (h : Hp) (hF : bX12_livesBy_77  r6 r15 x1 x2 x3 x4 h = some hr) : J Z G 5 h 77 [(0, .ref (Z.2.1 0)), (1, .int x1), (2, .int x2), (3, .int x3), (4, .int x4)] [] := by
  unfold bX12_livesBy_77 at hF
  refine j_iinc (pc := 77) 4 (x4 + 1) (fun y => [(4, .int y), (0, .ref (Z.2.1 0)), (1, .int x1), (2, .int x2), (3, .int x3)]) X dX12_livesBy_77 rfl rfl (by decide) (fun _ => rfl) hF (fun v1 hF => ?_)
  refine j_goto (pc := 80) 15 X dX12_livesBy_80 rfl ?_
  refine j_lv [(0, .ref (Z.2.1 0)), (1, .int x1), (2, .int x2), (3, .int x3), (4, .int v1)] [1, 2, 3, 4, 0] rfl ?_
  exact hr15 x1 x2 x3 v1 h hF
def bX12_livesBy_119  (r6 : Int32 → Int32 → Int32 → Hp → Option (Hp)) (r86 : Int32 → Int32 → Int32 → Int32 → Hp → Option (Hp)) (x1 : Int32) (x2 : Int32) (x3 : Int32) (x4 : Int32) (h : Hp) : Option (Hp) := lt (x4 + 1) (fun v1 => r86 x1 x2 x3 v1 h)
set_option maxRecDepth 20000 in
theorem BX12_livesBy_119 {Z : ZT} {G : GT} {hr : Hp} (X : CX Z G cX12_livesBy RX12 5 6) (E : RX Z G none (none) hr) (hz : HZM Z) (r6 : Int32 → Int32 → Int32 → Hp → Option (Hp)) (hr6 : ∀ (x1 : Int32) (x2 : Int32) (x3 : Int32) (h : Hp), r6 x1 x2 x3 h = some hr → J Z G 5 h 6 [(0, .ref (Z.2.1 0)), (1, .int x1), (2, .int x2), (3, .int x3)] []) (r86 : Int32 → Int32 → Int32 → Int32 → Hp → Option (Hp)) (hr86 : ∀ (x1 : Int32) (x2 : Int32) (x3 : Int32) (x4 : Int32) (h : Hp), r86 x1 x2 x3 x4 h = some hr → J Z G 5 h 86 [(0, .ref (Z.2.1 0)), (1, .int x1), (2, .int x2), (3, .int x3), (4, .int x4)] []) (x1 : Int32) (x2 : Int32) (x3 : Int32) (x4 : Int32) (h : Hp) (hF : bX12_livesBy_119  r6 r86 x1 x2 x3 x4 h = some hr) : J Z G 5 h 119 [(0, .ref (Z.2.1 0)), (1, .int x1), (2, .int x2), (3, .int x3), (4, .int x4)] [] := by
  unfold bX12_livesBy_119 at hF
  refine j_iinc (pc := 119) 4 (x4 + 1) (fun y => [(4, .int y), (0, .ref (Z.2.1 0)), (1, .int x1), (2, .int x2), (3, .int x3)]) X dX12_livesBy_119 rfl rfl (by decide) (fun _ => rfl) hF (fun v1 hF => ?_)
  refine j_goto (pc := 122) 86 X dX12_livesBy_122 rfl ?_
  refine j_lv [(0, .ref (Z.2.1 0)), (1, .int x1), (2, .int x2), (3, .int x3), (4, .int v1)] [1, 2, 3, 4, 0] rfl ?_
  exact hr86 x1 x2 x3 v1 h hF
def bX12_livesBy_86  (r6 : Int32 → Int32 → Int32 → Hp → Option (Hp)) (r86 : Int32 → Int32 → Int32 → Int32 → Hp → Option (Hp)) (x1 : Int32) (x2 : Int32) (x3 : Int32) (x4 : Int32) (h : Hp) : Option (Hp) := (if 4 ≤ x4 then bv (fX12_pays x3 h) (fun h1 => bv (fX12_looksNow x3 h1) (fun h2 => lt (x3 + 1) (fun v3 => r6 x1 x2 v3 h2))) else bi (fX12_lot x1 ((((100 : Int32) * x3) + 50) + x4) 100 h) (fun w5 h4 => (if x2 ≤ w5 then bX12_livesBy_119 r6 r86 x1 x2 x3 x4 h4 else bv (fX12_floods x4 x3 h4) (fun h6 => bX12_livesBy_119 r6 r86 x1 x2 x3 x4 h6))))
def lX12_livesBy_86  (r6 : Int32 → Int32 → Int32 → Hp → Option (Hp)) : Nat → Int32 → Int32 → Int32 → Int32 → Hp → Option (Hp)
  | 0 => fun _ _ _ _ _ => none
  | n + 1 => bX12_livesBy_86  r6 (lX12_livesBy_86  r6 n)
set_option maxRecDepth 20000 in
theorem BX12_livesBy_86 {Z : ZT} {G : GT} {hr : Hp} (X : CX Z G cX12_livesBy RX12 5 6) (E : RX Z G none (none) hr) (hz : HZM Z) (r6 : Int32 → Int32 → Int32 → Hp → Option (Hp)) (hr6 : ∀ (x1 : Int32) (x2 : Int32) (x3 : Int32) (h : Hp), r6 x1 x2 x3 h = some hr → J Z G 5 h 6 [(0, .ref (Z.2.1 0)), (1, .int x1), (2, .int x2), (3, .int x3)] []) (r86 : Int32 → Int32 → Int32 → Int32 → Hp → Option (Hp)) (hr86 : ∀ (x1 : Int32) (x2 : Int32) (x3 : Int32) (x4 : Int32) (h : Hp), r86 x1 x2 x3 x4 h = some hr → J Z G 5 h 86 [(0, .ref (Z.2.1 0)), (1, .int x1), (2, .int x2), (3, .int x3), (4, .int x4)] []) (x1 : Int32) (x2 : Int32) (x3 : Int32) (x4 : Int32) (h : Hp) (hF : bX12_livesBy_86  r6 r86 x1 x2 x3 x4 h = some hr) : J Z G 5 h 86 [(0, .ref (Z.2.1 0)), (1, .int x1), (2, .int x2), (3, .int x3), (4, .int x4)] [] := by
  unfold bX12_livesBy_86 at hF
  refine j_iload (pc := 86) 4 X dX12_livesBy_86 rfl ?_
  refine j_iconst (pc := 88) 4 X dX12_livesBy_88 rfl ?_
  refine j_icmp_ge (pc := 89) 125 X dX12_livesBy_89 rfl hF (fun hF => ?_) (fun hF => ?_)
  · refine j_aload_n (pc := 125) 0 X dX12_livesBy_125 rfl ?_
    refine j_iload_n (pc := 126) 3 X dX12_livesBy_126 rfl ?_
    refine j_cVv (pc := 127) (As := [.int x3]) (rest := []) X dX12_livesBy_127 ml_X12_476 ck_X12_pays cv_X12_pays (hz _ sh_0) rfl (Nat.le_of_ble_eq_true rfl) rfl (Nat.le_of_ble_eq_true rfl) rfl hF (tX12_pays Z x3 hz h) (fun h1 hF => ?_)
    refine j_aload_n (pc := 130) 0 X dX12_livesBy_130 rfl ?_
    refine j_iload_n (pc := 131) 3 X dX12_livesBy_131 rfl ?_
    refine j_cVv (pc := 132) (As := [.int x3]) (rest := []) X dX12_livesBy_132 ml_X12_479 ck_X12_looksNow cv_X12_looksNow (hz _ sh_0) rfl (Nat.le_of_ble_eq_true rfl) rfl (Nat.le_of_ble_eq_true rfl) rfl hF (tX12_looksNow Z x3 hz h1) (fun h2 hF => ?_)
    refine j_iinc (pc := 135) 3 (x3 + 1) (fun y => [(3, .int y), (0, .ref (Z.2.1 0)), (1, .int x1), (2, .int x2), (4, .int x4)]) X dX12_livesBy_135 rfl rfl (by decide) (fun _ => rfl) hF (fun v3 hF => ?_)
    refine j_goto (pc := 138) 6 X dX12_livesBy_138 rfl ?_
    refine j_lv [(0, .ref (Z.2.1 0)), (1, .int x1), (2, .int x2), (3, .int v3)] [1, 2, 3, 0] rfl ?_
    exact hr6 x1 x2 v3 h2 hF
  · refine j_iload_n (pc := 92) 1 X dX12_livesBy_92 rfl ?_
    refine j_bipush (pc := 93) 100 X dX12_livesBy_93 rfl ?_
    refine j_iload_n (pc := 95) 3 X dX12_livesBy_95 rfl ?_
    refine j_imul (pc := 96) X dX12_livesBy_96 ?_
    refine j_bipush (pc := 97) 50 X dX12_livesBy_97 rfl ?_
    refine j_iadd (pc := 99) X dX12_livesBy_99 ?_
    refine j_iload (pc := 100) 4 X dX12_livesBy_100 rfl ?_
    refine j_iadd (pc := 102) X dX12_livesBy_102 ?_
    refine j_bipush (pc := 103) 100 X dX12_livesBy_103 rfl ?_
    refine j_cSi (pc := 105) (As := [.int x1, .int ((((100 : Int32) * x3) + 50) + x4), .int 100]) (rest := []) X dX12_livesBy_105 ml_X12_557 ck_X12_lot sk_X12_lot (Nat.le_of_ble_eq_true rfl) rfl (Nat.le_of_ble_eq_true rfl) rfl hF (tX12_lot Z x1 ((((100 : Int32) * x3) + 50) + x4) 100 trivial h) (fun w5 h4 hF => ?_)
    refine j_iload_n (pc := 108) 2 X dX12_livesBy_108 rfl ?_
    refine j_icmp_ge (pc := 109) 119 X dX12_livesBy_109 rfl hF (fun hF => ?_) (fun hF => ?_)
    · exact BX12_livesBy_119 X E hz r6 hr6 r86 hr86 x1 x2 x3 x4 h4 hF
    · refine j_aload_n (pc := 112) 0 X dX12_livesBy_112 rfl ?_
      refine j_iload (pc := 113) 4 X dX12_livesBy_113 rfl ?_
      refine j_iload_n (pc := 115) 3 X dX12_livesBy_115 rfl ?_
      refine j_cVv (pc := 116) (As := [.int x4, .int x3]) (rest := []) X dX12_livesBy_116 ml_X12_460 ck_X12_floods cv_X12_floods (hz _ sh_0) rfl (Nat.le_of_ble_eq_true rfl) rfl (Nat.le_of_ble_eq_true rfl) rfl hF (tX12_floods Z x4 x3 hz h4) (fun h6 hF => ?_)
      exact BX12_livesBy_119 X E hz r6 hr6 r86 hr86 x1 x2 x3 x4 h6 hF
theorem LX12_livesBy_86 {Z : ZT} {G : GT} {hr : Hp} (X : CX Z G cX12_livesBy RX12 5 6) (E : RX Z G none (none) hr) (hz : HZM Z) (r6 : Int32 → Int32 → Int32 → Hp → Option (Hp)) (hr6 : ∀ (x1 : Int32) (x2 : Int32) (x3 : Int32) (h : Hp), r6 x1 x2 x3 h = some hr → J Z G 5 h 6 [(0, .ref (Z.2.1 0)), (1, .int x1), (2, .int x2), (3, .int x3)] []) : ∀ (n : Nat) (x1 : Int32) (x2 : Int32) (x3 : Int32) (x4 : Int32) (h : Hp), lX12_livesBy_86  r6 n x1 x2 x3 x4 h = some hr → J Z G 5 h 86 [(0, .ref (Z.2.1 0)), (1, .int x1), (2, .int x2), (3, .int x3), (4, .int x4)] [] := by
  intro n
  induction n with
  | zero => intro x1 x2 x3 x4 h hF; cases hF
  | succ n ih => intro x1 x2 x3 x4 h hF; exact BX12_livesBy_86 X E hz r6 hr6 (lX12_livesBy_86  r6 n) ih x1 x2 x3 x4 h hF
def bX12_livesBy_15  (r6 : Int32 → Int32 → Int32 → Hp → Option (Hp)) (r15 : Int32 → Int32 → Int32 → Int32 → Hp → Option (Hp)) (x1 : Int32) (x2 : Int32) (x3 : Int32) (x4 : Int32) (h : Hp) : Option (Hp) := ck (inb (h.1 0 18) 2) ((if (h.1 11 (ix (h.1 0 18))) ≤ x4 then lt 0 (fun v1 => lX12_livesBy_86 r6 FU x1 x2 x3 v1 h) else (if (((h.1 0 69) >>> (x4 &&& 31)) &&& 1) = 0 then bi (fX12_lot x1 (((100 : Int32) * x3) + x4) 100 h) (fun w3 h2 => bi (fX12_diesBy x4 x3 h2) (fun w5 h4 => (if w5 ≤ w3 then bX12_livesBy_77 r6 r15 x1 x2 x3 x4 h4 else lt (wI h4 0 69 ((h4.1 0 69) ||| ((1 : Int32) <<< (x4 &&& 31)))) (fun h6 => bX12_livesBy_77 r6 r15 x1 x2 x3 x4 h6)))) else bX12_livesBy_77 r6 r15 x1 x2 x3 x4 h)))
def lX12_livesBy_15  (r6 : Int32 → Int32 → Int32 → Hp → Option (Hp)) : Nat → Int32 → Int32 → Int32 → Int32 → Hp → Option (Hp)
  | 0 => fun _ _ _ _ _ => none
  | n + 1 => bX12_livesBy_15  r6 (lX12_livesBy_15  r6 n)
set_option maxRecDepth 20000 in
theorem BX12_livesBy_15 {Z : ZT} {G : GT} {hr : Hp} (X : CX Z G cX12_livesBy RX12 5 6) (E : RX Z G none (none) hr) (hz : HZM Z) (r6 : Int32 → Int32 → Int32 → Hp → Option (Hp)) (hr6 : ∀ (x1 : Int32) (x2 : Int32) (x3 : Int32) (h : Hp), r6 x1 x2 x3 h = some hr → J Z G 5 h 6 [(0, .ref (Z.2.1 0)), (1, .int x1), (2, .int x2), (3, .int x3)] []) (r15 : Int32 → Int32 → Int32 → Int32 → Hp → Option (Hp)) (hr15 : ∀ (x1 : Int32) (x2 : Int32) (x3 : Int32) (x4 : Int32) (h : Hp), r15 x1 x2 x3 x4 h = some hr → J Z G 5 h 15 [(0, .ref (Z.2.1 0)), (1, .int x1), (2, .int x2), (3, .int x3), (4, .int x4)] []) (x1 : Int32) (x2 : Int32) (x3 : Int32) (x4 : Int32) (h : Hp) (hF : bX12_livesBy_15  r6 r15 x1 x2 x3 x4 h = some hr) : J Z G 5 h 15 [(0, .ref (Z.2.1 0)), (1, .int x1), (2, .int x2), (3, .int x3), (4, .int x4)] [] := by
  unfold bX12_livesBy_15 at hF
  refine j_iload (pc := 15) 4 X dX12_livesBy_15 rfl ?_
  refine j_aload_n (pc := 17) 0 X dX12_livesBy_17 rfl ?_
  refine j_getr (pc := 18) X dX12_livesBy_18 (hz _ sh_0) fl_X12_49 rfl ?_
  refine j_aload_n (pc := 21) 0 X dX12_livesBy_21 rfl ?_
  refine j_geti (pc := 22) X dX12_livesBy_22 (hz _ sh_0) fl_X12_284 rfl ?_
  refine j_iald (pc := 25) X dX12_livesBy_25 (hz _ sh_11) hF (fun hF => ?_)
  refine j_icmp_ge (pc := 26) 83 X dX12_livesBy_26 rfl hF (fun hF => ?_) (fun hF => ?_)
  · refine j_iconst (pc := 83) 0 X dX12_livesBy_83 rfl ?_
    refine j_istore (pc := 84) (fun y => [(4, .int y), (0, .ref (Z.2.1 0)), (1, .int x1), (2, .int x2), (3, .int x3)]) X dX12_livesBy_84 (by decide) (fun _ => rfl) hF (fun v1 hF => ?_)
    refine j_lv [(0, .ref (Z.2.1 0)), (1, .int x1), (2, .int x2), (3, .int x3), (4, .int v1)] [1, 2, 3, 4, 0] rfl ?_
    exact LX12_livesBy_86 X E hz r6 hr6 FU x1 x2 x3 v1 h hF
  · refine j_aload_n (pc := 29) 0 X dX12_livesBy_29 rfl ?_
    refine j_geti (pc := 30) X dX12_livesBy_30 (hz _ sh_0) fl_X12_441 rfl ?_
    refine j_iload (pc := 33) 4 X dX12_livesBy_33 rfl ?_
    refine j_ishr (pc := 35) X dX12_livesBy_35 ?_
    refine j_iconst (pc := 36) 1 X dX12_livesBy_36 rfl ?_
    refine j_iand (pc := 37) X dX12_livesBy_37 ?_
    refine j_if_ne (pc := 38) 77 X dX12_livesBy_38 rfl hF (fun hF => ?_) (fun hF => ?_)
    · exact BX12_livesBy_77 X E hz r6 hr6 r15 hr15 x1 x2 x3 x4 h hF
    · refine j_iload_n (pc := 41) 1 X dX12_livesBy_41 rfl ?_
      refine j_bipush (pc := 42) 100 X dX12_livesBy_42 rfl ?_
      refine j_iload_n (pc := 44) 3 X dX12_livesBy_44 rfl ?_
      refine j_imul (pc := 45) X dX12_livesBy_45 ?_
      refine j_iload (pc := 46) 4 X dX12_livesBy_46 rfl ?_
      refine j_iadd (pc := 48) X dX12_livesBy_48 ?_
      refine j_bipush (pc := 49) 100 X dX12_livesBy_49 rfl ?_
      refine j_cSi (pc := 51) (As := [.int x1, .int (((100 : Int32) * x3) + x4), .int 100]) (rest := []) X dX12_livesBy_51 ml_X12_557 ck_X12_lot sk_X12_lot (Nat.le_of_ble_eq_true rfl) rfl (Nat.le_of_ble_eq_true rfl) rfl hF (tX12_lot Z x1 (((100 : Int32) * x3) + x4) 100 trivial h) (fun w3 h2 hF => ?_)
      refine j_aload_n (pc := 54) 0 X dX12_livesBy_54 rfl ?_
      refine j_iload (pc := 55) 4 X dX12_livesBy_55 rfl ?_
      refine j_iload_n (pc := 57) 3 X dX12_livesBy_57 rfl ?_
      refine j_cVi (pc := 58) (As := [.int x4, .int x3]) (rest := [.int w3]) X dX12_livesBy_58 ml_X12_415 ck_X12_diesBy cv_X12_diesBy (hz _ sh_0) rfl (Nat.le_of_ble_eq_true rfl) rfl (Nat.le_of_ble_eq_true rfl) rfl hF (tX12_diesBy Z x4 x3 hz h2) (fun w5 h4 hF => ?_)
      refine j_icmp_ge (pc := 61) 77 X dX12_livesBy_61 rfl hF (fun hF => ?_) (fun hF => ?_)
      · exact BX12_livesBy_77 X E hz r6 hr6 r15 hr15 x1 x2 x3 x4 h4 hF
      · refine j_aload_n (pc := 64) 0 X dX12_livesBy_64 rfl ?_
        refine j_dup (pc := 65) X dX12_livesBy_65 rfl ?_
        refine j_geti (pc := 66) X dX12_livesBy_66 (hz _ sh_0) fl_X12_441 rfl ?_
        refine j_iconst (pc := 69) 1 X dX12_livesBy_69 rfl ?_
        refine j_iload (pc := 70) 4 X dX12_livesBy_70 rfl ?_
        refine j_ishl (pc := 72) X dX12_livesBy_72 ?_
        refine j_ior (pc := 73) X dX12_livesBy_73 ?_
        refine j_puti (pc := 74) X dX12_livesBy_74 (hz _ sh_0) fp_X12_441 rfl hF (fun h6 hF => ?_)
        exact BX12_livesBy_77 X E hz r6 hr6 r15 hr15 x1 x2 x3 x4 h6 hF
theorem LX12_livesBy_15 {Z : ZT} {G : GT} {hr : Hp} (X : CX Z G cX12_livesBy RX12 5 6) (E : RX Z G none (none) hr) (hz : HZM Z) (r6 : Int32 → Int32 → Int32 → Hp → Option (Hp)) (hr6 : ∀ (x1 : Int32) (x2 : Int32) (x3 : Int32) (h : Hp), r6 x1 x2 x3 h = some hr → J Z G 5 h 6 [(0, .ref (Z.2.1 0)), (1, .int x1), (2, .int x2), (3, .int x3)] []) : ∀ (n : Nat) (x1 : Int32) (x2 : Int32) (x3 : Int32) (x4 : Int32) (h : Hp), lX12_livesBy_15  r6 n x1 x2 x3 x4 h = some hr → J Z G 5 h 15 [(0, .ref (Z.2.1 0)), (1, .int x1), (2, .int x2), (3, .int x3), (4, .int x4)] [] := by
  intro n
  induction n with
  | zero => intro x1 x2 x3 x4 h hF; cases hF
  | succ n ih => intro x1 x2 x3 x4 h hF; exact BX12_livesBy_15 X E hz r6 hr6 (lX12_livesBy_15  r6 n) ih x1 x2 x3 x4 h hF
def bX12_livesBy_6   (r6 : Int32 → Int32 → Int32 → Hp → Option (Hp)) (x1 : Int32) (x2 : Int32) (x3 : Int32) (h : Hp) : Option (Hp) := (if 60 ≤ x3 then some h else lt 0 (fun v1 => lX12_livesBy_15 r6 FU x1 x2 x3 v1 h))
def lX12_livesBy_6   : Nat → Int32 → Int32 → Int32 → Hp → Option (Hp)
  | 0 => fun _ _ _ _ => none
  | n + 1 => bX12_livesBy_6   (lX12_livesBy_6   n)
set_option maxRecDepth 20000 in
theorem BX12_livesBy_6 {Z : ZT} {G : GT} {hr : Hp} (X : CX Z G cX12_livesBy RX12 5 6) (E : RX Z G none (none) hr) (hz : HZM Z)  (r6 : Int32 → Int32 → Int32 → Hp → Option (Hp)) (hr6 : ∀ (x1 : Int32) (x2 : Int32) (x3 : Int32) (h : Hp), r6 x1 x2 x3 h = some hr → J Z G 5 h 6 [(0, .ref (Z.2.1 0)), (1, .int x1), (2, .int x2), (3, .int x3)] []) (x1 : Int32) (x2 : Int32) (x3 : Int32) (h : Hp) (hF : bX12_livesBy_6   r6 x1 x2 x3 h = some hr) : J Z G 5 h 6 [(0, .ref (Z.2.1 0)), (1, .int x1), (2, .int x2), (3, .int x3)] [] := by
  unfold bX12_livesBy_6 at hF
  refine j_iload_n (pc := 6) 3 X dX12_livesBy_6 rfl ?_
  refine j_bipush (pc := 7) 60 X dX12_livesBy_7 rfl ?_
  refine j_icmp_ge (pc := 9) 141 X dX12_livesBy_9 rfl hF (fun hF => ?_) (fun hF => ?_)
  · exact j_vret (pc := 141) X E dX12_livesBy_141 hF
  · refine j_iconst (pc := 12) 0 X dX12_livesBy_12 rfl ?_
    refine j_istore (pc := 13) (fun y => [(4, .int y), (0, .ref (Z.2.1 0)), (1, .int x1), (2, .int x2), (3, .int x3)]) X dX12_livesBy_13 (by decide) (fun _ => rfl) hF (fun v1 hF => ?_)
    refine j_lv [(0, .ref (Z.2.1 0)), (1, .int x1), (2, .int x2), (3, .int x3), (4, .int v1)] [1, 2, 3, 4, 0] rfl ?_
    exact LX12_livesBy_15 X E hz r6 hr6 FU x1 x2 x3 v1 h hF
theorem LX12_livesBy_6 {Z : ZT} {G : GT} {hr : Hp} (X : CX Z G cX12_livesBy RX12 5 6) (E : RX Z G none (none) hr) (hz : HZM Z)  : ∀ (n : Nat) (x1 : Int32) (x2 : Int32) (x3 : Int32) (h : Hp), lX12_livesBy_6   n x1 x2 x3 h = some hr → J Z G 5 h 6 [(0, .ref (Z.2.1 0)), (1, .int x1), (2, .int x2), (3, .int x3)] [] := by
  intro n
  induction n with
  | zero => intro x1 x2 x3 h hF; cases hF
  | succ n ih => intro x1 x2 x3 h hF; exact BX12_livesBy_6 X E hz  (lX12_livesBy_6   n) ih x1 x2 x3 h hF
def fX12_livesBy (a1 : Int32) (a2 : Int32) (h : Hp) : Option (Hp) := bv (fX12_starts h) (fun h1 => lt 0 (fun v2 => lX12_livesBy_6 FU a1 a2 v2 h1))
set_option maxRecDepth 20000 in
theorem tX12_livesBy (Z : ZT) (a1 : Int32) (a2 : Int32) (hz : HZM Z) (h : Hp) (hr : Hp) (hF : fX12_livesBy a1 a2 h = some hr) : MC Z yX12_livesBy cX12_livesBy 5 none 6 [.ref (Z.2.1 0), .int a1, .int a2] h (none) hr := by
  unfold fX12_livesBy at hF
  refine mc_start (by decide) (Nat.le_of_ble_eq_true rfl) (fun G X E => ?_)
  refine j_aload_n (pc := 0) 0 X dX12_livesBy_0 rfl ?_
  refine j_cVv (pc := 1) (As := []) (rest := []) X dX12_livesBy_1 ml_X12_469 ck_X12_starts cv_X12_starts (hz _ sh_0) rfl (Nat.le_of_ble_eq_true rfl) rfl (Nat.le_of_ble_eq_true rfl) rfl hF (tX12_starts Z hz h) (fun h1 hF => ?_)
  refine j_iconst (pc := 4) 0 X dX12_livesBy_4 rfl ?_
  refine j_istore_n (pc := 5) (fun y => [(3, .int y), (0, .ref (Z.2.1 0)), (1, .int a1), (2, .int a2)]) X dX12_livesBy_5 (by decide) (fun _ => rfl) hF (fun v2 hF => ?_)
  refine j_lv [(0, .ref (Z.2.1 0)), (1, .int a1), (2, .int a2), (3, .int v2)] [1, 2, 3, 0] rfl ?_
  exact LX12_livesBy_6 X E hz FU a1 a2 v2 h1 hF
theorem dX12_those_0 : decode cX12_those 0 = .ok (.iconst 0, 1) := by decide +kernel
theorem dX12_those_1 : decode cX12_those 1 = .ok (.istore_n 2, 1) := by decide +kernel
theorem dX12_those_2 : decode cX12_those 2 = .ok (.iconst 0, 1) := by decide +kernel
theorem dX12_those_3 : decode cX12_those 3 = .ok (.istore_n 3, 1) := by decide +kernel
theorem dX12_those_4 : decode cX12_those 4 = .ok (.iload_n 3, 1) := by decide +kernel
theorem dX12_those_5 : decode cX12_those 5 = .ok (.aload_n 0, 1) := by decide +kernel
theorem dX12_those_6 : decode cX12_those 6 = .ok (.getfield 67, 3) := by decide +kernel
theorem dX12_those_9 : decode cX12_those 9 = .ok (.aload_n 0, 1) := by decide +kernel
theorem dX12_those_10 : decode cX12_those 10 = .ok (.getfield 284, 3) := by decide +kernel
theorem dX12_those_13 : decode cX12_those 13 = .ok (.iaload, 1) := by decide +kernel
theorem dX12_those_14 : decode cX12_those 14 = .ok (.if_icmp .ge 25, 3) := by decide +kernel
theorem dX12_those_17 : decode cX12_those 17 = .ok (.aload_n 0, 1) := by decide +kernel
theorem dX12_those_18 : decode cX12_those 18 = .ok (.getfield 149, 3) := by decide +kernel
theorem dX12_those_21 : decode cX12_those 21 = .ok (.iload_n 3, 1) := by decide +kernel
theorem dX12_those_22 : decode cX12_those 22 = .ok (.iaload, 1) := by decide +kernel
theorem dX12_those_23 : decode cX12_those 23 = .ok (.iload_n 1, 1) := by decide +kernel
theorem dX12_those_24 : decode cX12_those 24 = .ok (.if_icmp .ne 9, 3) := by decide +kernel
theorem dX12_those_27 : decode cX12_those 27 = .ok (.iload_n 2, 1) := by decide +kernel
theorem dX12_those_28 : decode cX12_those 28 = .ok (.iconst 1, 1) := by decide +kernel
theorem dX12_those_29 : decode cX12_those 29 = .ok (.iload_n 3, 1) := by decide +kernel
theorem dX12_those_30 : decode cX12_those 30 = .ok (.ishl, 1) := by decide +kernel
theorem dX12_those_31 : decode cX12_those 31 = .ok (.ior, 1) := by decide +kernel
theorem dX12_those_32 : decode cX12_those 32 = .ok (.istore_n 2, 1) := by decide +kernel
theorem dX12_those_33 : decode cX12_those 33 = .ok (.iinc 3 1, 3) := by decide +kernel
theorem dX12_those_36 : decode cX12_those 36 = .ok (.goto (-32), 3) := by decide +kernel
theorem dX12_those_39 : decode cX12_those 39 = .ok (.iload_n 2, 1) := by decide +kernel
theorem dX12_those_40 : decode cX12_those 40 = .ok (.ireturn, 1) := by decide +kernel
def bX12_those_33  (r4 : Int32 → Int32 → Int32 → Hp → Option (Int32 × Hp)) (x1 : Int32) (x2 : Int32) (x3 : Int32) (h : Hp) : Option (Int32 × Hp) := lt (x3 + 1) (fun v1 => r4 x1 x2 v1 h)
set_option maxRecDepth 20000 in
theorem BX12_those_33 {Z : ZT} {G : GT} {r : Int32} {hr : Hp} (X : CX Z G cX12_those RX12 4 0) (E : RX Z G (some .int) (some (.int r)) hr) (hz : HZM Z) (r4 : Int32 → Int32 → Int32 → Hp → Option (Int32 × Hp)) (hr4 : ∀ (x1 : Int32) (x2 : Int32) (x3 : Int32) (h : Hp), r4 x1 x2 x3 h = some (r, hr) → J Z G 4 h 4 [(0, .ref (Z.2.1 0)), (1, .int x1), (2, .int x2), (3, .int x3)] []) (x1 : Int32) (x2 : Int32) (x3 : Int32) (h : Hp) (hF : bX12_those_33  r4 x1 x2 x3 h = some (r, hr)) : J Z G 4 h 33 [(0, .ref (Z.2.1 0)), (1, .int x1), (2, .int x2), (3, .int x3)] [] := by
  unfold bX12_those_33 at hF
  refine j_iinc (pc := 33) 3 (x3 + 1) (fun y => [(3, .int y), (0, .ref (Z.2.1 0)), (1, .int x1), (2, .int x2)]) X dX12_those_33 rfl rfl (by decide) (fun _ => rfl) hF (fun v1 hF => ?_)
  refine j_goto (pc := 36) 4 X dX12_those_36 rfl ?_
  refine j_lv [(0, .ref (Z.2.1 0)), (1, .int x1), (2, .int x2), (3, .int v1)] [1, 2, 3, 0] rfl ?_
  exact hr4 x1 x2 v1 h hF
def bX12_those_4   (r4 : Int32 → Int32 → Int32 → Hp → Option (Int32 × Hp)) (x1 : Int32) (x2 : Int32) (x3 : Int32) (h : Hp) : Option (Int32 × Hp) := ck (inb (h.1 0 18) 2) ((if (h.1 17 (ix (h.1 0 18))) ≤ x3 then some (x2, h) else ck (inb x3 10) ((if (h.1 44 (ix x3)) = x1 then lt (x2 ||| ((1 : Int32) <<< (x3 &&& 31))) (fun v1 => bX12_those_33 r4 x1 v1 x3 h) else bX12_those_33 r4 x1 x2 x3 h))))
def lX12_those_4   : Nat → Int32 → Int32 → Int32 → Hp → Option (Int32 × Hp)
  | 0 => fun _ _ _ _ => none
  | n + 1 => bX12_those_4   (lX12_those_4   n)
set_option maxRecDepth 20000 in
theorem BX12_those_4 {Z : ZT} {G : GT} {r : Int32} {hr : Hp} (X : CX Z G cX12_those RX12 4 0) (E : RX Z G (some .int) (some (.int r)) hr) (hz : HZM Z)  (r4 : Int32 → Int32 → Int32 → Hp → Option (Int32 × Hp)) (hr4 : ∀ (x1 : Int32) (x2 : Int32) (x3 : Int32) (h : Hp), r4 x1 x2 x3 h = some (r, hr) → J Z G 4 h 4 [(0, .ref (Z.2.1 0)), (1, .int x1), (2, .int x2), (3, .int x3)] []) (x1 : Int32) (x2 : Int32) (x3 : Int32) (h : Hp) (hF : bX12_those_4   r4 x1 x2 x3 h = some (r, hr)) : J Z G 4 h 4 [(0, .ref (Z.2.1 0)), (1, .int x1), (2, .int x2), (3, .int x3)] [] := by
  unfold bX12_those_4 at hF
  refine j_iload_n (pc := 4) 3 X dX12_those_4 rfl ?_
  refine j_aload_n (pc := 5) 0 X dX12_those_5 rfl ?_
  refine j_getr (pc := 6) X dX12_those_6 (hz _ sh_0) fl_X12_67 rfl ?_
  refine j_aload_n (pc := 9) 0 X dX12_those_9 rfl ?_
  refine j_geti (pc := 10) X dX12_those_10 (hz _ sh_0) fl_X12_284 rfl ?_
  refine j_iald (pc := 13) X dX12_those_13 (hz _ sh_17) hF (fun hF => ?_)
  refine j_icmp_ge (pc := 14) 39 X dX12_those_14 rfl hF (fun hF => ?_) (fun hF => ?_)
  · refine j_iload_n (pc := 39) 2 X dX12_those_39 rfl ?_
    exact j_iret (pc := 40) X E dX12_those_40 hF
  · refine j_aload_n (pc := 17) 0 X dX12_those_17 rfl ?_
    refine j_getr (pc := 18) X dX12_those_18 (hz _ sh_0) fl_X12_149 rfl ?_
    refine j_iload_n (pc := 21) 3 X dX12_those_21 rfl ?_
    refine j_iald (pc := 22) X dX12_those_22 (hz _ sh_44) hF (fun hF => ?_)
    refine j_iload_n (pc := 23) 1 X dX12_those_23 rfl ?_
    refine j_icmp_ne (pc := 24) 33 X dX12_those_24 rfl hF (fun hF => ?_) (fun hF => ?_)
    · exact BX12_those_33 X E hz r4 hr4 x1 x2 x3 h hF
    · refine j_iload_n (pc := 27) 2 X dX12_those_27 rfl ?_
      refine j_iconst (pc := 28) 1 X dX12_those_28 rfl ?_
      refine j_iload_n (pc := 29) 3 X dX12_those_29 rfl ?_
      refine j_ishl (pc := 30) X dX12_those_30 ?_
      refine j_ior (pc := 31) X dX12_those_31 ?_
      refine j_istore_n (pc := 32) (fun y => [(2, .int y), (0, .ref (Z.2.1 0)), (1, .int x1), (3, .int x3)]) X dX12_those_32 (by decide) (fun _ => rfl) hF (fun v1 hF => ?_)
      refine j_lv [(0, .ref (Z.2.1 0)), (1, .int x1), (2, .int v1), (3, .int x3)] [1, 2, 0, 3] rfl ?_
      exact BX12_those_33 X E hz r4 hr4 x1 v1 x3 h hF
theorem LX12_those_4 {Z : ZT} {G : GT} {r : Int32} {hr : Hp} (X : CX Z G cX12_those RX12 4 0) (E : RX Z G (some .int) (some (.int r)) hr) (hz : HZM Z)  : ∀ (n : Nat) (x1 : Int32) (x2 : Int32) (x3 : Int32) (h : Hp), lX12_those_4   n x1 x2 x3 h = some (r, hr) → J Z G 4 h 4 [(0, .ref (Z.2.1 0)), (1, .int x1), (2, .int x2), (3, .int x3)] [] := by
  intro n
  induction n with
  | zero => intro x1 x2 x3 h hF; cases hF
  | succ n ih => intro x1 x2 x3 h hF; exact BX12_those_4 X E hz  (lX12_those_4   n) ih x1 x2 x3 h hF
def fX12_those (a1 : Int32) (h : Hp) : Option (Int32 × Hp) := lt 0 (fun v1 => lt 0 (fun v2 => lX12_those_4 FU a1 v1 v2 h))
set_option maxRecDepth 20000 in
theorem tX12_those (Z : ZT) (a1 : Int32) (hz : HZM Z) (h : Hp) (r : Int32) (hr : Hp) (hF : fX12_those a1 h = some (r, hr)) : MC Z yX12_those cX12_those 4 (some .int) 0 [.ref (Z.2.1 0), .int a1] h (some (.int r)) hr := by
  unfold fX12_those at hF
  refine mc_start (by decide) (Nat.le_of_ble_eq_true rfl) (fun G X E => ?_)
  refine j_iconst (pc := 0) 0 X dX12_those_0 rfl ?_
  refine j_istore_n (pc := 1) (fun y => [(2, .int y), (0, .ref (Z.2.1 0)), (1, .int a1)]) X dX12_those_1 (by decide) (fun _ => rfl) hF (fun v1 hF => ?_)
  refine j_iconst (pc := 2) 0 X dX12_those_2 rfl ?_
  refine j_istore_n (pc := 3) (fun y => [(3, .int y), (2, .int v1), (0, .ref (Z.2.1 0)), (1, .int a1)]) X dX12_those_3 (by decide) (fun _ => rfl) hF (fun v2 hF => ?_)
  refine j_lv [(0, .ref (Z.2.1 0)), (1, .int a1), (2, .int v1), (3, .int v2)] [2, 3, 1, 0] rfl ?_
  exact LX12_those_4 X E hz FU a1 v1 v2 h hF
theorem dX12_life_0 : decode cX12_life 0 = .ok (.iload_n 2, 1) := by decide +kernel
theorem dX12_life_1 : decode cX12_life 1 = .ok (.iconst 0, 1) := by decide +kernel
theorem dX12_life_2 : decode cX12_life 2 = .ok (.bipush 100, 2) := by decide +kernel
theorem dX12_life_4 : decode cX12_life 4 = .ok (.invokestatic 383, 3) := by decide +kernel
theorem dX12_life_7 : decode cX12_life 7 = .ok (.ifCond .eq 12, 3) := by decide +kernel
theorem dX12_life_10 : decode cX12_life 10 = .ok (.iload_n 3, 1) := by decide +kernel
theorem dX12_life_11 : decode cX12_life 11 = .ok (.iconst 0, 1) := by decide +kernel
theorem dX12_life_12 : decode cX12_life 12 = .ok (.iconst 4, 1) := by decide +kernel
theorem dX12_life_13 : decode cX12_life 13 = .ok (.invokestatic 383, 3) := by decide +kernel
theorem dX12_life_16 : decode cX12_life 16 = .ok (.ifCond .ne 5, 3) := by decide +kernel
theorem dX12_life_19 : decode cX12_life 19 = .ok (.iconst (-1), 1) := by decide +kernel
theorem dX12_life_20 : decode cX12_life 20 = .ok (.ireturn, 1) := by decide +kernel
theorem dX12_life_21 : decode cX12_life 21 = .ok (.aload_n 0, 1) := by decide +kernel
theorem dX12_life_22 : decode cX12_life 22 = .ok (.iload_n 1, 1) := by decide +kernel
theorem dX12_life_23 : decode cX12_life 23 = .ok (.iload_n 2, 1) := by decide +kernel
theorem dX12_life_24 : decode cX12_life 24 = .ok (.invokevirtual 560, 3) := by decide +kernel
theorem dX12_life_27 : decode cX12_life 27 = .ok (.iload_n 3, 1) := by decide +kernel
theorem dX12_life_28 : decode cX12_life 28 = .ok (.iconst 3, 1) := by decide +kernel
theorem dX12_life_29 : decode cX12_life 29 = .ok (.if_icmp .ge 26, 3) := by decide +kernel
theorem dX12_life_32 : decode cX12_life 32 = .ok (.aload_n 0, 1) := by decide +kernel
theorem dX12_life_33 : decode cX12_life 33 = .ok (.iload_n 3, 1) := by decide +kernel
theorem dX12_life_34 : decode cX12_life 34 = .ok (.ifCond .ne 7, 3) := by decide +kernel
theorem dX12_life_37 : decode cX12_life 37 = .ok (.iconst 1, 1) := by decide +kernel
theorem dX12_life_38 : decode cX12_life 38 = .ok (.goto 13, 3) := by decide +kernel
theorem dX12_life_41 : decode cX12_life 41 = .ok (.iload_n 3, 1) := by decide +kernel
theorem dX12_life_42 : decode cX12_life 42 = .ok (.iconst 1, 1) := by decide +kernel
theorem dX12_life_43 : decode cX12_life 43 = .ok (.if_icmp .ne 7, 3) := by decide +kernel
theorem dX12_life_46 : decode cX12_life 46 = .ok (.iconst 4, 1) := by decide +kernel
theorem dX12_life_47 : decode cX12_life 47 = .ok (.goto 4, 3) := by decide +kernel
theorem dX12_life_50 : decode cX12_life 50 = .ok (.iconst 5, 1) := by decide +kernel
theorem dX12_life_51 : decode cX12_life 51 = .ok (.invokevirtual 563, 3) := by decide +kernel
theorem dX12_life_54 : decode cX12_life 54 = .ok (.ireturn, 1) := by decide +kernel
theorem dX12_life_55 : decode cX12_life 55 = .ok (.iload_n 3, 1) := by decide +kernel
theorem dX12_life_56 : decode cX12_life 56 = .ok (.iconst 3, 1) := by decide +kernel
theorem dX12_life_57 : decode cX12_life 57 = .ok (.if_icmp .ne 24, 3) := by decide +kernel
theorem dX12_life_60 : decode cX12_life 60 = .ok (.iconst 1, 1) := by decide +kernel
theorem dX12_life_61 : decode cX12_life 61 = .ok (.aload_n 0, 1) := by decide +kernel
theorem dX12_life_62 : decode cX12_life 62 = .ok (.getfield 49, 3) := by decide +kernel
theorem dX12_life_65 : decode cX12_life 65 = .ok (.aload_n 0, 1) := by decide +kernel
theorem dX12_life_66 : decode cX12_life 66 = .ok (.getfield 284, 3) := by decide +kernel
theorem dX12_life_69 : decode cX12_life 69 = .ok (.iaload, 1) := by decide +kernel
theorem dX12_life_70 : decode cX12_life 70 = .ok (.ishl, 1) := by decide +kernel
theorem dX12_life_71 : decode cX12_life 71 = .ok (.iconst 1, 1) := by decide +kernel
theorem dX12_life_72 : decode cX12_life 72 = .ok (.isub, 1) := by decide +kernel
theorem dX12_life_73 : decode cX12_life 73 = .ok (.aload_n 0, 1) := by decide +kernel
theorem dX12_life_74 : decode cX12_life 74 = .ok (.getfield 441, 3) := by decide +kernel
theorem dX12_life_77 : decode cX12_life 77 = .ok (.iconst (-1), 1) := by decide +kernel
theorem dX12_life_78 : decode cX12_life 78 = .ok (.ixor, 1) := by decide +kernel
theorem dX12_life_79 : decode cX12_life 79 = .ok (.iand, 1) := by decide +kernel
theorem dX12_life_80 : decode cX12_life 80 = .ok (.ireturn, 1) := by decide +kernel
theorem dX12_life_81 : decode cX12_life 81 = .ok (.iconst 0, 1) := by decide +kernel
theorem dX12_life_82 : decode cX12_life 82 = .ok (.istore 4, 2) := by decide +kernel
theorem dX12_life_84 : decode cX12_life 84 = .ok (.iconst 0, 1) := by decide +kernel
theorem dX12_life_85 : decode cX12_life 85 = .ok (.istore 5, 2) := by decide +kernel
theorem dX12_life_87 : decode cX12_life 87 = .ok (.iload 5, 2) := by decide +kernel
theorem dX12_life_89 : decode cX12_life 89 = .ok (.bipush 60, 2) := by decide +kernel
theorem dX12_life_91 : decode cX12_life 91 = .ok (.if_icmp .ge 21, 3) := by decide +kernel
theorem dX12_life_94 : decode cX12_life 94 = .ok (.iload 4, 2) := by decide +kernel
theorem dX12_life_96 : decode cX12_life 96 = .ok (.aload_n 0, 1) := by decide +kernel
theorem dX12_life_97 : decode cX12_life 97 = .ok (.getfield 164, 3) := by decide +kernel
theorem dX12_life_100 : decode cX12_life 100 = .ok (.iload 5, 2) := by decide +kernel
theorem dX12_life_102 : decode cX12_life 102 = .ok (.iaload, 1) := by decide +kernel
theorem dX12_life_103 : decode cX12_life 103 = .ok (.iadd, 1) := by decide +kernel
theorem dX12_life_104 : decode cX12_life 104 = .ok (.istore 4, 2) := by decide +kernel
theorem dX12_life_106 : decode cX12_life 106 = .ok (.iinc 5 1, 3) := by decide +kernel
theorem dX12_life_109 : decode cX12_life 109 = .ok (.goto (-22), 3) := by decide +kernel
theorem dX12_life_112 : decode cX12_life 112 = .ok (.iload 4, 2) := by decide +kernel
theorem dX12_life_114 : decode cX12_life 114 = .ok (.ireturn, 1) := by decide +kernel
def bX12_life_51   (s0 : Int32) (h : Hp) : Option (Int32 × Hp) := bi (fX12_those s0 h) (fun w2 h1 => some (w2, h1))
set_option maxRecDepth 20000 in
theorem BX12_life_51 {Z : ZT} {G : GT} {r : Int32} {hr : Hp} (X : CX Z G cX12_life RX12 6 7) (E : RX Z G (some .int) (some (.int r)) hr) (hz : HZM Z)  (s0 : Int32) (h : Hp) (hF : bX12_life_51   s0 h = some (r, hr)) : J Z G 6 h 51 [] [.int s0, .ref (Z.2.1 0)] := by
  unfold bX12_life_51 at hF
  refine j_cVi (pc := 51) (As := [.int s0]) (rest := []) X dX12_life_51 ml_X12_563 ck_X12_those cv_X12_those (hz _ sh_0) rfl (Nat.le_of_ble_eq_true rfl) rfl (Nat.le_of_ble_eq_true rfl) rfl hF (tX12_those Z s0 hz h) (fun w2 h1 hF => ?_)
  exact j_iret (pc := 54) X E dX12_life_54 hF
def bX12_life_87   (r87 : Int32 → Int32 → Hp → Option (Int32 × Hp)) (x4 : Int32) (x5 : Int32) (h : Hp) : Option (Int32 × Hp) := (if 60 ≤ x5 then some (x4, h) else ck (inb x5 60) (lt (x4 + (h.1 49 (ix x5))) (fun v1 => lt (x5 + 1) (fun v2 => r87 v1 v2 h))))
def lX12_life_87   : Nat → Int32 → Int32 → Hp → Option (Int32 × Hp)
  | 0 => fun _ _ _ => none
  | n + 1 => bX12_life_87   (lX12_life_87   n)
set_option maxRecDepth 20000 in
theorem BX12_life_87 {Z : ZT} {G : GT} {r : Int32} {hr : Hp} (X : CX Z G cX12_life RX12 6 7) (E : RX Z G (some .int) (some (.int r)) hr) (hz : HZM Z)  (r87 : Int32 → Int32 → Hp → Option (Int32 × Hp)) (hr87 : ∀ (x4 : Int32) (x5 : Int32) (h : Hp), r87 x4 x5 h = some (r, hr) → J Z G 6 h 87 [(0, .ref (Z.2.1 0)), (4, .int x4), (5, .int x5)] []) (x4 : Int32) (x5 : Int32) (h : Hp) (hF : bX12_life_87   r87 x4 x5 h = some (r, hr)) : J Z G 6 h 87 [(0, .ref (Z.2.1 0)), (4, .int x4), (5, .int x5)] [] := by
  unfold bX12_life_87 at hF
  refine j_iload (pc := 87) 2 X dX12_life_87 rfl ?_
  refine j_bipush (pc := 89) 60 X dX12_life_89 rfl ?_
  refine j_icmp_ge (pc := 91) 112 X dX12_life_91 rfl hF (fun hF => ?_) (fun hF => ?_)
  · refine j_iload (pc := 112) 1 X dX12_life_112 rfl ?_
    exact j_iret (pc := 114) X E dX12_life_114 hF
  · refine j_iload (pc := 94) 1 X dX12_life_94 rfl ?_
    refine j_aload_n (pc := 96) 0 X dX12_life_96 rfl ?_
    refine j_getr (pc := 97) X dX12_life_97 (hz _ sh_0) fl_X12_164 rfl ?_
    refine j_iload (pc := 100) 2 X dX12_life_100 rfl ?_
    refine j_iald (pc := 102) X dX12_life_102 (hz _ sh_49) hF (fun hF => ?_)
    refine j_iadd (pc := 103) X dX12_life_103 ?_
    refine j_istore (pc := 104) (fun y => [(4, .int y), (0, .ref (Z.2.1 0)), (5, .int x5)]) X dX12_life_104 (by decide) (fun _ => rfl) hF (fun v1 hF => ?_)
    refine j_iinc (pc := 106) 2 (x5 + 1) (fun y => [(5, .int y), (4, .int v1), (0, .ref (Z.2.1 0))]) X dX12_life_106 rfl rfl (by decide) (fun _ => rfl) hF (fun v2 hF => ?_)
    refine j_goto (pc := 109) 87 X dX12_life_109 rfl ?_
    refine j_lv [(0, .ref (Z.2.1 0)), (4, .int v1), (5, .int v2)] [2, 1, 0] rfl ?_
    exact hr87 v1 v2 h hF
theorem LX12_life_87 {Z : ZT} {G : GT} {r : Int32} {hr : Hp} (X : CX Z G cX12_life RX12 6 7) (E : RX Z G (some .int) (some (.int r)) hr) (hz : HZM Z)  : ∀ (n : Nat) (x4 : Int32) (x5 : Int32) (h : Hp), lX12_life_87   n x4 x5 h = some (r, hr) → J Z G 6 h 87 [(0, .ref (Z.2.1 0)), (4, .int x4), (5, .int x5)] [] := by
  intro n
  induction n with
  | zero => intro x4 x5 h hF; cases hF
  | succ n ih => intro x4 x5 h hF; exact BX12_life_87 X E hz  (lX12_life_87   n) ih x4 x5 h hF
def fX12_life (a1 : Int32) (a2 : Int32) (a3 : Int32) (h : Hp) : Option (Int32 × Hp) := bi (fX12_in a2 0 100 h) (fun w2 h1 => (if w2 = 0 then some ((-1), h1) else bi (fX12_in a3 0 4 h1) (fun w4 h3 => (if w4 = 0 then some ((-1), h3) else bv (fX12_livesBy a1 a2 h3) (fun h5 => (if 3 ≤ a3 then (if a3 = 3 then ck (inb (h5.1 0 18) 2) (some (((((1 : Int32) <<< ((h5.1 11 (ix (h5.1 0 18))) &&& 31)) - 1) &&& ((h5.1 0 69) ^^^ (-1))), h5)) else lt 0 (fun v6 => lt 0 (fun v7 => lX12_life_87 FU v6 v7 h5))) else (if a3 = 0 then bX12_life_51 1 h5 else (if a3 = 1 then bX12_life_51 4 h5 else bX12_life_51 5 h5))))))))
set_option maxRecDepth 20000 in
theorem tX12_life (Z : ZT) (a1 : Int32) (a2 : Int32) (a3 : Int32) (hz : HZM Z) (h : Hp) (r : Int32) (hr : Hp) (hF : fX12_life a1 a2 a3 h = some (r, hr)) : MC Z yX12_life cX12_life 6 (some .int) 7 [.ref (Z.2.1 0), .int a1, .int a2, .int a3] h (some (.int r)) hr := by
  unfold fX12_life at hF
  refine mc_start (by decide) (Nat.le_of_ble_eq_true rfl) (fun G X E => ?_)
  refine j_iload_n (pc := 0) 2 X dX12_life_0 rfl ?_
  refine j_iconst (pc := 1) 0 X dX12_life_1 rfl ?_
  refine j_bipush (pc := 2) 100 X dX12_life_2 rfl ?_
  refine j_cSi (pc := 4) (As := [.int a2, .int 0, .int 100]) (rest := []) X dX12_life_4 ml_X12_383 ck_X12_in sk_X12_in (Nat.le_of_ble_eq_true rfl) rfl (Nat.le_of_ble_eq_true rfl) rfl hF (tX12_in Z a2 0 100 trivial h) (fun w2 h1 hF => ?_)
  refine j_if_eq (pc := 7) 19 X dX12_life_7 rfl hF (fun hF => ?_) (fun hF => ?_)
  · refine j_iconst (pc := 19) (-1) X dX12_life_19 rfl ?_
    exact j_iret (pc := 20) X E dX12_life_20 hF
  · refine j_iload_n (pc := 10) 3 X dX12_life_10 rfl ?_
    refine j_iconst (pc := 11) 0 X dX12_life_11 rfl ?_
    refine j_iconst (pc := 12) 4 X dX12_life_12 rfl ?_
    refine j_cSi (pc := 13) (As := [.int a3, .int 0, .int 4]) (rest := []) X dX12_life_13 ml_X12_383 ck_X12_in sk_X12_in (Nat.le_of_ble_eq_true rfl) rfl (Nat.le_of_ble_eq_true rfl) rfl hF (tX12_in Z a3 0 4 trivial h1) (fun w4 h3 hF => ?_)
    refine j_if_ne (pc := 16) 21 X dX12_life_16 rfl hF (fun hF => ?_) (fun hF => ?_)
    · refine j_aload_n (pc := 21) 0 X dX12_life_21 rfl ?_
      refine j_iload_n (pc := 22) 1 X dX12_life_22 rfl ?_
      refine j_iload_n (pc := 23) 2 X dX12_life_23 rfl ?_
      refine j_cVv (pc := 24) (As := [.int a1, .int a2]) (rest := []) X dX12_life_24 ml_X12_560 ck_X12_livesBy cv_X12_livesBy (hz _ sh_0) rfl (Nat.le_of_ble_eq_true rfl) rfl (Nat.le_of_ble_eq_true rfl) rfl hF (tX12_livesBy Z a1 a2 hz h3) (fun h5 hF => ?_)
      refine j_iload_n (pc := 27) 3 X dX12_life_27 rfl ?_
      refine j_iconst (pc := 28) 3 X dX12_life_28 rfl ?_
      refine j_icmp_ge (pc := 29) 55 X dX12_life_29 rfl hF (fun hF => ?_) (fun hF => ?_)
      · refine j_iload_n (pc := 55) 3 X dX12_life_55 rfl ?_
        refine j_iconst (pc := 56) 3 X dX12_life_56 rfl ?_
        refine j_icmp_ne (pc := 57) 81 X dX12_life_57 rfl hF (fun hF => ?_) (fun hF => ?_)
        · refine j_iconst (pc := 81) 0 X dX12_life_81 rfl ?_
          refine j_istore (pc := 82) (fun y => [(4, .int y), (0, .ref (Z.2.1 0)), (1, .int a1), (2, .int a2), (3, .int a3)]) X dX12_life_82 (by decide) (fun _ => rfl) hF (fun v6 hF => ?_)
          refine j_iconst (pc := 84) 0 X dX12_life_84 rfl ?_
          refine j_istore (pc := 85) (fun y => [(5, .int y), (4, .int v6), (0, .ref (Z.2.1 0)), (1, .int a1), (2, .int a2), (3, .int a3)]) X dX12_life_85 (by decide) (fun _ => rfl) hF (fun v7 hF => ?_)
          refine j_lv [(0, .ref (Z.2.1 0)), (4, .int v6), (5, .int v7)] [2, 1, 0] rfl ?_
          exact LX12_life_87 X E hz FU v6 v7 h5 hF
        · refine j_iconst (pc := 60) 1 X dX12_life_60 rfl ?_
          refine j_aload_n (pc := 61) 0 X dX12_life_61 rfl ?_
          refine j_getr (pc := 62) X dX12_life_62 (hz _ sh_0) fl_X12_49 rfl ?_
          refine j_aload_n (pc := 65) 0 X dX12_life_65 rfl ?_
          refine j_geti (pc := 66) X dX12_life_66 (hz _ sh_0) fl_X12_284 rfl ?_
          refine j_iald (pc := 69) X dX12_life_69 (hz _ sh_11) hF (fun hF => ?_)
          refine j_ishl (pc := 70) X dX12_life_70 ?_
          refine j_iconst (pc := 71) 1 X dX12_life_71 rfl ?_
          refine j_isub (pc := 72) X dX12_life_72 ?_
          refine j_aload_n (pc := 73) 0 X dX12_life_73 rfl ?_
          refine j_geti (pc := 74) X dX12_life_74 (hz _ sh_0) fl_X12_441 rfl ?_
          refine j_iconst (pc := 77) (-1) X dX12_life_77 rfl ?_
          refine j_ixor (pc := 78) X dX12_life_78 ?_
          refine j_iand (pc := 79) X dX12_life_79 ?_
          exact j_iret (pc := 80) X E dX12_life_80 hF
      · refine j_aload_n (pc := 32) 0 X dX12_life_32 rfl ?_
        refine j_iload_n (pc := 33) 3 X dX12_life_33 rfl ?_
        refine j_if_ne (pc := 34) 41 X dX12_life_34 rfl hF (fun hF => ?_) (fun hF => ?_)
        · refine j_iload_n (pc := 41) 3 X dX12_life_41 rfl ?_
          refine j_iconst (pc := 42) 1 X dX12_life_42 rfl ?_
          refine j_icmp_ne (pc := 43) 50 X dX12_life_43 rfl hF (fun hF => ?_) (fun hF => ?_)
          · refine j_iconst (pc := 50) 5 X dX12_life_50 rfl ?_
            refine j_lv [] [] rfl ?_
            exact BX12_life_51 X E hz 5 h5 hF
          · refine j_iconst (pc := 46) 4 X dX12_life_46 rfl ?_
            refine j_goto (pc := 47) 51 X dX12_life_47 rfl ?_
            refine j_lv [] [] rfl ?_
            exact BX12_life_51 X E hz 4 h5 hF
        · refine j_iconst (pc := 37) 1 X dX12_life_37 rfl ?_
          refine j_goto (pc := 38) 51 X dX12_life_38 rfl ?_
          refine j_lv [] [] rfl ?_
          exact BX12_life_51 X E hz 1 h5 hF
    · refine j_iconst (pc := 19) (-1) X dX12_life_19 rfl ?_
      exact j_iret (pc := 20) X E dX12_life_20 hF
theorem dX12_chance_0 : decode cX12_chance 0 = .ok (.aload_n 0, 1) := by decide +kernel
theorem dX12_chance_1 : decode cX12_chance 1 = .ok (.iload_n 1, 1) := by decide +kernel
theorem dX12_chance_2 : decode cX12_chance 2 = .ok (.invokevirtual 400, 3) := by decide +kernel
theorem dX12_chance_5 : decode cX12_chance 5 = .ok (.ifCond .eq 24, 3) := by decide +kernel
theorem dX12_chance_8 : decode cX12_chance 8 = .ok (.iload_n 3, 1) := by decide +kernel
theorem dX12_chance_9 : decode cX12_chance 9 = .ok (.iconst 1, 1) := by decide +kernel
theorem dX12_chance_10 : decode cX12_chance 10 = .ok (.bipush 50, 2) := by decide +kernel
theorem dX12_chance_12 : decode cX12_chance 12 = .ok (.invokestatic 383, 3) := by decide +kernel
theorem dX12_chance_15 : decode cX12_chance 15 = .ok (.ifCond .eq 14, 3) := by decide +kernel
theorem dX12_chance_18 : decode cX12_chance 18 = .ok (.iload 4, 2) := by decide +kernel
theorem dX12_chance_20 : decode cX12_chance 20 = .ok (.iconst 0, 1) := by decide +kernel
theorem dX12_chance_21 : decode cX12_chance 21 = .ok (.bipush 100, 2) := by decide +kernel
theorem dX12_chance_23 : decode cX12_chance 23 = .ok (.invokestatic 383, 3) := by decide +kernel
theorem dX12_chance_26 : decode cX12_chance 26 = .ok (.ifCond .ne 5, 3) := by decide +kernel
theorem dX12_chance_29 : decode cX12_chance 29 = .ok (.iconst (-1), 1) := by decide +kernel
theorem dX12_chance_30 : decode cX12_chance 30 = .ok (.ireturn, 1) := by decide +kernel
theorem dX12_chance_31 : decode cX12_chance 31 = .ok (.iconst 0, 1) := by decide +kernel
theorem dX12_chance_32 : decode cX12_chance 32 = .ok (.istore 5, 2) := by decide +kernel
theorem dX12_chance_34 : decode cX12_chance 34 = .ok (.iconst 0, 1) := by decide +kernel
theorem dX12_chance_35 : decode cX12_chance 35 = .ok (.istore 6, 2) := by decide +kernel
theorem dX12_chance_37 : decode cX12_chance 37 = .ok (.iload 6, 2) := by decide +kernel
theorem dX12_chance_39 : decode cX12_chance 39 = .ok (.iload_n 3, 1) := by decide +kernel
theorem dX12_chance_40 : decode cX12_chance 40 = .ok (.if_icmp .ge 32, 3) := by decide +kernel
theorem dX12_chance_43 : decode cX12_chance 43 = .ok (.aload_n 0, 1) := by decide +kernel
theorem dX12_chance_44 : decode cX12_chance 44 = .ok (.iload_n 2, 1) := by decide +kernel
theorem dX12_chance_45 : decode cX12_chance 45 = .ok (.iload 6, 2) := by decide +kernel
theorem dX12_chance_47 : decode cX12_chance 47 = .ok (.iadd, 1) := by decide +kernel
theorem dX12_chance_48 : decode cX12_chance 48 = .ok (.iload 4, 2) := by decide +kernel
theorem dX12_chance_50 : decode cX12_chance 50 = .ok (.invokevirtual 560, 3) := by decide +kernel
theorem dX12_chance_53 : decode cX12_chance 53 = .ok (.aload_n 0, 1) := by decide +kernel
theorem dX12_chance_54 : decode cX12_chance 54 = .ok (.getfield 149, 3) := by decide +kernel
theorem dX12_chance_57 : decode cX12_chance 57 = .ok (.iload_n 1, 1) := by decide +kernel
theorem dX12_chance_58 : decode cX12_chance 58 = .ok (.iaload, 1) := by decide +kernel
theorem dX12_chance_59 : decode cX12_chance 59 = .ok (.iconst 1, 1) := by decide +kernel
theorem dX12_chance_60 : decode cX12_chance 60 = .ok (.if_icmp .ne 6, 3) := by decide +kernel
theorem dX12_chance_63 : decode cX12_chance 63 = .ok (.iinc 5 1, 3) := by decide +kernel
theorem dX12_chance_66 : decode cX12_chance 66 = .ok (.iinc 6 1, 3) := by decide +kernel
theorem dX12_chance_69 : decode cX12_chance 69 = .ok (.goto (-32), 3) := by decide +kernel
theorem dX12_chance_72 : decode cX12_chance 72 = .ok (.iload 5, 2) := by decide +kernel
theorem dX12_chance_74 : decode cX12_chance 74 = .ok (.ireturn, 1) := by decide +kernel
def bX12_chance_66  (r37 : Int32 → Int32 → Int32 → Int32 → Int32 → Int32 → Hp → Option (Int32 × Hp)) (x1 : Int32) (x2 : Int32) (x3 : Int32) (x4 : Int32) (x5 : Int32) (x6 : Int32) (h : Hp) : Option (Int32 × Hp) := lt (x6 + 1) (fun v1 => r37 x1 x2 x3 x4 x5 v1 h)
set_option maxRecDepth 20000 in
theorem BX12_chance_66 {Z : ZT} {G : GT} {r : Int32} {hr : Hp} (X : CX Z G cX12_chance RX12 7 7) (E : RX Z G (some .int) (some (.int r)) hr) (hz : HZM Z) (r37 : Int32 → Int32 → Int32 → Int32 → Int32 → Int32 → Hp → Option (Int32 × Hp)) (hr37 : ∀ (x1 : Int32) (x2 : Int32) (x3 : Int32) (x4 : Int32) (x5 : Int32) (x6 : Int32) (h : Hp), r37 x1 x2 x3 x4 x5 x6 h = some (r, hr) → J Z G 7 h 37 [(0, .ref (Z.2.1 0)), (1, .int x1), (2, .int x2), (3, .int x3), (4, .int x4), (5, .int x5), (6, .int x6)] []) (x1 : Int32) (x2 : Int32) (x3 : Int32) (x4 : Int32) (x5 : Int32) (x6 : Int32) (h : Hp) (hF : bX12_chance_66  r37 x1 x2 x3 x4 x5 x6 h = some (r, hr)) : J Z G 7 h 66 [(0, .ref (Z.2.1 0)), (1, .int x1), (2, .int x2), (3, .int x3), (4, .int x4), (5, .int x5), (6, .int x6)] [] := by
  unfold bX12_chance_66 at hF
  refine j_iinc (pc := 66) 6 (x6 + 1) (fun y => [(6, .int y), (0, .ref (Z.2.1 0)), (1, .int x1), (2, .int x2), (3, .int x3), (4, .int x4), (5, .int x5)]) X dX12_chance_66 rfl rfl (by decide) (fun _ => rfl) hF (fun v1 hF => ?_)
  refine j_goto (pc := 69) 37 X dX12_chance_69 rfl ?_
  refine j_lv [(0, .ref (Z.2.1 0)), (1, .int x1), (2, .int x2), (3, .int x3), (4, .int x4), (5, .int x5), (6, .int v1)] [1, 2, 3, 4, 5, 6, 0] rfl ?_
  exact hr37 x1 x2 x3 x4 x5 v1 h hF
def bX12_chance_37   (r37 : Int32 → Int32 → Int32 → Int32 → Int32 → Int32 → Hp → Option (Int32 × Hp)) (x1 : Int32) (x2 : Int32) (x3 : Int32) (x4 : Int32) (x5 : Int32) (x6 : Int32) (h : Hp) : Option (Int32 × Hp) := (if x3 ≤ x6 then some (x5, h) else bv (fX12_livesBy (x2 + x6) x4 h) (fun h1 => ck (inb x1 10) ((if (h1.1 44 (ix x1)) = 1 then lt (x5 + 1) (fun v2 => bX12_chance_66 r37 x1 x2 x3 x4 v2 x6 h1) else bX12_chance_66 r37 x1 x2 x3 x4 x5 x6 h1))))
def lX12_chance_37   : Nat → Int32 → Int32 → Int32 → Int32 → Int32 → Int32 → Hp → Option (Int32 × Hp)
  | 0 => fun _ _ _ _ _ _ _ => none
  | n + 1 => bX12_chance_37   (lX12_chance_37   n)
set_option maxRecDepth 20000 in
theorem BX12_chance_37 {Z : ZT} {G : GT} {r : Int32} {hr : Hp} (X : CX Z G cX12_chance RX12 7 7) (E : RX Z G (some .int) (some (.int r)) hr) (hz : HZM Z)  (r37 : Int32 → Int32 → Int32 → Int32 → Int32 → Int32 → Hp → Option (Int32 × Hp)) (hr37 : ∀ (x1 : Int32) (x2 : Int32) (x3 : Int32) (x4 : Int32) (x5 : Int32) (x6 : Int32) (h : Hp), r37 x1 x2 x3 x4 x5 x6 h = some (r, hr) → J Z G 7 h 37 [(0, .ref (Z.2.1 0)), (1, .int x1), (2, .int x2), (3, .int x3), (4, .int x4), (5, .int x5), (6, .int x6)] []) (x1 : Int32) (x2 : Int32) (x3 : Int32) (x4 : Int32) (x5 : Int32) (x6 : Int32) (h : Hp) (hF : bX12_chance_37   r37 x1 x2 x3 x4 x5 x6 h = some (r, hr)) : J Z G 7 h 37 [(0, .ref (Z.2.1 0)), (1, .int x1), (2, .int x2), (3, .int x3), (4, .int x4), (5, .int x5), (6, .int x6)] [] := by
  unfold bX12_chance_37 at hF
  refine j_iload (pc := 37) 6 X dX12_chance_37 rfl ?_
  refine j_iload_n (pc := 39) 3 X dX12_chance_39 rfl ?_
  refine j_icmp_ge (pc := 40) 72 X dX12_chance_40 rfl hF (fun hF => ?_) (fun hF => ?_)
  · refine j_iload (pc := 72) 5 X dX12_chance_72 rfl ?_
    exact j_iret (pc := 74) X E dX12_chance_74 hF
  · refine j_aload_n (pc := 43) 0 X dX12_chance_43 rfl ?_
    refine j_iload_n (pc := 44) 2 X dX12_chance_44 rfl ?_
    refine j_iload (pc := 45) 6 X dX12_chance_45 rfl ?_
    refine j_iadd (pc := 47) X dX12_chance_47 ?_
    refine j_iload (pc := 48) 4 X dX12_chance_48 rfl ?_
    refine j_cVv (pc := 50) (As := [.int (x2 + x6), .int x4]) (rest := []) X dX12_chance_50 ml_X12_560 ck_X12_livesBy cv_X12_livesBy (hz _ sh_0) rfl (Nat.le_of_ble_eq_true rfl) rfl (Nat.le_of_ble_eq_true rfl) rfl hF (tX12_livesBy Z (x2 + x6) x4 hz h) (fun h1 hF => ?_)
    refine j_aload_n (pc := 53) 0 X dX12_chance_53 rfl ?_
    refine j_getr (pc := 54) X dX12_chance_54 (hz _ sh_0) fl_X12_149 rfl ?_
    refine j_iload_n (pc := 57) 1 X dX12_chance_57 rfl ?_
    refine j_iald (pc := 58) X dX12_chance_58 (hz _ sh_44) hF (fun hF => ?_)
    refine j_iconst (pc := 59) 1 X dX12_chance_59 rfl ?_
    refine j_icmp_ne (pc := 60) 66 X dX12_chance_60 rfl hF (fun hF => ?_) (fun hF => ?_)
    · exact BX12_chance_66 X E hz r37 hr37 x1 x2 x3 x4 x5 x6 h1 hF
    · refine j_iinc (pc := 63) 5 (x5 + 1) (fun y => [(5, .int y), (0, .ref (Z.2.1 0)), (1, .int x1), (2, .int x2), (3, .int x3), (4, .int x4), (6, .int x6)]) X dX12_chance_63 rfl rfl (by decide) (fun _ => rfl) hF (fun v2 hF => ?_)
      refine j_lv [(0, .ref (Z.2.1 0)), (1, .int x1), (2, .int x2), (3, .int x3), (4, .int x4), (5, .int v2), (6, .int x6)] [1, 2, 3, 4, 5, 0, 6] rfl ?_
      exact BX12_chance_66 X E hz r37 hr37 x1 x2 x3 x4 v2 x6 h1 hF
theorem LX12_chance_37 {Z : ZT} {G : GT} {r : Int32} {hr : Hp} (X : CX Z G cX12_chance RX12 7 7) (E : RX Z G (some .int) (some (.int r)) hr) (hz : HZM Z)  : ∀ (n : Nat) (x1 : Int32) (x2 : Int32) (x3 : Int32) (x4 : Int32) (x5 : Int32) (x6 : Int32) (h : Hp), lX12_chance_37   n x1 x2 x3 x4 x5 x6 h = some (r, hr) → J Z G 7 h 37 [(0, .ref (Z.2.1 0)), (1, .int x1), (2, .int x2), (3, .int x3), (4, .int x4), (5, .int x5), (6, .int x6)] [] := by
  intro n
  induction n with
  | zero => intro x1 x2 x3 x4 x5 x6 h hF; cases hF
  | succ n ih => intro x1 x2 x3 x4 x5 x6 h hF; exact BX12_chance_37 X E hz  (lX12_chance_37   n) ih x1 x2 x3 x4 x5 x6 h hF
def fX12_chance (a1 : Int32) (a2 : Int32) (a3 : Int32) (a4 : Int32) (h : Hp) : Option (Int32 × Hp) := bi (fX12_hasLetter a1 h) (fun w2 h1 => (if w2 = 0 then some ((-1), h1) else bi (fX12_in a3 1 50 h1) (fun w4 h3 => (if w4 = 0 then some ((-1), h3) else bi (fX12_in a4 0 100 h3) (fun w6 h5 => (if w6 = 0 then some ((-1), h5) else lt 0 (fun v7 => lt 0 (fun v8 => lX12_chance_37 FU a1 a2 a3 a4 v7 v8 h5))))))))
set_option maxRecDepth 20000 in
theorem tX12_chance (Z : ZT) (a1 : Int32) (a2 : Int32) (a3 : Int32) (a4 : Int32) (hz : HZM Z) (h : Hp) (r : Int32) (hr : Hp) (hF : fX12_chance a1 a2 a3 a4 h = some (r, hr)) : MC Z yX12_chance cX12_chance 7 (some .int) 7 [.ref (Z.2.1 0), .int a1, .int a2, .int a3, .int a4] h (some (.int r)) hr := by
  unfold fX12_chance at hF
  refine mc_start (by decide) (Nat.le_of_ble_eq_true rfl) (fun G X E => ?_)
  refine j_aload_n (pc := 0) 0 X dX12_chance_0 rfl ?_
  refine j_iload_n (pc := 1) 1 X dX12_chance_1 rfl ?_
  refine j_cVi (pc := 2) (As := [.int a1]) (rest := []) X dX12_chance_2 ml_X12_400 ck_X12_hasLetter cv_X12_hasLetter (hz _ sh_0) rfl (Nat.le_of_ble_eq_true rfl) rfl (Nat.le_of_ble_eq_true rfl) rfl hF (tX12_hasLetter Z a1 hz h) (fun w2 h1 hF => ?_)
  refine j_if_eq (pc := 5) 29 X dX12_chance_5 rfl hF (fun hF => ?_) (fun hF => ?_)
  · refine j_iconst (pc := 29) (-1) X dX12_chance_29 rfl ?_
    exact j_iret (pc := 30) X E dX12_chance_30 hF
  · refine j_iload_n (pc := 8) 3 X dX12_chance_8 rfl ?_
    refine j_iconst (pc := 9) 1 X dX12_chance_9 rfl ?_
    refine j_bipush (pc := 10) 50 X dX12_chance_10 rfl ?_
    refine j_cSi (pc := 12) (As := [.int a3, .int 1, .int 50]) (rest := []) X dX12_chance_12 ml_X12_383 ck_X12_in sk_X12_in (Nat.le_of_ble_eq_true rfl) rfl (Nat.le_of_ble_eq_true rfl) rfl hF (tX12_in Z a3 1 50 trivial h1) (fun w4 h3 hF => ?_)
    refine j_if_eq (pc := 15) 29 X dX12_chance_15 rfl hF (fun hF => ?_) (fun hF => ?_)
    · refine j_iconst (pc := 29) (-1) X dX12_chance_29 rfl ?_
      exact j_iret (pc := 30) X E dX12_chance_30 hF
    · refine j_iload (pc := 18) 4 X dX12_chance_18 rfl ?_
      refine j_iconst (pc := 20) 0 X dX12_chance_20 rfl ?_
      refine j_bipush (pc := 21) 100 X dX12_chance_21 rfl ?_
      refine j_cSi (pc := 23) (As := [.int a4, .int 0, .int 100]) (rest := []) X dX12_chance_23 ml_X12_383 ck_X12_in sk_X12_in (Nat.le_of_ble_eq_true rfl) rfl (Nat.le_of_ble_eq_true rfl) rfl hF (tX12_in Z a4 0 100 trivial h3) (fun w6 h5 hF => ?_)
      refine j_if_ne (pc := 26) 31 X dX12_chance_26 rfl hF (fun hF => ?_) (fun hF => ?_)
      · refine j_iconst (pc := 31) 0 X dX12_chance_31 rfl ?_
        refine j_istore (pc := 32) (fun y => [(5, .int y), (0, .ref (Z.2.1 0)), (1, .int a1), (2, .int a2), (3, .int a3), (4, .int a4)]) X dX12_chance_32 (by decide) (fun _ => rfl) hF (fun v7 hF => ?_)
        refine j_iconst (pc := 34) 0 X dX12_chance_34 rfl ?_
        refine j_istore (pc := 35) (fun y => [(6, .int y), (5, .int v7), (0, .ref (Z.2.1 0)), (1, .int a1), (2, .int a2), (3, .int a3), (4, .int a4)]) X dX12_chance_35 (by decide) (fun _ => rfl) hF (fun v8 hF => ?_)
        refine j_lv [(0, .ref (Z.2.1 0)), (1, .int a1), (2, .int a2), (3, .int a3), (4, .int a4), (5, .int v7), (6, .int v8)] [2, 3, 4, 5, 6, 1, 0] rfl ?_
        exact LX12_chance_37 X E hz FU a1 a2 a3 a4 v7 v8 h5 hF
      · refine j_iconst (pc := 29) (-1) X dX12_chance_29 rfl ?_
        exact j_iret (pc := 30) X E dX12_chance_30 hF
theorem dX12_hold_0 : decode cX12_hold 0 = .ok (.iload_n 1, 1) := by decide +kernel
theorem dX12_hold_1 : decode cX12_hold 1 = .ok (.iconst 0, 1) := by decide +kernel
theorem dX12_hold_2 : decode cX12_hold 2 = .ok (.iconst 2, 1) := by decide +kernel
theorem dX12_hold_3 : decode cX12_hold 3 = .ok (.invokestatic 383, 3) := by decide +kernel
theorem dX12_hold_6 : decode cX12_hold 6 = .ok (.ifCond .ne 5, 3) := by decide +kernel
theorem dX12_hold_9 : decode cX12_hold 9 = .ok (.iconst 0, 1) := by decide +kernel
theorem dX12_hold_10 : decode cX12_hold 10 = .ok (.ireturn, 1) := by decide +kernel
theorem dX12_hold_11 : decode cX12_hold 11 = .ok (.aload_n 0, 1) := by decide +kernel
theorem dX12_hold_12 : decode cX12_hold 12 = .ok (.getfield 197, 3) := by decide +kernel
theorem dX12_hold_15 : decode cX12_hold 15 = .ok (.iload_n 1, 1) := by decide +kernel
theorem dX12_hold_16 : decode cX12_hold 16 = .ok (.aload_n 0, 1) := by decide +kernel
theorem dX12_hold_17 : decode cX12_hold 17 = .ok (.getfield 305, 3) := by decide +kernel
theorem dX12_hold_20 : decode cX12_hold 20 = .ok (.iastore, 1) := by decide +kernel
theorem dX12_hold_21 : decode cX12_hold 21 = .ok (.iconst 0, 1) := by decide +kernel
theorem dX12_hold_22 : decode cX12_hold 22 = .ok (.istore_n 2, 1) := by decide +kernel
theorem dX12_hold_23 : decode cX12_hold 23 = .ok (.iload_n 2, 1) := by decide +kernel
theorem dX12_hold_24 : decode cX12_hold 24 = .ok (.aload_n 0, 1) := by decide +kernel
theorem dX12_hold_25 : decode cX12_hold 25 = .ok (.getfield 305, 3) := by decide +kernel
theorem dX12_hold_28 : decode cX12_hold 28 = .ok (.if_icmp .ge 77, 3) := by decide +kernel
theorem dX12_hold_31 : decode cX12_hold 31 = .ok (.aload_n 0, 1) := by decide +kernel
theorem dX12_hold_32 : decode cX12_hold 32 = .ok (.getfield 200, 3) := by decide +kernel
theorem dX12_hold_35 : decode cX12_hold 35 = .ok (.bipush 60, 2) := by decide +kernel
theorem dX12_hold_37 : decode cX12_hold 37 = .ok (.iload_n 1, 1) := by decide +kernel
theorem dX12_hold_38 : decode cX12_hold 38 = .ok (.imul, 1) := by decide +kernel
theorem dX12_hold_39 : decode cX12_hold 39 = .ok (.iload_n 2, 1) := by decide +kernel
theorem dX12_hold_40 : decode cX12_hold 40 = .ok (.iadd, 1) := by decide +kernel
theorem dX12_hold_41 : decode cX12_hold 41 = .ok (.aload_n 0, 1) := by decide +kernel
theorem dX12_hold_42 : decode cX12_hold 42 = .ok (.getfield 137, 3) := by decide +kernel
theorem dX12_hold_45 : decode cX12_hold 45 = .ok (.iload_n 2, 1) := by decide +kernel
theorem dX12_hold_46 : decode cX12_hold 46 = .ok (.iaload, 1) := by decide +kernel
theorem dX12_hold_47 : decode cX12_hold 47 = .ok (.iastore, 1) := by decide +kernel
theorem dX12_hold_48 : decode cX12_hold 48 = .ok (.aload_n 0, 1) := by decide +kernel
theorem dX12_hold_49 : decode cX12_hold 49 = .ok (.getfield 203, 3) := by decide +kernel
theorem dX12_hold_52 : decode cX12_hold 52 = .ok (.bipush 60, 2) := by decide +kernel
theorem dX12_hold_54 : decode cX12_hold 54 = .ok (.iload_n 1, 1) := by decide +kernel
theorem dX12_hold_55 : decode cX12_hold 55 = .ok (.imul, 1) := by decide +kernel
theorem dX12_hold_56 : decode cX12_hold 56 = .ok (.iload_n 2, 1) := by decide +kernel
theorem dX12_hold_57 : decode cX12_hold 57 = .ok (.iadd, 1) := by decide +kernel
theorem dX12_hold_58 : decode cX12_hold 58 = .ok (.aload_n 0, 1) := by decide +kernel
theorem dX12_hold_59 : decode cX12_hold 59 = .ok (.getfield 140, 3) := by decide +kernel
theorem dX12_hold_62 : decode cX12_hold 62 = .ok (.iload_n 2, 1) := by decide +kernel
theorem dX12_hold_63 : decode cX12_hold 63 = .ok (.iaload, 1) := by decide +kernel
theorem dX12_hold_64 : decode cX12_hold 64 = .ok (.iastore, 1) := by decide +kernel
theorem dX12_hold_65 : decode cX12_hold 65 = .ok (.aload_n 0, 1) := by decide +kernel
theorem dX12_hold_66 : decode cX12_hold 66 = .ok (.getfield 206, 3) := by decide +kernel
theorem dX12_hold_69 : decode cX12_hold 69 = .ok (.bipush 60, 2) := by decide +kernel
theorem dX12_hold_71 : decode cX12_hold 71 = .ok (.iload_n 1, 1) := by decide +kernel
theorem dX12_hold_72 : decode cX12_hold 72 = .ok (.imul, 1) := by decide +kernel
theorem dX12_hold_73 : decode cX12_hold 73 = .ok (.iload_n 2, 1) := by decide +kernel
theorem dX12_hold_74 : decode cX12_hold 74 = .ok (.iadd, 1) := by decide +kernel
theorem dX12_hold_75 : decode cX12_hold 75 = .ok (.aload_n 0, 1) := by decide +kernel
theorem dX12_hold_76 : decode cX12_hold 76 = .ok (.getfield 143, 3) := by decide +kernel
theorem dX12_hold_79 : decode cX12_hold 79 = .ok (.iload_n 2, 1) := by decide +kernel
theorem dX12_hold_80 : decode cX12_hold 80 = .ok (.iaload, 1) := by decide +kernel
theorem dX12_hold_81 : decode cX12_hold 81 = .ok (.iastore, 1) := by decide +kernel
theorem dX12_hold_82 : decode cX12_hold 82 = .ok (.aload_n 0, 1) := by decide +kernel
theorem dX12_hold_83 : decode cX12_hold 83 = .ok (.getfield 209, 3) := by decide +kernel
theorem dX12_hold_86 : decode cX12_hold 86 = .ok (.bipush 60, 2) := by decide +kernel
theorem dX12_hold_88 : decode cX12_hold 88 = .ok (.iload_n 1, 1) := by decide +kernel
theorem dX12_hold_89 : decode cX12_hold 89 = .ok (.imul, 1) := by decide +kernel
theorem dX12_hold_90 : decode cX12_hold 90 = .ok (.iload_n 2, 1) := by decide +kernel
theorem dX12_hold_91 : decode cX12_hold 91 = .ok (.iadd, 1) := by decide +kernel
theorem dX12_hold_92 : decode cX12_hold 92 = .ok (.aload_n 0, 1) := by decide +kernel
theorem dX12_hold_93 : decode cX12_hold 93 = .ok (.getfield 146, 3) := by decide +kernel
theorem dX12_hold_96 : decode cX12_hold 96 = .ok (.iload_n 2, 1) := by decide +kernel
theorem dX12_hold_97 : decode cX12_hold 97 = .ok (.iaload, 1) := by decide +kernel
theorem dX12_hold_98 : decode cX12_hold 98 = .ok (.iastore, 1) := by decide +kernel
theorem dX12_hold_99 : decode cX12_hold 99 = .ok (.iinc 2 1, 3) := by decide +kernel
theorem dX12_hold_102 : decode cX12_hold 102 = .ok (.goto (-79), 3) := by decide +kernel
theorem dX12_hold_105 : decode cX12_hold 105 = .ok (.iconst 1, 1) := by decide +kernel
theorem dX12_hold_106 : decode cX12_hold 106 = .ok (.ireturn, 1) := by decide +kernel
def bX12_hold_23   (r23 : Int32 → Int32 → Hp → Option (Int32 × Hp)) (x1 : Int32) (x2 : Int32) (h : Hp) : Option (Int32 × Hp) := (if (h.1 0 59) ≤ x2 then ck (zb 1) (some (1, h)) else ck (inb x2 60) (ck (inb (((60 : Int32) * x1) + x2) 180) (lt (wI h 61 (ix (((60 : Int32) * x1) + x2)) (h.1 40 (ix x2))) (fun h1 => ck (inb x2 60) (ck (inb (((60 : Int32) * x1) + x2) 180) (lt (wI h1 62 (ix (((60 : Int32) * x1) + x2)) (h1.1 41 (ix x2))) (fun h2 => ck (inb x2 60) (ck (inb (((60 : Int32) * x1) + x2) 180) (lt (wI h2 63 (ix (((60 : Int32) * x1) + x2)) (h2.1 42 (ix x2))) (fun h3 => ck (inb x2 60) (ck (inb (((60 : Int32) * x1) + x2) 180) (lt (wI h3 64 (ix (((60 : Int32) * x1) + x2)) (h3.1 43 (ix x2))) (fun h4 => lt (x2 + 1) (fun v5 => r23 x1 v5 h4))))))))))))))
def lX12_hold_23   : Nat → Int32 → Int32 → Hp → Option (Int32 × Hp)
  | 0 => fun _ _ _ => none
  | n + 1 => bX12_hold_23   (lX12_hold_23   n)
set_option maxRecDepth 20000 in
theorem BX12_hold_23 {Z : ZT} {G : GT} {r : Int32} {hr : Hp} (X : CX Z G cX12_hold RX12 3 1) (E : RX Z G (some .boolean) (some (.int r)) hr) (hz : HZM Z)  (r23 : Int32 → Int32 → Hp → Option (Int32 × Hp)) (hr23 : ∀ (x1 : Int32) (x2 : Int32) (h : Hp), r23 x1 x2 h = some (r, hr) → J Z G 3 h 23 [(0, .ref (Z.2.1 0)), (1, .int x1), (2, .int x2)] []) (x1 : Int32) (x2 : Int32) (h : Hp) (hF : bX12_hold_23   r23 x1 x2 h = some (r, hr)) : J Z G 3 h 23 [(0, .ref (Z.2.1 0)), (1, .int x1), (2, .int x2)] [] := by
  unfold bX12_hold_23 at hF
  refine j_iload_n (pc := 23) 2 X dX12_hold_23 rfl ?_
  refine j_aload_n (pc := 24) 0 X dX12_hold_24 rfl ?_
  refine j_geti (pc := 25) X dX12_hold_25 (hz _ sh_0) fl_X12_305 rfl ?_
  refine j_icmp_ge (pc := 28) 105 X dX12_hold_28 rfl hF (fun hF => ?_) (fun hF => ?_)
  · refine j_iconst (pc := 105) 1 X dX12_hold_105 rfl ?_
    exact j_zret (pc := 106) X E dX12_hold_106 hF
  · refine j_aload_n (pc := 31) 0 X dX12_hold_31 rfl ?_
    refine j_getr (pc := 32) X dX12_hold_32 (hz _ sh_0) fl_X12_200 rfl ?_
    refine j_bipush (pc := 35) 60 X dX12_hold_35 rfl ?_
    refine j_iload_n (pc := 37) 1 X dX12_hold_37 rfl ?_
    refine j_imul (pc := 38) X dX12_hold_38 ?_
    refine j_iload_n (pc := 39) 2 X dX12_hold_39 rfl ?_
    refine j_iadd (pc := 40) X dX12_hold_40 ?_
    refine j_aload_n (pc := 41) 0 X dX12_hold_41 rfl ?_
    refine j_getr (pc := 42) X dX12_hold_42 (hz _ sh_0) fl_X12_137 rfl ?_
    refine j_iload_n (pc := 45) 2 X dX12_hold_45 rfl ?_
    refine j_iald (pc := 46) X dX12_hold_46 (hz _ sh_40) hF (fun hF => ?_)
    refine j_iast (pc := 47) X dX12_hold_47 (hz _ sh_61) hF (fun h1 hF => ?_)
    refine j_aload_n (pc := 48) 0 X dX12_hold_48 rfl ?_
    refine j_getr (pc := 49) X dX12_hold_49 (hz _ sh_0) fl_X12_203 rfl ?_
    refine j_bipush (pc := 52) 60 X dX12_hold_52 rfl ?_
    refine j_iload_n (pc := 54) 1 X dX12_hold_54 rfl ?_
    refine j_imul (pc := 55) X dX12_hold_55 ?_
    refine j_iload_n (pc := 56) 2 X dX12_hold_56 rfl ?_
    refine j_iadd (pc := 57) X dX12_hold_57 ?_
    refine j_aload_n (pc := 58) 0 X dX12_hold_58 rfl ?_
    refine j_getr (pc := 59) X dX12_hold_59 (hz _ sh_0) fl_X12_140 rfl ?_
    refine j_iload_n (pc := 62) 2 X dX12_hold_62 rfl ?_
    refine j_iald (pc := 63) X dX12_hold_63 (hz _ sh_41) hF (fun hF => ?_)
    refine j_iast (pc := 64) X dX12_hold_64 (hz _ sh_62) hF (fun h2 hF => ?_)
    refine j_aload_n (pc := 65) 0 X dX12_hold_65 rfl ?_
    refine j_getr (pc := 66) X dX12_hold_66 (hz _ sh_0) fl_X12_206 rfl ?_
    refine j_bipush (pc := 69) 60 X dX12_hold_69 rfl ?_
    refine j_iload_n (pc := 71) 1 X dX12_hold_71 rfl ?_
    refine j_imul (pc := 72) X dX12_hold_72 ?_
    refine j_iload_n (pc := 73) 2 X dX12_hold_73 rfl ?_
    refine j_iadd (pc := 74) X dX12_hold_74 ?_
    refine j_aload_n (pc := 75) 0 X dX12_hold_75 rfl ?_
    refine j_getr (pc := 76) X dX12_hold_76 (hz _ sh_0) fl_X12_143 rfl ?_
    refine j_iload_n (pc := 79) 2 X dX12_hold_79 rfl ?_
    refine j_iald (pc := 80) X dX12_hold_80 (hz _ sh_42) hF (fun hF => ?_)
    refine j_iast (pc := 81) X dX12_hold_81 (hz _ sh_63) hF (fun h3 hF => ?_)
    refine j_aload_n (pc := 82) 0 X dX12_hold_82 rfl ?_
    refine j_getr (pc := 83) X dX12_hold_83 (hz _ sh_0) fl_X12_209 rfl ?_
    refine j_bipush (pc := 86) 60 X dX12_hold_86 rfl ?_
    refine j_iload_n (pc := 88) 1 X dX12_hold_88 rfl ?_
    refine j_imul (pc := 89) X dX12_hold_89 ?_
    refine j_iload_n (pc := 90) 2 X dX12_hold_90 rfl ?_
    refine j_iadd (pc := 91) X dX12_hold_91 ?_
    refine j_aload_n (pc := 92) 0 X dX12_hold_92 rfl ?_
    refine j_getr (pc := 93) X dX12_hold_93 (hz _ sh_0) fl_X12_146 rfl ?_
    refine j_iload_n (pc := 96) 2 X dX12_hold_96 rfl ?_
    refine j_iald (pc := 97) X dX12_hold_97 (hz _ sh_43) hF (fun hF => ?_)
    refine j_iast (pc := 98) X dX12_hold_98 (hz _ sh_64) hF (fun h4 hF => ?_)
    refine j_iinc (pc := 99) 2 (x2 + 1) (fun y => [(2, .int y), (0, .ref (Z.2.1 0)), (1, .int x1)]) X dX12_hold_99 rfl rfl (by decide) (fun _ => rfl) hF (fun v5 hF => ?_)
    refine j_goto (pc := 102) 23 X dX12_hold_102 rfl ?_
    refine j_lv [(0, .ref (Z.2.1 0)), (1, .int x1), (2, .int v5)] [1, 2, 0] rfl ?_
    exact hr23 x1 v5 h4 hF
theorem LX12_hold_23 {Z : ZT} {G : GT} {r : Int32} {hr : Hp} (X : CX Z G cX12_hold RX12 3 1) (E : RX Z G (some .boolean) (some (.int r)) hr) (hz : HZM Z)  : ∀ (n : Nat) (x1 : Int32) (x2 : Int32) (h : Hp), lX12_hold_23   n x1 x2 h = some (r, hr) → J Z G 3 h 23 [(0, .ref (Z.2.1 0)), (1, .int x1), (2, .int x2)] [] := by
  intro n
  induction n with
  | zero => intro x1 x2 h hF; cases hF
  | succ n ih => intro x1 x2 h hF; exact BX12_hold_23 X E hz  (lX12_hold_23   n) ih x1 x2 h hF
def fX12_hold (a1 : Int32) (h : Hp) : Option (Int32 × Hp) := bi (fX12_in a1 0 2 h) (fun w2 h1 => (if w2 = 0 then ck (zb 0) (some (0, h1)) else ck (inb a1 3) (lt (wI h1 60 (ix a1) (h1.1 0 59)) (fun h3 => lt 0 (fun v4 => lX12_hold_23 FU a1 v4 h3)))))
set_option maxRecDepth 20000 in
theorem tX12_hold (Z : ZT) (a1 : Int32) (hz : HZM Z) (h : Hp) (r : Int32) (hr : Hp) (hF : fX12_hold a1 h = some (r, hr)) : MC Z yX12_hold cX12_hold 3 (some .boolean) 1 [.ref (Z.2.1 0), .int a1] h (some (.int r)) hr := by
  unfold fX12_hold at hF
  refine mc_start (by decide) (Nat.le_of_ble_eq_true rfl) (fun G X E => ?_)
  refine j_iload_n (pc := 0) 1 X dX12_hold_0 rfl ?_
  refine j_iconst (pc := 1) 0 X dX12_hold_1 rfl ?_
  refine j_iconst (pc := 2) 2 X dX12_hold_2 rfl ?_
  refine j_cSi (pc := 3) (As := [.int a1, .int 0, .int 2]) (rest := []) X dX12_hold_3 ml_X12_383 ck_X12_in sk_X12_in (Nat.le_of_ble_eq_true rfl) rfl (Nat.le_of_ble_eq_true rfl) rfl hF (tX12_in Z a1 0 2 trivial h) (fun w2 h1 hF => ?_)
  refine j_if_ne (pc := 6) 11 X dX12_hold_6 rfl hF (fun hF => ?_) (fun hF => ?_)
  · refine j_aload_n (pc := 11) 0 X dX12_hold_11 rfl ?_
    refine j_getr (pc := 12) X dX12_hold_12 (hz _ sh_0) fl_X12_197 rfl ?_
    refine j_iload_n (pc := 15) 1 X dX12_hold_15 rfl ?_
    refine j_aload_n (pc := 16) 0 X dX12_hold_16 rfl ?_
    refine j_geti (pc := 17) X dX12_hold_17 (hz _ sh_0) fl_X12_305 rfl ?_
    refine j_iast (pc := 20) X dX12_hold_20 (hz _ sh_60) hF (fun h3 hF => ?_)
    refine j_iconst (pc := 21) 0 X dX12_hold_21 rfl ?_
    refine j_istore_n (pc := 22) (fun y => [(2, .int y), (0, .ref (Z.2.1 0)), (1, .int a1)]) X dX12_hold_22 (by decide) (fun _ => rfl) hF (fun v4 hF => ?_)
    refine j_lv [(0, .ref (Z.2.1 0)), (1, .int a1), (2, .int v4)] [1, 2, 0] rfl ?_
    exact LX12_hold_23 X E hz FU a1 v4 h3 hF
  · refine j_iconst (pc := 9) 0 X dX12_hold_9 rfl ?_
    exact j_zret (pc := 10) X E dX12_hold_10 hF
theorem dX12_restore_0 : decode cX12_restore 0 = .ok (.iload_n 1, 1) := by decide +kernel
theorem dX12_restore_1 : decode cX12_restore 1 = .ok (.iconst 0, 1) := by decide +kernel
theorem dX12_restore_2 : decode cX12_restore 2 = .ok (.iconst 2, 1) := by decide +kernel
theorem dX12_restore_3 : decode cX12_restore 3 = .ok (.invokestatic 383, 3) := by decide +kernel
theorem dX12_restore_6 : decode cX12_restore 6 = .ok (.ifCond .eq 12, 3) := by decide +kernel
theorem dX12_restore_9 : decode cX12_restore 9 = .ok (.aload_n 0, 1) := by decide +kernel
theorem dX12_restore_10 : decode cX12_restore 10 = .ok (.getfield 197, 3) := by decide +kernel
theorem dX12_restore_13 : decode cX12_restore 13 = .ok (.iload_n 1, 1) := by decide +kernel
theorem dX12_restore_14 : decode cX12_restore 14 = .ok (.iaload, 1) := by decide +kernel
theorem dX12_restore_15 : decode cX12_restore 15 = .ok (.ifCond .ge 5, 3) := by decide +kernel
theorem dX12_restore_18 : decode cX12_restore 18 = .ok (.iconst 0, 1) := by decide +kernel
theorem dX12_restore_19 : decode cX12_restore 19 = .ok (.ireturn, 1) := by decide +kernel
theorem dX12_restore_20 : decode cX12_restore 20 = .ok (.aload_n 0, 1) := by decide +kernel
theorem dX12_restore_21 : decode cX12_restore 21 = .ok (.aload_n 0, 1) := by decide +kernel
theorem dX12_restore_22 : decode cX12_restore 22 = .ok (.getfield 197, 3) := by decide +kernel
theorem dX12_restore_25 : decode cX12_restore 25 = .ok (.iload_n 1, 1) := by decide +kernel
theorem dX12_restore_26 : decode cX12_restore 26 = .ok (.iaload, 1) := by decide +kernel
theorem dX12_restore_27 : decode cX12_restore 27 = .ok (.putfield 305, 3) := by decide +kernel
theorem dX12_restore_30 : decode cX12_restore 30 = .ok (.iconst 0, 1) := by decide +kernel
theorem dX12_restore_31 : decode cX12_restore 31 = .ok (.istore_n 2, 1) := by decide +kernel
theorem dX12_restore_32 : decode cX12_restore 32 = .ok (.iload_n 2, 1) := by decide +kernel
theorem dX12_restore_33 : decode cX12_restore 33 = .ok (.aload_n 0, 1) := by decide +kernel
theorem dX12_restore_34 : decode cX12_restore 34 = .ok (.getfield 305, 3) := by decide +kernel
theorem dX12_restore_37 : decode cX12_restore 37 = .ok (.if_icmp .ge 77, 3) := by decide +kernel
theorem dX12_restore_40 : decode cX12_restore 40 = .ok (.aload_n 0, 1) := by decide +kernel
theorem dX12_restore_41 : decode cX12_restore 41 = .ok (.getfield 137, 3) := by decide +kernel
theorem dX12_restore_44 : decode cX12_restore 44 = .ok (.iload_n 2, 1) := by decide +kernel
theorem dX12_restore_45 : decode cX12_restore 45 = .ok (.aload_n 0, 1) := by decide +kernel
theorem dX12_restore_46 : decode cX12_restore 46 = .ok (.getfield 200, 3) := by decide +kernel
theorem dX12_restore_49 : decode cX12_restore 49 = .ok (.bipush 60, 2) := by decide +kernel
theorem dX12_restore_51 : decode cX12_restore 51 = .ok (.iload_n 1, 1) := by decide +kernel
theorem dX12_restore_52 : decode cX12_restore 52 = .ok (.imul, 1) := by decide +kernel
theorem dX12_restore_53 : decode cX12_restore 53 = .ok (.iload_n 2, 1) := by decide +kernel
theorem dX12_restore_54 : decode cX12_restore 54 = .ok (.iadd, 1) := by decide +kernel
theorem dX12_restore_55 : decode cX12_restore 55 = .ok (.iaload, 1) := by decide +kernel
theorem dX12_restore_56 : decode cX12_restore 56 = .ok (.iastore, 1) := by decide +kernel
theorem dX12_restore_57 : decode cX12_restore 57 = .ok (.aload_n 0, 1) := by decide +kernel
theorem dX12_restore_58 : decode cX12_restore 58 = .ok (.getfield 140, 3) := by decide +kernel
theorem dX12_restore_61 : decode cX12_restore 61 = .ok (.iload_n 2, 1) := by decide +kernel
theorem dX12_restore_62 : decode cX12_restore 62 = .ok (.aload_n 0, 1) := by decide +kernel
theorem dX12_restore_63 : decode cX12_restore 63 = .ok (.getfield 203, 3) := by decide +kernel
theorem dX12_restore_66 : decode cX12_restore 66 = .ok (.bipush 60, 2) := by decide +kernel
theorem dX12_restore_68 : decode cX12_restore 68 = .ok (.iload_n 1, 1) := by decide +kernel
theorem dX12_restore_69 : decode cX12_restore 69 = .ok (.imul, 1) := by decide +kernel
theorem dX12_restore_70 : decode cX12_restore 70 = .ok (.iload_n 2, 1) := by decide +kernel
theorem dX12_restore_71 : decode cX12_restore 71 = .ok (.iadd, 1) := by decide +kernel
theorem dX12_restore_72 : decode cX12_restore 72 = .ok (.iaload, 1) := by decide +kernel
theorem dX12_restore_73 : decode cX12_restore 73 = .ok (.iastore, 1) := by decide +kernel
theorem dX12_restore_74 : decode cX12_restore 74 = .ok (.aload_n 0, 1) := by decide +kernel
theorem dX12_restore_75 : decode cX12_restore 75 = .ok (.getfield 143, 3) := by decide +kernel
theorem dX12_restore_78 : decode cX12_restore 78 = .ok (.iload_n 2, 1) := by decide +kernel
theorem dX12_restore_79 : decode cX12_restore 79 = .ok (.aload_n 0, 1) := by decide +kernel
theorem dX12_restore_80 : decode cX12_restore 80 = .ok (.getfield 206, 3) := by decide +kernel
theorem dX12_restore_83 : decode cX12_restore 83 = .ok (.bipush 60, 2) := by decide +kernel
theorem dX12_restore_85 : decode cX12_restore 85 = .ok (.iload_n 1, 1) := by decide +kernel
theorem dX12_restore_86 : decode cX12_restore 86 = .ok (.imul, 1) := by decide +kernel
theorem dX12_restore_87 : decode cX12_restore 87 = .ok (.iload_n 2, 1) := by decide +kernel
theorem dX12_restore_88 : decode cX12_restore 88 = .ok (.iadd, 1) := by decide +kernel
theorem dX12_restore_89 : decode cX12_restore 89 = .ok (.iaload, 1) := by decide +kernel
theorem dX12_restore_90 : decode cX12_restore 90 = .ok (.iastore, 1) := by decide +kernel
theorem dX12_restore_91 : decode cX12_restore 91 = .ok (.aload_n 0, 1) := by decide +kernel
theorem dX12_restore_92 : decode cX12_restore 92 = .ok (.getfield 146, 3) := by decide +kernel
theorem dX12_restore_95 : decode cX12_restore 95 = .ok (.iload_n 2, 1) := by decide +kernel
theorem dX12_restore_96 : decode cX12_restore 96 = .ok (.aload_n 0, 1) := by decide +kernel
theorem dX12_restore_97 : decode cX12_restore 97 = .ok (.getfield 209, 3) := by decide +kernel
theorem dX12_restore_100 : decode cX12_restore 100 = .ok (.bipush 60, 2) := by decide +kernel
theorem dX12_restore_102 : decode cX12_restore 102 = .ok (.iload_n 1, 1) := by decide +kernel
theorem dX12_restore_103 : decode cX12_restore 103 = .ok (.imul, 1) := by decide +kernel
theorem dX12_restore_104 : decode cX12_restore 104 = .ok (.iload_n 2, 1) := by decide +kernel
theorem dX12_restore_105 : decode cX12_restore 105 = .ok (.iadd, 1) := by decide +kernel
theorem dX12_restore_106 : decode cX12_restore 106 = .ok (.iaload, 1) := by decide +kernel
theorem dX12_restore_107 : decode cX12_restore 107 = .ok (.iastore, 1) := by decide +kernel
theorem dX12_restore_108 : decode cX12_restore 108 = .ok (.iinc 2 1, 3) := by decide +kernel
theorem dX12_restore_111 : decode cX12_restore 111 = .ok (.goto (-79), 3) := by decide +kernel
theorem dX12_restore_114 : decode cX12_restore 114 = .ok (.iconst 1, 1) := by decide +kernel
theorem dX12_restore_115 : decode cX12_restore 115 = .ok (.ireturn, 1) := by decide +kernel
def bX12_restore_32   (r32 : Int32 → Int32 → Hp → Option (Int32 × Hp)) (x1 : Int32) (x2 : Int32) (h : Hp) : Option (Int32 × Hp) := (if (h.1 0 59) ≤ x2 then ck (zb 1) (some (1, h)) else ck (inb (((60 : Int32) * x1) + x2) 180) (ck (inb x2 60) (lt (wI h 40 (ix x2) (h.1 61 (ix (((60 : Int32) * x1) + x2)))) (fun h1 => ck (inb (((60 : Int32) * x1) + x2) 180) (ck (inb x2 60) (lt (wI h1 41 (ix x2) (h1.1 62 (ix (((60 : Int32) * x1) + x2)))) (fun h2 => ck (inb (((60 : Int32) * x1) + x2) 180) (ck (inb x2 60) (lt (wI h2 42 (ix x2) (h2.1 63 (ix (((60 : Int32) * x1) + x2)))) (fun h3 => ck (inb (((60 : Int32) * x1) + x2) 180) (ck (inb x2 60) (lt (wI h3 43 (ix x2) (h3.1 64 (ix (((60 : Int32) * x1) + x2)))) (fun h4 => lt (x2 + 1) (fun v5 => r32 x1 v5 h4))))))))))))))
def lX12_restore_32   : Nat → Int32 → Int32 → Hp → Option (Int32 × Hp)
  | 0 => fun _ _ _ => none
  | n + 1 => bX12_restore_32   (lX12_restore_32   n)
set_option maxRecDepth 20000 in
theorem BX12_restore_32 {Z : ZT} {G : GT} {r : Int32} {hr : Hp} (X : CX Z G cX12_restore RX12 3 1) (E : RX Z G (some .boolean) (some (.int r)) hr) (hz : HZM Z)  (r32 : Int32 → Int32 → Hp → Option (Int32 × Hp)) (hr32 : ∀ (x1 : Int32) (x2 : Int32) (h : Hp), r32 x1 x2 h = some (r, hr) → J Z G 3 h 32 [(0, .ref (Z.2.1 0)), (1, .int x1), (2, .int x2)] []) (x1 : Int32) (x2 : Int32) (h : Hp) (hF : bX12_restore_32   r32 x1 x2 h = some (r, hr)) : J Z G 3 h 32 [(0, .ref (Z.2.1 0)), (1, .int x1), (2, .int x2)] [] := by
  unfold bX12_restore_32 at hF
  refine j_iload_n (pc := 32) 2 X dX12_restore_32 rfl ?_
  refine j_aload_n (pc := 33) 0 X dX12_restore_33 rfl ?_
  refine j_geti (pc := 34) X dX12_restore_34 (hz _ sh_0) fl_X12_305 rfl ?_
  refine j_icmp_ge (pc := 37) 114 X dX12_restore_37 rfl hF (fun hF => ?_) (fun hF => ?_)
  · refine j_iconst (pc := 114) 1 X dX12_restore_114 rfl ?_
    exact j_zret (pc := 115) X E dX12_restore_115 hF
  · refine j_aload_n (pc := 40) 0 X dX12_restore_40 rfl ?_
    refine j_getr (pc := 41) X dX12_restore_41 (hz _ sh_0) fl_X12_137 rfl ?_
    refine j_iload_n (pc := 44) 2 X dX12_restore_44 rfl ?_
    refine j_aload_n (pc := 45) 0 X dX12_restore_45 rfl ?_
    refine j_getr (pc := 46) X dX12_restore_46 (hz _ sh_0) fl_X12_200 rfl ?_
    refine j_bipush (pc := 49) 60 X dX12_restore_49 rfl ?_
    refine j_iload_n (pc := 51) 1 X dX12_restore_51 rfl ?_
    refine j_imul (pc := 52) X dX12_restore_52 ?_
    refine j_iload_n (pc := 53) 2 X dX12_restore_53 rfl ?_
    refine j_iadd (pc := 54) X dX12_restore_54 ?_
    refine j_iald (pc := 55) X dX12_restore_55 (hz _ sh_61) hF (fun hF => ?_)
    refine j_iast (pc := 56) X dX12_restore_56 (hz _ sh_40) hF (fun h1 hF => ?_)
    refine j_aload_n (pc := 57) 0 X dX12_restore_57 rfl ?_
    refine j_getr (pc := 58) X dX12_restore_58 (hz _ sh_0) fl_X12_140 rfl ?_
    refine j_iload_n (pc := 61) 2 X dX12_restore_61 rfl ?_
    refine j_aload_n (pc := 62) 0 X dX12_restore_62 rfl ?_
    refine j_getr (pc := 63) X dX12_restore_63 (hz _ sh_0) fl_X12_203 rfl ?_
    refine j_bipush (pc := 66) 60 X dX12_restore_66 rfl ?_
    refine j_iload_n (pc := 68) 1 X dX12_restore_68 rfl ?_
    refine j_imul (pc := 69) X dX12_restore_69 ?_
    refine j_iload_n (pc := 70) 2 X dX12_restore_70 rfl ?_
    refine j_iadd (pc := 71) X dX12_restore_71 ?_
    refine j_iald (pc := 72) X dX12_restore_72 (hz _ sh_62) hF (fun hF => ?_)
    refine j_iast (pc := 73) X dX12_restore_73 (hz _ sh_41) hF (fun h2 hF => ?_)
    refine j_aload_n (pc := 74) 0 X dX12_restore_74 rfl ?_
    refine j_getr (pc := 75) X dX12_restore_75 (hz _ sh_0) fl_X12_143 rfl ?_
    refine j_iload_n (pc := 78) 2 X dX12_restore_78 rfl ?_
    refine j_aload_n (pc := 79) 0 X dX12_restore_79 rfl ?_
    refine j_getr (pc := 80) X dX12_restore_80 (hz _ sh_0) fl_X12_206 rfl ?_
    refine j_bipush (pc := 83) 60 X dX12_restore_83 rfl ?_
    refine j_iload_n (pc := 85) 1 X dX12_restore_85 rfl ?_
    refine j_imul (pc := 86) X dX12_restore_86 ?_
    refine j_iload_n (pc := 87) 2 X dX12_restore_87 rfl ?_
    refine j_iadd (pc := 88) X dX12_restore_88 ?_
    refine j_iald (pc := 89) X dX12_restore_89 (hz _ sh_63) hF (fun hF => ?_)
    refine j_iast (pc := 90) X dX12_restore_90 (hz _ sh_42) hF (fun h3 hF => ?_)
    refine j_aload_n (pc := 91) 0 X dX12_restore_91 rfl ?_
    refine j_getr (pc := 92) X dX12_restore_92 (hz _ sh_0) fl_X12_146 rfl ?_
    refine j_iload_n (pc := 95) 2 X dX12_restore_95 rfl ?_
    refine j_aload_n (pc := 96) 0 X dX12_restore_96 rfl ?_
    refine j_getr (pc := 97) X dX12_restore_97 (hz _ sh_0) fl_X12_209 rfl ?_
    refine j_bipush (pc := 100) 60 X dX12_restore_100 rfl ?_
    refine j_iload_n (pc := 102) 1 X dX12_restore_102 rfl ?_
    refine j_imul (pc := 103) X dX12_restore_103 ?_
    refine j_iload_n (pc := 104) 2 X dX12_restore_104 rfl ?_
    refine j_iadd (pc := 105) X dX12_restore_105 ?_
    refine j_iald (pc := 106) X dX12_restore_106 (hz _ sh_64) hF (fun hF => ?_)
    refine j_iast (pc := 107) X dX12_restore_107 (hz _ sh_43) hF (fun h4 hF => ?_)
    refine j_iinc (pc := 108) 2 (x2 + 1) (fun y => [(2, .int y), (0, .ref (Z.2.1 0)), (1, .int x1)]) X dX12_restore_108 rfl rfl (by decide) (fun _ => rfl) hF (fun v5 hF => ?_)
    refine j_goto (pc := 111) 32 X dX12_restore_111 rfl ?_
    refine j_lv [(0, .ref (Z.2.1 0)), (1, .int x1), (2, .int v5)] [1, 2, 0] rfl ?_
    exact hr32 x1 v5 h4 hF
theorem LX12_restore_32 {Z : ZT} {G : GT} {r : Int32} {hr : Hp} (X : CX Z G cX12_restore RX12 3 1) (E : RX Z G (some .boolean) (some (.int r)) hr) (hz : HZM Z)  : ∀ (n : Nat) (x1 : Int32) (x2 : Int32) (h : Hp), lX12_restore_32   n x1 x2 h = some (r, hr) → J Z G 3 h 32 [(0, .ref (Z.2.1 0)), (1, .int x1), (2, .int x2)] [] := by
  intro n
  induction n with
  | zero => intro x1 x2 h hF; cases hF
  | succ n ih => intro x1 x2 h hF; exact BX12_restore_32 X E hz  (lX12_restore_32   n) ih x1 x2 h hF
def fX12_restore (a1 : Int32) (h : Hp) : Option (Int32 × Hp) := bi (fX12_in a1 0 2 h) (fun w2 h1 => (if w2 = 0 then ck (zb 0) (some (0, h1)) else ck (inb a1 3) ((if 0 ≤ (h1.1 60 (ix a1)) then ck (inb a1 3) (lt (wI h1 0 59 (h1.1 60 (ix a1))) (fun h3 => lt 0 (fun v4 => lX12_restore_32 FU a1 v4 h3))) else ck (zb 0) (some (0, h1))))))
set_option maxRecDepth 20000 in
theorem tX12_restore (Z : ZT) (a1 : Int32) (hz : HZM Z) (h : Hp) (r : Int32) (hr : Hp) (hF : fX12_restore a1 h = some (r, hr)) : MC Z yX12_restore cX12_restore 3 (some .boolean) 1 [.ref (Z.2.1 0), .int a1] h (some (.int r)) hr := by
  unfold fX12_restore at hF
  refine mc_start (by decide) (Nat.le_of_ble_eq_true rfl) (fun G X E => ?_)
  refine j_iload_n (pc := 0) 1 X dX12_restore_0 rfl ?_
  refine j_iconst (pc := 1) 0 X dX12_restore_1 rfl ?_
  refine j_iconst (pc := 2) 2 X dX12_restore_2 rfl ?_
  refine j_cSi (pc := 3) (As := [.int a1, .int 0, .int 2]) (rest := []) X dX12_restore_3 ml_X12_383 ck_X12_in sk_X12_in (Nat.le_of_ble_eq_true rfl) rfl (Nat.le_of_ble_eq_true rfl) rfl hF (tX12_in Z a1 0 2 trivial h) (fun w2 h1 hF => ?_)
  refine j_if_eq (pc := 6) 18 X dX12_restore_6 rfl hF (fun hF => ?_) (fun hF => ?_)
  · refine j_iconst (pc := 18) 0 X dX12_restore_18 rfl ?_
    exact j_zret (pc := 19) X E dX12_restore_19 hF
  · refine j_aload_n (pc := 9) 0 X dX12_restore_9 rfl ?_
    refine j_getr (pc := 10) X dX12_restore_10 (hz _ sh_0) fl_X12_197 rfl ?_
    refine j_iload_n (pc := 13) 1 X dX12_restore_13 rfl ?_
    refine j_iald (pc := 14) X dX12_restore_14 (hz _ sh_60) hF (fun hF => ?_)
    refine j_if_ge (pc := 15) 20 X dX12_restore_15 rfl hF (fun hF => ?_) (fun hF => ?_)
    · refine j_aload_n (pc := 20) 0 X dX12_restore_20 rfl ?_
      refine j_aload_n (pc := 21) 0 X dX12_restore_21 rfl ?_
      refine j_getr (pc := 22) X dX12_restore_22 (hz _ sh_0) fl_X12_197 rfl ?_
      refine j_iload_n (pc := 25) 1 X dX12_restore_25 rfl ?_
      refine j_iald (pc := 26) X dX12_restore_26 (hz _ sh_60) hF (fun hF => ?_)
      refine j_puti (pc := 27) X dX12_restore_27 (hz _ sh_0) fp_X12_305 rfl hF (fun h3 hF => ?_)
      refine j_iconst (pc := 30) 0 X dX12_restore_30 rfl ?_
      refine j_istore_n (pc := 31) (fun y => [(2, .int y), (0, .ref (Z.2.1 0)), (1, .int a1)]) X dX12_restore_31 (by decide) (fun _ => rfl) hF (fun v4 hF => ?_)
      refine j_lv [(0, .ref (Z.2.1 0)), (1, .int a1), (2, .int v4)] [1, 2, 0] rfl ?_
      exact LX12_restore_32 X E hz FU a1 v4 h3 hF
    · refine j_iconst (pc := 18) 0 X dX12_restore_18 rfl ?_
      exact j_zret (pc := 19) X E dX12_restore_19 hF
theorem dX12_count_0 : decode cX12_count 0 = .ok (.iload_n 1, 1) := by decide +kernel
theorem dX12_count_1 : decode cX12_count 1 = .ok (.tableswitch 152 0 7 #[47, 57, 67, 77, 87, 97, 102, 107], 47) := by decide +kernel
theorem dX12_count_48 : decode cX12_count 48 = .ok (.aload_n 0, 1) := by decide +kernel
theorem dX12_count_49 : decode cX12_count 49 = .ok (.getfield 49, 3) := by decide +kernel
theorem dX12_count_52 : decode cX12_count 52 = .ok (.aload_n 0, 1) := by decide +kernel
theorem dX12_count_53 : decode cX12_count 53 = .ok (.getfield 284, 3) := by decide +kernel
theorem dX12_count_56 : decode cX12_count 56 = .ok (.iaload, 1) := by decide +kernel
theorem dX12_count_57 : decode cX12_count 57 = .ok (.ireturn, 1) := by decide +kernel
theorem dX12_count_58 : decode cX12_count 58 = .ok (.aload_n 0, 1) := by decide +kernel
theorem dX12_count_59 : decode cX12_count 59 = .ok (.getfield 55, 3) := by decide +kernel
theorem dX12_count_62 : decode cX12_count 62 = .ok (.aload_n 0, 1) := by decide +kernel
theorem dX12_count_63 : decode cX12_count 63 = .ok (.getfield 284, 3) := by decide +kernel
theorem dX12_count_66 : decode cX12_count 66 = .ok (.iaload, 1) := by decide +kernel
theorem dX12_count_67 : decode cX12_count 67 = .ok (.ireturn, 1) := by decide +kernel
theorem dX12_count_68 : decode cX12_count 68 = .ok (.aload_n 0, 1) := by decide +kernel
theorem dX12_count_69 : decode cX12_count 69 = .ok (.getfield 67, 3) := by decide +kernel
theorem dX12_count_72 : decode cX12_count 72 = .ok (.aload_n 0, 1) := by decide +kernel
theorem dX12_count_73 : decode cX12_count 73 = .ok (.getfield 284, 3) := by decide +kernel
theorem dX12_count_76 : decode cX12_count 76 = .ok (.iaload, 1) := by decide +kernel
theorem dX12_count_77 : decode cX12_count 77 = .ok (.ireturn, 1) := by decide +kernel
theorem dX12_count_78 : decode cX12_count 78 = .ok (.aload_n 0, 1) := by decide +kernel
theorem dX12_count_79 : decode cX12_count 79 = .ok (.getfield 58, 3) := by decide +kernel
theorem dX12_count_82 : decode cX12_count 82 = .ok (.aload_n 0, 1) := by decide +kernel
theorem dX12_count_83 : decode cX12_count 83 = .ok (.getfield 284, 3) := by decide +kernel
theorem dX12_count_86 : decode cX12_count 86 = .ok (.iaload, 1) := by decide +kernel
theorem dX12_count_87 : decode cX12_count 87 = .ok (.ireturn, 1) := by decide +kernel
theorem dX12_count_88 : decode cX12_count 88 = .ok (.aload_n 0, 1) := by decide +kernel
theorem dX12_count_89 : decode cX12_count 89 = .ok (.getfield 91, 3) := by decide +kernel
theorem dX12_count_92 : decode cX12_count 92 = .ok (.aload_n 0, 1) := by decide +kernel
theorem dX12_count_93 : decode cX12_count 93 = .ok (.getfield 284, 3) := by decide +kernel
theorem dX12_count_96 : decode cX12_count 96 = .ok (.iaload, 1) := by decide +kernel
theorem dX12_count_97 : decode cX12_count 97 = .ok (.ireturn, 1) := by decide +kernel
theorem dX12_count_98 : decode cX12_count 98 = .ok (.aload_n 0, 1) := by decide +kernel
theorem dX12_count_99 : decode cX12_count 99 = .ok (.getfield 305, 3) := by decide +kernel
theorem dX12_count_102 : decode cX12_count 102 = .ok (.ireturn, 1) := by decide +kernel
theorem dX12_count_103 : decode cX12_count 103 = .ok (.aload_n 0, 1) := by decide +kernel
theorem dX12_count_104 : decode cX12_count 104 = .ok (.getfield 216, 3) := by decide +kernel
theorem dX12_count_107 : decode cX12_count 107 = .ok (.ireturn, 1) := by decide +kernel
theorem dX12_count_108 : decode cX12_count 108 = .ok (.aload_n 0, 1) := by decide +kernel
theorem dX12_count_109 : decode cX12_count 109 = .ok (.getfield 197, 3) := by decide +kernel
theorem dX12_count_112 : decode cX12_count 112 = .ok (.iconst 0, 1) := by decide +kernel
theorem dX12_count_113 : decode cX12_count 113 = .ok (.iaload, 1) := by decide +kernel
theorem dX12_count_114 : decode cX12_count 114 = .ok (.ifCond .ge 7, 3) := by decide +kernel
theorem dX12_count_117 : decode cX12_count 117 = .ok (.iconst 0, 1) := by decide +kernel
theorem dX12_count_118 : decode cX12_count 118 = .ok (.goto 4, 3) := by decide +kernel
theorem dX12_count_121 : decode cX12_count 121 = .ok (.iconst 1, 1) := by decide +kernel
theorem dX12_count_122 : decode cX12_count 122 = .ok (.aload_n 0, 1) := by decide +kernel
theorem dX12_count_123 : decode cX12_count 123 = .ok (.getfield 197, 3) := by decide +kernel
theorem dX12_count_126 : decode cX12_count 126 = .ok (.iconst 1, 1) := by decide +kernel
theorem dX12_count_127 : decode cX12_count 127 = .ok (.iaload, 1) := by decide +kernel
theorem dX12_count_128 : decode cX12_count 128 = .ok (.ifCond .ge 7, 3) := by decide +kernel
theorem dX12_count_131 : decode cX12_count 131 = .ok (.iconst 0, 1) := by decide +kernel
theorem dX12_count_132 : decode cX12_count 132 = .ok (.goto 4, 3) := by decide +kernel
theorem dX12_count_135 : decode cX12_count 135 = .ok (.iconst 1, 1) := by decide +kernel
theorem dX12_count_136 : decode cX12_count 136 = .ok (.iadd, 1) := by decide +kernel
theorem dX12_count_137 : decode cX12_count 137 = .ok (.aload_n 0, 1) := by decide +kernel
theorem dX12_count_138 : decode cX12_count 138 = .ok (.getfield 197, 3) := by decide +kernel
theorem dX12_count_141 : decode cX12_count 141 = .ok (.iconst 2, 1) := by decide +kernel
theorem dX12_count_142 : decode cX12_count 142 = .ok (.iaload, 1) := by decide +kernel
theorem dX12_count_143 : decode cX12_count 143 = .ok (.ifCond .ge 7, 3) := by decide +kernel
theorem dX12_count_146 : decode cX12_count 146 = .ok (.iconst 0, 1) := by decide +kernel
theorem dX12_count_147 : decode cX12_count 147 = .ok (.goto 4, 3) := by decide +kernel
theorem dX12_count_150 : decode cX12_count 150 = .ok (.iconst 1, 1) := by decide +kernel
theorem dX12_count_151 : decode cX12_count 151 = .ok (.iadd, 1) := by decide +kernel
theorem dX12_count_152 : decode cX12_count 152 = .ok (.ireturn, 1) := by decide +kernel
theorem dX12_count_153 : decode cX12_count 153 = .ok (.iconst (-1), 1) := by decide +kernel
theorem dX12_count_154 : decode cX12_count 154 = .ok (.ireturn, 1) := by decide +kernel
def bX12_count_136   (s0 : Int32) (s1 : Int32) (h : Hp) : Option (Int32 × Hp) := ck (inb 2 3) ((if 0 ≤ (h.1 60 (ix 2)) then some (((s1 + s0) + 1), h) else some (((s1 + s0) + 0), h)))
set_option maxRecDepth 20000 in
theorem BX12_count_136 {Z : ZT} {G : GT} {r : Int32} {hr : Hp} (X : CX Z G cX12_count RX12 2 0) (E : RX Z G (some .int) (some (.int r)) hr) (hz : HZM Z)  (s0 : Int32) (s1 : Int32) (h : Hp) (hF : bX12_count_136   s0 s1 h = some (r, hr)) : J Z G 2 h 136 [(0, .ref (Z.2.1 0))] [.int s0, .int s1] := by
  unfold bX12_count_136 at hF
  refine j_iadd (pc := 136) X dX12_count_136 ?_
  refine j_aload_n (pc := 137) 0 X dX12_count_137 rfl ?_
  refine j_getr (pc := 138) X dX12_count_138 (hz _ sh_0) fl_X12_197 rfl ?_
  refine j_iconst (pc := 141) 2 X dX12_count_141 rfl ?_
  refine j_iald (pc := 142) X dX12_count_142 (hz _ sh_60) hF (fun hF => ?_)
  refine j_if_ge (pc := 143) 150 X dX12_count_143 rfl hF (fun hF => ?_) (fun hF => ?_)
  · refine j_iconst (pc := 150) 1 X dX12_count_150 rfl ?_
    refine j_iadd (pc := 151) X dX12_count_151 ?_
    exact j_iret (pc := 152) X E dX12_count_152 hF
  · refine j_iconst (pc := 146) 0 X dX12_count_146 rfl ?_
    refine j_goto (pc := 147) 151 X dX12_count_147 rfl ?_
    refine j_iadd (pc := 151) X dX12_count_151 ?_
    exact j_iret (pc := 152) X E dX12_count_152 hF
def bX12_count_122   (s0 : Int32) (h : Hp) : Option (Int32 × Hp) := ck (inb 1 3) ((if 0 ≤ (h.1 60 (ix 1)) then bX12_count_136 1 s0 h else bX12_count_136 0 s0 h))
set_option maxRecDepth 20000 in
theorem BX12_count_122 {Z : ZT} {G : GT} {r : Int32} {hr : Hp} (X : CX Z G cX12_count RX12 2 0) (E : RX Z G (some .int) (some (.int r)) hr) (hz : HZM Z)  (s0 : Int32) (h : Hp) (hF : bX12_count_122   s0 h = some (r, hr)) : J Z G 2 h 122 [(0, .ref (Z.2.1 0))] [.int s0] := by
  unfold bX12_count_122 at hF
  refine j_aload_n (pc := 122) 0 X dX12_count_122 rfl ?_
  refine j_getr (pc := 123) X dX12_count_123 (hz _ sh_0) fl_X12_197 rfl ?_
  refine j_iconst (pc := 126) 1 X dX12_count_126 rfl ?_
  refine j_iald (pc := 127) X dX12_count_127 (hz _ sh_60) hF (fun hF => ?_)
  refine j_if_ge (pc := 128) 135 X dX12_count_128 rfl hF (fun hF => ?_) (fun hF => ?_)
  · refine j_iconst (pc := 135) 1 X dX12_count_135 rfl ?_
    exact BX12_count_136 X E hz 1 s0 h hF
  · refine j_iconst (pc := 131) 0 X dX12_count_131 rfl ?_
    refine j_goto (pc := 132) 136 X dX12_count_132 rfl ?_
    exact BX12_count_136 X E hz 0 s0 h hF
def fX12_count (a1 : Int32) (h : Hp) : Option (Int32 × Hp) := (if a1.toInt < 0 ∨ 7 < a1.toInt then some ((-1), h) else if a1 = 0 then ck (inb (h.1 0 18) 2) (some ((h.1 11 (ix (h.1 0 18))), h)) else if a1 = 1 then ck (inb (h.1 0 18) 2) (some ((h.1 13 (ix (h.1 0 18))), h)) else if a1 = 2 then ck (inb (h.1 0 18) 2) (some ((h.1 17 (ix (h.1 0 18))), h)) else if a1 = 3 then ck (inb (h.1 0 18) 2) (some ((h.1 14 (ix (h.1 0 18))), h)) else if a1 = 4 then ck (inb (h.1 0 18) 2) (some ((h.1 25 (ix (h.1 0 18))), h)) else if a1 = 5 then some ((h.1 0 59), h) else if a1 = 6 then some ((h.1 0 2), h) else if a1 = 7 then ck (inb 0 3) ((if 0 ≤ (h.1 60 (ix 0)) then bX12_count_122 1 h else bX12_count_122 0 h)) else none)
set_option maxRecDepth 20000 in
theorem tX12_count (Z : ZT) (a1 : Int32) (hz : HZM Z) (h : Hp) (r : Int32) (hr : Hp) (hF : fX12_count a1 h = some (r, hr)) : MC Z yX12_count cX12_count 2 (some .int) 0 [.ref (Z.2.1 0), .int a1] h (some (.int r)) hr := by
  unfold fX12_count at hF
  refine mc_start (by decide) (Nat.le_of_ble_eq_true rfl) (fun G X E => ?_)
  refine j_iload_n (pc := 0) 1 X dX12_count_0 rfl ?_
  refine j_tab (pc := 1) (tgt := 153) X dX12_count_1 rfl hF (fun hF => ?_) (fun hF => ?_)
  · refine j_iconst (pc := 153) (-1) X dX12_count_153 rfl ?_
    exact j_iret (pc := 154) X E dX12_count_154 hF
  refine j_tabi (pc := 1) (v := 0) (tgt := 48) X dX12_count_1 rfl rfl rfl rfl hF (fun hF => ?_) (fun hF => ?_)
  · refine j_aload_n (pc := 48) 0 X dX12_count_48 rfl ?_
    refine j_getr (pc := 49) X dX12_count_49 (hz _ sh_0) fl_X12_49 rfl ?_
    refine j_aload_n (pc := 52) 0 X dX12_count_52 rfl ?_
    refine j_geti (pc := 53) X dX12_count_53 (hz _ sh_0) fl_X12_284 rfl ?_
    refine j_iald (pc := 56) X dX12_count_56 (hz _ sh_11) hF (fun hF => ?_)
    exact j_iret (pc := 57) X E dX12_count_57 hF
  refine j_tabi (pc := 1) (v := 1) (tgt := 58) X dX12_count_1 rfl rfl rfl rfl hF (fun hF => ?_) (fun hF => ?_)
  · refine j_aload_n (pc := 58) 0 X dX12_count_58 rfl ?_
    refine j_getr (pc := 59) X dX12_count_59 (hz _ sh_0) fl_X12_55 rfl ?_
    refine j_aload_n (pc := 62) 0 X dX12_count_62 rfl ?_
    refine j_geti (pc := 63) X dX12_count_63 (hz _ sh_0) fl_X12_284 rfl ?_
    refine j_iald (pc := 66) X dX12_count_66 (hz _ sh_13) hF (fun hF => ?_)
    exact j_iret (pc := 67) X E dX12_count_67 hF
  refine j_tabi (pc := 1) (v := 2) (tgt := 68) X dX12_count_1 rfl rfl rfl rfl hF (fun hF => ?_) (fun hF => ?_)
  · refine j_aload_n (pc := 68) 0 X dX12_count_68 rfl ?_
    refine j_getr (pc := 69) X dX12_count_69 (hz _ sh_0) fl_X12_67 rfl ?_
    refine j_aload_n (pc := 72) 0 X dX12_count_72 rfl ?_
    refine j_geti (pc := 73) X dX12_count_73 (hz _ sh_0) fl_X12_284 rfl ?_
    refine j_iald (pc := 76) X dX12_count_76 (hz _ sh_17) hF (fun hF => ?_)
    exact j_iret (pc := 77) X E dX12_count_77 hF
  refine j_tabi (pc := 1) (v := 3) (tgt := 78) X dX12_count_1 rfl rfl rfl rfl hF (fun hF => ?_) (fun hF => ?_)
  · refine j_aload_n (pc := 78) 0 X dX12_count_78 rfl ?_
    refine j_getr (pc := 79) X dX12_count_79 (hz _ sh_0) fl_X12_58 rfl ?_
    refine j_aload_n (pc := 82) 0 X dX12_count_82 rfl ?_
    refine j_geti (pc := 83) X dX12_count_83 (hz _ sh_0) fl_X12_284 rfl ?_
    refine j_iald (pc := 86) X dX12_count_86 (hz _ sh_14) hF (fun hF => ?_)
    exact j_iret (pc := 87) X E dX12_count_87 hF
  refine j_tabi (pc := 1) (v := 4) (tgt := 88) X dX12_count_1 rfl rfl rfl rfl hF (fun hF => ?_) (fun hF => ?_)
  · refine j_aload_n (pc := 88) 0 X dX12_count_88 rfl ?_
    refine j_getr (pc := 89) X dX12_count_89 (hz _ sh_0) fl_X12_91 rfl ?_
    refine j_aload_n (pc := 92) 0 X dX12_count_92 rfl ?_
    refine j_geti (pc := 93) X dX12_count_93 (hz _ sh_0) fl_X12_284 rfl ?_
    refine j_iald (pc := 96) X dX12_count_96 (hz _ sh_25) hF (fun hF => ?_)
    exact j_iret (pc := 97) X E dX12_count_97 hF
  refine j_tabi (pc := 1) (v := 5) (tgt := 98) X dX12_count_1 rfl rfl rfl rfl hF (fun hF => ?_) (fun hF => ?_)
  · refine j_aload_n (pc := 98) 0 X dX12_count_98 rfl ?_
    refine j_geti (pc := 99) X dX12_count_99 (hz _ sh_0) fl_X12_305 rfl ?_
    exact j_iret (pc := 102) X E dX12_count_102 hF
  refine j_tabi (pc := 1) (v := 6) (tgt := 103) X dX12_count_1 rfl rfl rfl rfl hF (fun hF => ?_) (fun hF => ?_)
  · refine j_aload_n (pc := 103) 0 X dX12_count_103 rfl ?_
    refine j_geti (pc := 104) X dX12_count_104 (hz _ sh_0) fl_X12_216 rfl ?_
    exact j_iret (pc := 107) X E dX12_count_107 hF
  refine j_tabi (pc := 1) (v := 7) (tgt := 108) X dX12_count_1 rfl rfl rfl rfl hF (fun hF => ?_) (fun hF => ?_)
  · refine j_aload_n (pc := 108) 0 X dX12_count_108 rfl ?_
    refine j_getr (pc := 109) X dX12_count_109 (hz _ sh_0) fl_X12_197 rfl ?_
    refine j_iconst (pc := 112) 0 X dX12_count_112 rfl ?_
    refine j_iald (pc := 113) X dX12_count_113 (hz _ sh_60) hF (fun hF => ?_)
    refine j_if_ge (pc := 114) 121 X dX12_count_114 rfl hF (fun hF => ?_) (fun hF => ?_)
    · refine j_iconst (pc := 121) 1 X dX12_count_121 rfl ?_
      refine j_lv [(0, .ref (Z.2.1 0))] [0] rfl ?_
      exact BX12_count_122 X E hz 1 h hF
    · refine j_iconst (pc := 117) 0 X dX12_count_117 rfl ?_
      refine j_goto (pc := 118) 122 X dX12_count_118 rfl ?_
      refine j_lv [(0, .ref (Z.2.1 0))] [0] rfl ?_
      exact BX12_count_122 X E hz 0 h hF
  cases hF
