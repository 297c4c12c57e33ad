theorem dX12_tooSoon_0 : decode cX12_tooSoon 0 = .ok (.aload_n 0, 1) := by decide +kernel
theorem dX12_tooSoon_1 : decode cX12_tooSoon 1 = .ok (.iload_n 1, 1) := by decide +kernel
theorem dX12_tooSoon_2 : decode cX12_tooSoon 2 = .ok (.invokevirtual 435, 3) := by decide +kernel
theorem dX12_tooSoon_5 : decode cX12_tooSoon 5 = .ok (.ifCond .ne 5, 3) := by decide +kernel
theorem dX12_tooSoon_8 : decode cX12_tooSoon 8 = .ok (.iconst (-1), 1) := by decide +kernel
theorem dX12_tooSoon_9 : decode cX12_tooSoon 9 = .ok (.ireturn, 1) := by decide +kernel
theorem dX12_tooSoon_10 : decode cX12_tooSoon 10 = .ok (.aload_n 0, 1) := by decide +kernel
theorem dX12_tooSoon_11 : decode cX12_tooSoon 11 = .ok (.iload_n 1, 1) := by decide +kernel
theorem dX12_tooSoon_12 : decode cX12_tooSoon 12 = .ok (.invokevirtual 486, 3) := by decide +kernel
theorem dX12_tooSoon_15 : decode cX12_tooSoon 15 = .ok (.aload_n 0, 1) := by decide +kernel
theorem dX12_tooSoon_16 : decode cX12_tooSoon 16 = .ok (.invokevirtual 489, 3) := by decide +kernel
theorem dX12_tooSoon_19 : decode cX12_tooSoon 19 = .ok (.aload_n 0, 1) := by decide +kernel
theorem dX12_tooSoon_20 : decode cX12_tooSoon 20 = .ok (.iload_n 1, 1) := by decide +kernel
theorem dX12_tooSoon_21 : decode cX12_tooSoon 21 = .ok (.iconst 1, 1) := by decide +kernel
theorem dX12_tooSoon_22 : decode cX12_tooSoon 22 = .ok (.iconst 0, 1) := by decide +kernel
theorem dX12_tooSoon_23 : decode cX12_tooSoon 23 = .ok (.iconst 0, 1) := by decide +kernel
theorem dX12_tooSoon_24 : decode cX12_tooSoon 24 = .ok (.iconst 1, 1) := by decide +kernel
theorem dX12_tooSoon_25 : decode cX12_tooSoon 25 = .ok (.bipush 59, 2) := by decide +kernel
theorem dX12_tooSoon_27 : decode cX12_tooSoon 27 = .ok (.invokevirtual 482, 3) := by decide +kernel
theorem dX12_tooSoon_30 : decode cX12_tooSoon 30 = .ok (.iconst 0, 1) := by decide +kernel
theorem dX12_tooSoon_31 : decode cX12_tooSoon 31 = .ok (.istore_n 2, 1) := by decide +kernel
theorem dX12_tooSoon_32 : decode cX12_tooSoon 32 = .ok (.iconst 0, 1) := by decide +kernel
theorem dX12_tooSoon_33 : decode cX12_tooSoon 33 = .ok (.istore_n 3, 1) := by decide +kernel
theorem dX12_tooSoon_34 : decode cX12_tooSoon 34 = .ok (.iload_n 3, 1) := by decide +kernel
theorem dX12_tooSoon_35 : decode cX12_tooSoon 35 = .ok (.aload_n 0, 1) := by decide +kernel
theorem dX12_tooSoon_36 : decode cX12_tooSoon 36 = .ok (.getfield 67, 3) := by decide +kernel
theorem dX12_tooSoon_39 : decode cX12_tooSoon 39 = .ok (.aload_n 0, 1) := by decide +kernel
theorem dX12_tooSoon_40 : decode cX12_tooSoon 40 = .ok (.getfield 284, 3) := by decide +kernel
theorem dX12_tooSoon_43 : decode cX12_tooSoon 43 = .ok (.iaload, 1) := by decide +kernel
theorem dX12_tooSoon_44 : decode cX12_tooSoon 44 = .ok (.if_icmp .ge 50, 3) := by decide +kernel
theorem dX12_tooSoon_47 : decode cX12_tooSoon 47 = .ok (.aload_n 0, 1) := by decide +kernel
theorem dX12_tooSoon_48 : decode cX12_tooSoon 48 = .ok (.getfield 173, 3) := by decide +kernel
theorem dX12_tooSoon_51 : decode cX12_tooSoon 51 = .ok (.iload_n 3, 1) := by decide +kernel
theorem dX12_tooSoon_52 : decode cX12_tooSoon 52 = .ok (.iaload, 1) := by decide +kernel
theorem dX12_tooSoon_53 : decode cX12_tooSoon 53 = .ok (.iconst 1, 1) := by decide +kernel
theorem dX12_tooSoon_54 : decode cX12_tooSoon 54 = .ok (.if_icmp .ne 34, 3) := by decide +kernel
theorem dX12_tooSoon_57 : decode cX12_tooSoon 57 = .ok (.aload_n 0, 1) := by decide +kernel
theorem dX12_tooSoon_58 : decode cX12_tooSoon 58 = .ok (.getfield 149, 3) := by decide +kernel
theorem dX12_tooSoon_61 : decode cX12_tooSoon 61 = .ok (.iload_n 3, 1) := by decide +kernel
theorem dX12_tooSoon_62 : decode cX12_tooSoon 62 = .ok (.iaload, 1) := by decide +kernel
theorem dX12_tooSoon_63 : decode cX12_tooSoon 63 = .ok (.iconst 1, 1) := by decide +kernel
theorem dX12_tooSoon_64 : decode cX12_tooSoon 64 = .ok (.if_icmp .ne 18, 3) := by decide +kernel
theorem dX12_tooSoon_67 : decode cX12_tooSoon 67 = .ok (.aload_n 0, 1) := by decide +kernel
theorem dX12_tooSoon_68 : decode cX12_tooSoon 68 = .ok (.getfield 152, 3) := by decide +kernel
theorem dX12_tooSoon_71 : decode cX12_tooSoon 71 = .ok (.iload_n 3, 1) := by decide +kernel
theorem dX12_tooSoon_72 : decode cX12_tooSoon 72 = .ok (.iaload, 1) := by decide +kernel
theorem dX12_tooSoon_73 : decode cX12_tooSoon 73 = .ok (.aload_n 0, 1) := by decide +kernel
theorem dX12_tooSoon_74 : decode cX12_tooSoon 74 = .ok (.getfield 176, 3) := by decide +kernel
theorem dX12_tooSoon_77 : decode cX12_tooSoon 77 = .ok (.iload_n 3, 1) := by decide +kernel
theorem dX12_tooSoon_78 : decode cX12_tooSoon 78 = .ok (.iaload, 1) := by decide +kernel
theorem dX12_tooSoon_79 : decode cX12_tooSoon 79 = .ok (.if_icmp .le 9, 3) := by decide +kernel
theorem dX12_tooSoon_82 : decode cX12_tooSoon 82 = .ok (.iload_n 2, 1) := by decide +kernel
theorem dX12_tooSoon_83 : decode cX12_tooSoon 83 = .ok (.iconst 1, 1) := by decide +kernel
theorem dX12_tooSoon_84 : decode cX12_tooSoon 84 = .ok (.iload_n 3, 1) := by decide +kernel
theorem dX12_tooSoon_85 : decode cX12_tooSoon 85 = .ok (.ishl, 1) := by decide +kernel
theorem dX12_tooSoon_86 : decode cX12_tooSoon 86 = .ok (.ior, 1) := by decide +kernel
theorem dX12_tooSoon_87 : decode cX12_tooSoon 87 = .ok (.istore_n 2, 1) := by decide +kernel
theorem dX12_tooSoon_88 : decode cX12_tooSoon 88 = .ok (.iinc 3 1, 3) := by decide +kernel
theorem dX12_tooSoon_91 : decode cX12_tooSoon 91 = .ok (.goto (-57), 3) := by decide +kernel
theorem dX12_tooSoon_94 : decode cX12_tooSoon 94 = .ok (.iload_n 2, 1) := by decide +kernel
theorem dX12_tooSoon_95 : decode cX12_tooSoon 95 = .ok (.ireturn, 1) := by decide +kernel
def bX12_tooSoon_88  (r34 : Int32 → Int32 → Hp → Option (Int32 × Hp)) (x2 : Int32) (x3 : Int32) (h : Hp) : Option (Int32 × Hp) := lt (x3 + 1) (fun v1 => r34 x2 v1 h)
set_option maxRecDepth 20000 in
theorem BX12_tooSoon_88 {Z : ZT} {G : GT} {r : Int32} {hr : Hp} (X : CX Z G cX12_tooSoon RX12 4 8) (E : RX Z G (some .int) (some (.int r)) hr) (hz : HZM Z) (r34 : Int32 → Int32 → Hp → Option (Int32 × Hp)) (hr34 : ∀ (x2 : Int32) (x3 : Int32) (h : Hp), r34 x2 x3 h = some (r, hr) → J Z G 4 h 34 [(0, .ref (Z.2.1 0)), (2, .int x2), (3, .int x3)] []) (x2 : Int32) (x3 : Int32) (h : Hp) (hF : bX12_tooSoon_88  r34 x2 x3 h = some (r, hr)) : J Z G 4 h 88 [(0, .ref (Z.2.1 0)), (2, .int x2), (3, .int x3)] [] := by
  unfold bX12_tooSoon_88 at hF
  refine j_iinc (pc := 88) 2 (x3 + 1) (fun y => [(3, .int y), (0, .ref (Z.2.1 0)), (2, .int x2)]) X dX12_tooSoon_88 rfl rfl (by decide) (fun _ => rfl) hF (fun v1 hF => ?_)
  refine j_goto (pc := 91) 34 X dX12_tooSoon_91 rfl ?_
  refine j_lv [(0, .ref (Z.2.1 0)), (2, .int x2), (3, .int v1)] [1, 2, 0] rfl ?_
  exact hr34 x2 v1 h hF
def bX12_tooSoon_82  (r34 : Int32 → Int32 → Hp → Option (Int32 × Hp)) (x2 : Int32) (x3 : Int32) (h : Hp) : Option (Int32 × Hp) := lt (x2 ||| ((1 : Int32) <<< (x3 &&& 31))) (fun v1 => bX12_tooSoon_88 r34 v1 x3 h)
set_option maxRecDepth 20000 in
theorem BX12_tooSoon_82 {Z : ZT} {G : GT} {r : Int32} {hr : Hp} (X : CX Z G cX12_tooSoon RX12 4 8) (E : RX Z G (some .int) (some (.int r)) hr) (hz : HZM Z) (r34 : Int32 → Int32 → Hp → Option (Int32 × Hp)) (hr34 : ∀ (x2 : Int32) (x3 : Int32) (h : Hp), r34 x2 x3 h = some (r, hr) → J Z G 4 h 34 [(0, .ref (Z.2.1 0)), (2, .int x2), (3, .int x3)] []) (x2 : Int32) (x3 : Int32) (h : Hp) (hF : bX12_tooSoon_82  r34 x2 x3 h = some (r, hr)) : J Z G 4 h 82 [(0, .ref (Z.2.1 0)), (2, .int x2), (3, .int x3)] [] := by
  unfold bX12_tooSoon_82 at hF
  refine j_iload_n (pc := 82) 1 X dX12_tooSoon_82 rfl ?_
  refine j_iconst (pc := 83) 1 X dX12_tooSoon_83 rfl ?_
  refine j_iload_n (pc := 84) 2 X dX12_tooSoon_84 rfl ?_
  refine j_ishl (pc := 85) X dX12_tooSoon_85 ?_
  refine j_ior (pc := 86) X dX12_tooSoon_86 ?_
  refine j_istore_n (pc := 87) (fun y => [(2, .int y), (0, .ref (Z.2.1 0)), (3, .int x3)]) X dX12_tooSoon_87 (by decide) (fun _ => rfl) hF (fun v1 hF => ?_)
  refine j_lv [(0, .ref (Z.2.1 0)), (2, .int v1), (3, .int x3)] [1, 0, 2] rfl ?_
  exact BX12_tooSoon_88 X E hz r34 hr34 v1 x3 h hF
def bX12_tooSoon_34   (r34 : Int32 → Int32 → Hp → Option (Int32 × Hp)) (x2 : Int32) (x3 : Int32) (h : Hp) : Option (Int32 × Hp) := ck (inb (h.1 0 18) 2) ((if (h.1 17 (ix (h.1 0 18))) ≤ x3 then some (x2, h) else ck (inb x3 10) ((if (h.1 52 (ix x3)) = 1 then ck (inb x3 10) ((if (h.1 44 (ix x3)) = 1 then ck (inb x3 10) (ck (inb x3 10) ((if (h.1 45 (ix x3)) ≤ (h.1 53 (ix x3)) then bX12_tooSoon_88 r34 x2 x3 h else bX12_tooSoon_82 r34 x2 x3 h))) else bX12_tooSoon_82 r34 x2 x3 h)) else bX12_tooSoon_88 r34 x2 x3 h))))
def lX12_tooSoon_34   : Nat → Int32 → Int32 → Hp → Option (Int32 × Hp)
  | 0 => fun _ _ _ => none
  | n + 1 => bX12_tooSoon_34   (lX12_tooSoon_34   n)
set_option maxRecDepth 20000 in
theorem BX12_tooSoon_34 {Z : ZT} {G : GT} {r : Int32} {hr : Hp} (X : CX Z G cX12_tooSoon RX12 4 8) (E : RX Z G (some .int) (some (.int r)) hr) (hz : HZM Z)  (r34 : Int32 → Int32 → Hp → Option (Int32 × Hp)) (hr34 : ∀ (x2 : Int32) (x3 : Int32) (h : Hp), r34 x2 x3 h = some (r, hr) → J Z G 4 h 34 [(0, .ref (Z.2.1 0)), (2, .int x2), (3, .int x3)] []) (x2 : Int32) (x3 : Int32) (h : Hp) (hF : bX12_tooSoon_34   r34 x2 x3 h = some (r, hr)) : J Z G 4 h 34 [(0, .ref (Z.2.1 0)), (2, .int x2), (3, .int x3)] [] := by
  unfold bX12_tooSoon_34 at hF
  refine j_iload_n (pc := 34) 2 X dX12_tooSoon_34 rfl ?_
  refine j_aload_n (pc := 35) 0 X dX12_tooSoon_35 rfl ?_
  refine j_getr (pc := 36) X dX12_tooSoon_36 (hz _ sh_0) fl_X12_67 rfl ?_
  refine j_aload_n (pc := 39) 0 X dX12_tooSoon_39 rfl ?_
  refine j_geti (pc := 40) X dX12_tooSoon_40 (hz _ sh_0) fl_X12_284 rfl ?_
  refine j_iald (pc := 43) X dX12_tooSoon_43 (hz _ sh_17) hF (fun hF => ?_)
  refine j_icmp_ge (pc := 44) 94 X dX12_tooSoon_44 rfl hF (fun hF => ?_) (fun hF => ?_)
  · refine j_iload_n (pc := 94) 1 X dX12_tooSoon_94 rfl ?_
    exact j_iret (pc := 95) X E dX12_tooSoon_95 hF
  · refine j_aload_n (pc := 47) 0 X dX12_tooSoon_47 rfl ?_
    refine j_getr (pc := 48) X dX12_tooSoon_48 (hz _ sh_0) fl_X12_173 rfl ?_
    refine j_iload_n (pc := 51) 2 X dX12_tooSoon_51 rfl ?_
    refine j_iald (pc := 52) X dX12_tooSoon_52 (hz _ sh_52) hF (fun hF => ?_)
    refine j_iconst (pc := 53) 1 X dX12_tooSoon_53 rfl ?_
    refine j_icmp_ne (pc := 54) 88 X dX12_tooSoon_54 rfl hF (fun hF => ?_) (fun hF => ?_)
    · exact BX12_tooSoon_88 X E hz r34 hr34 x2 x3 h hF
    · refine j_aload_n (pc := 57) 0 X dX12_tooSoon_57 rfl ?_
      refine j_getr (pc := 58) X dX12_tooSoon_58 (hz _ sh_0) fl_X12_149 rfl ?_
      refine j_iload_n (pc := 61) 2 X dX12_tooSoon_61 rfl ?_
      refine j_iald (pc := 62) X dX12_tooSoon_62 (hz _ sh_44) hF (fun hF => ?_)
      refine j_iconst (pc := 63) 1 X dX12_tooSoon_63 rfl ?_
      refine j_icmp_ne (pc := 64) 82 X dX12_tooSoon_64 rfl hF (fun hF => ?_) (fun hF => ?_)
      · exact BX12_tooSoon_82 X E hz r34 hr34 x2 x3 h hF
      · refine j_aload_n (pc := 67) 0 X dX12_tooSoon_67 rfl ?_
        refine j_getr (pc := 68) X dX12_tooSoon_68 (hz _ sh_0) fl_X12_152 rfl ?_
        refine j_iload_n (pc := 71) 2 X dX12_tooSoon_71 rfl ?_
        refine j_iald (pc := 72) X dX12_tooSoon_72 (hz _ sh_45) hF (fun hF => ?_)
        refine j_aload_n (pc := 73) 0 X dX12_tooSoon_73 rfl ?_
        refine j_getr (pc := 74) X dX12_tooSoon_74 (hz _ sh_0) fl_X12_176 rfl ?_
        refine j_iload_n (pc := 77) 2 X dX12_tooSoon_77 rfl ?_
        refine j_iald (pc := 78) X dX12_tooSoon_78 (hz _ sh_53) hF (fun hF => ?_)
        refine j_icmp_le (pc := 79) 88 X dX12_tooSoon_79 rfl hF (fun hF => ?_) (fun hF => ?_)
        · exact BX12_tooSoon_88 X E hz r34 hr34 x2 x3 h hF
        · exact BX12_tooSoon_82 X E hz r34 hr34 x2 x3 h hF
theorem LX12_tooSoon_34 {Z : ZT} {G : GT} {r : Int32} {hr : Hp} (X : CX Z G cX12_tooSoon RX12 4 8) (E : RX Z G (some .int) (some (.int r)) hr) (hz : HZM Z)  : ∀ (n : Nat) (x2 : Int32) (x3 : Int32) (h : Hp), lX12_tooSoon_34   n x2 x3 h = some (r, hr) → J Z G 4 h 34 [(0, .ref (Z.2.1 0)), (2, .int x2), (3, .int x3)] [] := by
  intro n
  induction n with
  | zero => intro x2 x3 h hF; cases hF
  | succ n ih => intro x2 x3 h hF; exact BX12_tooSoon_34 X E hz  (lX12_tooSoon_34   n) ih x2 x3 h hF
def fX12_tooSoon (a1 : Int32) (h : Hp) : Option (Int32 × Hp) := bi (fX12_isKnown a1 h) (fun w2 h1 => (if w2 = 0 then some ((-1), h1) else bv (fX12_runsAll a1 h1) (fun h3 => bv (fX12_keepsYearly h3) (fun h4 => bv (fX12_runs a1 1 0 0 1 59 h4) (fun h5 => lt 0 (fun v6 => lt 0 (fun v7 => lX12_tooSoon_34 FU v6 v7 h5)))))))
set_option maxRecDepth 20000 in
theorem tX12_tooSoon (Z : ZT) (a1 : Int32) (hz : HZM Z) (h : Hp) (r : Int32) (hr : Hp) (hF : fX12_tooSoon a1 h = some (r, hr)) : MC Z yX12_tooSoon cX12_tooSoon 4 (some .int) 8 [.ref (Z.2.1 0), .int a1] h (some (.int r)) hr := by
  unfold fX12_tooSoon at hF
  refine mc_start (by decide) (Nat.le_of_ble_eq_true rfl) (fun G X E => ?_)
  refine j_aload_n (pc := 0) 0 X dX12_tooSoon_0 rfl ?_
  refine j_iload_n (pc := 1) 1 X dX12_tooSoon_1 rfl ?_
  refine j_cVi (pc := 2) (As := [.int a1]) (rest := []) X dX12_tooSoon_2 ml_X12_435 ck_X12_isKnown cv_X12_isKnown (hz _ sh_0) rfl (Nat.le_of_ble_eq_true rfl) rfl (Nat.le_of_ble_eq_true rfl) rfl hF (tX12_isKnown Z a1 hz h) (fun w2 h1 hF => ?_)
  refine j_if_ne (pc := 5) 10 X dX12_tooSoon_5 rfl hF (fun hF => ?_) (fun hF => ?_)
  · refine j_aload_n (pc := 10) 0 X dX12_tooSoon_10 rfl ?_
    refine j_iload_n (pc := 11) 1 X dX12_tooSoon_11 rfl ?_
    refine j_cVv (pc := 12) (As := [.int a1]) (rest := []) X dX12_tooSoon_12 ml_X12_486 ck_X12_runsAll cv_X12_runsAll (hz _ sh_0) rfl (Nat.le_of_ble_eq_true rfl) rfl (Nat.le_of_ble_eq_true rfl) rfl hF (tX12_runsAll Z a1 hz h1) (fun h3 hF => ?_)
    refine j_aload_n (pc := 15) 0 X dX12_tooSoon_15 rfl ?_
    refine j_cVv (pc := 16) (As := []) (rest := []) X dX12_tooSoon_16 ml_X12_489 ck_X12_keepsYearly cv_X12_keepsYearly (hz _ sh_0) rfl (Nat.le_of_ble_eq_true rfl) rfl (Nat.le_of_ble_eq_true rfl) rfl hF (tX12_keepsYearly Z hz h3) (fun h4 hF => ?_)
    refine j_aload_n (pc := 19) 0 X dX12_tooSoon_19 rfl ?_
    refine j_iload_n (pc := 20) 1 X dX12_tooSoon_20 rfl ?_
    refine j_iconst (pc := 21) 1 X dX12_tooSoon_21 rfl ?_
    refine j_iconst (pc := 22) 0 X dX12_tooSoon_22 rfl ?_
    refine j_iconst (pc := 23) 0 X dX12_tooSoon_23 rfl ?_
    refine j_iconst (pc := 24) 1 X dX12_tooSoon_24 rfl ?_
    refine j_bipush (pc := 25) 59 X dX12_tooSoon_25 rfl ?_
    refine j_cVv (pc := 27) (As := [.int a1, .int 1, .int 0, .int 0, .int 1, .int 59]) (rest := []) X dX12_tooSoon_27 ml_X12_482 ck_X12_runs cv_X12_runs (hz _ sh_0) rfl (Nat.le_of_ble_eq_true rfl) rfl (Nat.le_of_ble_eq_true rfl) rfl hF (tX12_runs Z a1 1 0 0 1 59 hz h4) (fun h5 hF => ?_)
    refine j_iconst (pc := 30) 0 X dX12_tooSoon_30 rfl ?_
    refine j_istore_n (pc := 31) (fun y => [(2, .int y), (0, .ref (Z.2.1 0)), (1, .int a1)]) X dX12_tooSoon_31 (by decide) (fun _ => rfl) hF (fun v6 hF => ?_)
    refine j_iconst (pc := 32) 0 X dX12_tooSoon_32 rfl ?_
    refine j_istore_n (pc := 33) (fun y => [(3, .int y), (2, .int v6), (0, .ref (Z.2.1 0)), (1, .int a1)]) X dX12_tooSoon_33 (by decide) (fun _ => rfl) hF (fun v7 hF => ?_)
    refine j_lv [(0, .ref (Z.2.1 0)), (2, .int v6), (3, .int v7)] [2, 1, 0] rfl ?_
    exact LX12_tooSoon_34 X E hz FU v6 v7 h5 hF
  · refine j_iconst (pc := 8) (-1) X dX12_tooSoon_8 rfl ?_
    exact j_iret (pc := 9) X E dX12_tooSoon_9 hF
theorem dX12_wrong_0 : decode cX12_wrong 0 = .ok (.iload_n 1, 1) := by decide +kernel
theorem dX12_wrong_1 : decode cX12_wrong 1 = .ok (.invokestatic 412, 3) := by decide +kernel
theorem dX12_wrong_4 : decode cX12_wrong 4 = .ok (.ifCond .eq 20, 3) := by decide +kernel
theorem dX12_wrong_7 : decode cX12_wrong 7 = .ok (.aload_n 0, 1) := by decide +kernel
theorem dX12_wrong_8 : decode cX12_wrong 8 = .ok (.iload_n 2, 1) := by decide +kernel
theorem dX12_wrong_9 : decode cX12_wrong 9 = .ok (.invokevirtual 435, 3) := by decide +kernel
theorem dX12_wrong_12 : decode cX12_wrong 12 = .ok (.ifCond .eq 12, 3) := by decide +kernel
theorem dX12_wrong_15 : decode cX12_wrong 15 = .ok (.iload_n 3, 1) := by decide +kernel
theorem dX12_wrong_16 : decode cX12_wrong 16 = .ok (.iconst 0, 1) := by decide +kernel
theorem dX12_wrong_17 : decode cX12_wrong 17 = .ok (.iconst 1, 1) := by decide +kernel
theorem dX12_wrong_18 : decode cX12_wrong 18 = .ok (.invokestatic 383, 3) := by decide +kernel
theorem dX12_wrong_21 : decode cX12_wrong 21 = .ok (.ifCond .ne 5, 3) := by decide +kernel
theorem dX12_wrong_24 : decode cX12_wrong 24 = .ok (.iconst (-1), 1) := by decide +kernel
theorem dX12_wrong_25 : decode cX12_wrong 25 = .ok (.ireturn, 1) := by decide +kernel
theorem dX12_wrong_26 : decode cX12_wrong 26 = .ok (.iconst 0, 1) := by decide +kernel
theorem dX12_wrong_27 : decode cX12_wrong 27 = .ok (.istore 4, 2) := by decide +kernel
theorem dX12_wrong_29 : decode cX12_wrong 29 = .ok (.iconst 0, 1) := by decide +kernel
theorem dX12_wrong_30 : decode cX12_wrong 30 = .ok (.istore 5, 2) := by decide +kernel
theorem dX12_wrong_32 : decode cX12_wrong 32 = .ok (.iload 5, 2) := by decide +kernel
theorem dX12_wrong_34 : decode cX12_wrong 34 = .ok (.aload_n 0, 1) := by decide +kernel
theorem dX12_wrong_35 : decode cX12_wrong 35 = .ok (.getfield 49, 3) := by decide +kernel
theorem dX12_wrong_38 : decode cX12_wrong 38 = .ok (.aload_n 0, 1) := by decide +kernel
theorem dX12_wrong_39 : decode cX12_wrong 39 = .ok (.getfield 284, 3) := by decide +kernel
theorem dX12_wrong_42 : decode cX12_wrong 42 = .ok (.iaload, 1) := by decide +kernel
theorem dX12_wrong_43 : decode cX12_wrong 43 = .ok (.if_icmp .ge 137, 3) := by decide +kernel
theorem dX12_wrong_46 : decode cX12_wrong 46 = .ok (.aload_n 0, 1) := by decide +kernel
theorem dX12_wrong_47 : decode cX12_wrong 47 = .ok (.iload 5, 2) := by decide +kernel
theorem dX12_wrong_49 : decode cX12_wrong 49 = .ok (.iload_n 1, 1) := by decide +kernel
theorem dX12_wrong_50 : decode cX12_wrong 50 = .ok (.iload_n 2, 1) := by decide +kernel
theorem dX12_wrong_51 : decode cX12_wrong 51 = .ok (.invokevirtual 438, 3) := by decide +kernel
theorem dX12_wrong_54 : decode cX12_wrong 54 = .ok (.aload_n 0, 1) := by decide +kernel
theorem dX12_wrong_55 : decode cX12_wrong 55 = .ok (.getfield 91, 3) := by decide +kernel
theorem dX12_wrong_58 : decode cX12_wrong 58 = .ok (.aload_n 0, 1) := by decide +kernel
theorem dX12_wrong_59 : decode cX12_wrong 59 = .ok (.getfield 284, 3) := by decide +kernel
theorem dX12_wrong_62 : decode cX12_wrong 62 = .ok (.iaload, 1) := by decide +kernel
theorem dX12_wrong_63 : decode cX12_wrong 63 = .ok (.if_icmp .lt 7, 3) := by decide +kernel
theorem dX12_wrong_66 : decode cX12_wrong 66 = .ok (.iconst 1, 1) := by decide +kernel
theorem dX12_wrong_67 : decode cX12_wrong 67 = .ok (.goto 4, 3) := by decide +kernel
theorem dX12_wrong_70 : decode cX12_wrong 70 = .ok (.iconst 0, 1) := by decide +kernel
theorem dX12_wrong_71 : decode cX12_wrong 71 = .ok (.istore 6, 2) := by decide +kernel
theorem dX12_wrong_73 : decode cX12_wrong 73 = .ok (.iconst 0, 1) := by decide +kernel
theorem dX12_wrong_74 : decode cX12_wrong 74 = .ok (.istore 7, 2) := by decide +kernel
theorem dX12_wrong_76 : decode cX12_wrong 76 = .ok (.iconst 0, 1) := by decide +kernel
theorem dX12_wrong_77 : decode cX12_wrong 77 = .ok (.istore 8, 2) := by decide +kernel
theorem dX12_wrong_79 : decode cX12_wrong 79 = .ok (.iload 8, 2) := by decide +kernel
theorem dX12_wrong_81 : decode cX12_wrong 81 = .ok (.iload_n 2, 1) := by decide +kernel
theorem dX12_wrong_82 : decode cX12_wrong 82 = .ok (.if_icmp .ge 56, 3) := by decide +kernel
theorem dX12_wrong_85 : decode cX12_wrong 85 = .ok (.aload_n 0, 1) := by decide +kernel
theorem dX12_wrong_86 : decode cX12_wrong 86 = .ok (.getfield 137, 3) := by decide +kernel
theorem dX12_wrong_89 : decode cX12_wrong 89 = .ok (.iload 8, 2) := by decide +kernel
theorem dX12_wrong_91 : decode cX12_wrong 91 = .ok (.iaload, 1) := by decide +kernel
theorem dX12_wrong_92 : decode cX12_wrong 92 = .ok (.iconst 1, 1) := by decide +kernel
theorem dX12_wrong_93 : decode cX12_wrong 93 = .ok (.if_icmp .ne 39, 3) := by decide +kernel
theorem dX12_wrong_96 : decode cX12_wrong 96 = .ok (.aload_n 0, 1) := by decide +kernel
theorem dX12_wrong_97 : decode cX12_wrong 97 = .ok (.getfield 143, 3) := by decide +kernel
theorem dX12_wrong_100 : decode cX12_wrong 100 = .ok (.iload 8, 2) := by decide +kernel
theorem dX12_wrong_102 : decode cX12_wrong 102 = .ok (.iaload, 1) := by decide +kernel
theorem dX12_wrong_103 : decode cX12_wrong 103 = .ok (.iload 5, 2) := by decide +kernel
theorem dX12_wrong_105 : decode cX12_wrong 105 = .ok (.if_icmp .ne 27, 3) := by decide +kernel
theorem dX12_wrong_108 : decode cX12_wrong 108 = .ok (.aload_n 0, 1) := by decide +kernel
theorem dX12_wrong_109 : decode cX12_wrong 109 = .ok (.getfield 140, 3) := by decide +kernel
theorem dX12_wrong_112 : decode cX12_wrong 112 = .ok (.iload 8, 2) := by decide +kernel
theorem dX12_wrong_114 : decode cX12_wrong 114 = .ok (.iaload, 1) := by decide +kernel
theorem dX12_wrong_115 : decode cX12_wrong 115 = .ok (.iload_n 1, 1) := by decide +kernel
theorem dX12_wrong_116 : decode cX12_wrong 116 = .ok (.if_icmp .gt 16, 3) := by decide +kernel
theorem dX12_wrong_119 : decode cX12_wrong 119 = .ok (.aload_n 0, 1) := by decide +kernel
theorem dX12_wrong_120 : decode cX12_wrong 120 = .ok (.iload 8, 2) := by decide +kernel
theorem dX12_wrong_122 : decode cX12_wrong 122 = .ok (.iload_n 2, 1) := by decide +kernel
theorem dX12_wrong_123 : decode cX12_wrong 123 = .ok (.invokevirtual 432, 3) := by decide +kernel
theorem dX12_wrong_126 : decode cX12_wrong 126 = .ok (.ifCond .eq 6, 3) := by decide +kernel
theorem dX12_wrong_129 : decode cX12_wrong 129 = .ok (.iconst 1, 1) := by decide +kernel
theorem dX12_wrong_130 : decode cX12_wrong 130 = .ok (.istore 7, 2) := by decide +kernel
theorem dX12_wrong_132 : decode cX12_wrong 132 = .ok (.iinc 8 1, 3) := by decide +kernel
theorem dX12_wrong_135 : decode cX12_wrong 135 = .ok (.goto (-56), 3) := by decide +kernel
theorem dX12_wrong_138 : decode cX12_wrong 138 = .ok (.iload_n 3, 1) := by decide +kernel
theorem dX12_wrong_139 : decode cX12_wrong 139 = .ok (.ifCond .ne 16, 3) := by decide +kernel
theorem dX12_wrong_142 : decode cX12_wrong 142 = .ok (.iload 6, 2) := by decide +kernel
theorem dX12_wrong_144 : decode cX12_wrong 144 = .ok (.ifCond .eq 30, 3) := by decide +kernel
theorem dX12_wrong_147 : decode cX12_wrong 147 = .ok (.iload 7, 2) := by decide +kernel
theorem dX12_wrong_149 : decode cX12_wrong 149 = .ok (.ifCond .ne 25, 3) := by decide +kernel
theorem dX12_wrong_152 : decode cX12_wrong 152 = .ok (.goto 13, 3) := by decide +kernel
theorem dX12_wrong_155 : decode cX12_wrong 155 = .ok (.iload 7, 2) := by decide +kernel
theorem dX12_wrong_157 : decode cX12_wrong 157 = .ok (.ifCond .eq 17, 3) := by decide +kernel
theorem dX12_wrong_160 : decode cX12_wrong 160 = .ok (.iload 6, 2) := by decide +kernel
theorem dX12_wrong_162 : decode cX12_wrong 162 = .ok (.ifCond .ne 12, 3) := by decide +kernel
theorem dX12_wrong_165 : decode cX12_wrong 165 = .ok (.iload 4, 2) := by decide +kernel
theorem dX12_wrong_167 : decode cX12_wrong 167 = .ok (.iconst 1, 1) := by decide +kernel
theorem dX12_wrong_168 : decode cX12_wrong 168 = .ok (.iload 5, 2) := by decide +kernel
theorem dX12_wrong_170 : decode cX12_wrong 170 = .ok (.ishl, 1) := by decide +kernel
theorem dX12_wrong_171 : decode cX12_wrong 171 = .ok (.ior, 1) := by decide +kernel
theorem dX12_wrong_172 : decode cX12_wrong 172 = .ok (.istore 4, 2) := by decide +kernel
theorem dX12_wrong_174 : decode cX12_wrong 174 = .ok (.iinc 5 1, 3) := by decide +kernel
theorem dX12_wrong_177 : decode cX12_wrong 177 = .ok (.goto (-145), 3) := by decide +kernel
theorem dX12_wrong_180 : decode cX12_wrong 180 = .ok (.iload 4, 2) := by decide +kernel
theorem dX12_wrong_182 : decode cX12_wrong 182 = .ok (.ireturn, 1) := by decide +kernel
def bX12_wrong_132  (r32 : Int32 → Int32 → Int32 → Int32 → Int32 → Hp → Option (Int32 × Hp)) (r79 : Int32 → Int32 → Int32 → Int32 → Int32 → Int32 → Int32 → Int32 → Hp → Option (Int32 × Hp)) (x1 : Int32) (x2 : Int32) (x3 : Int32) (x4 : Int32) (x5 : Int32) (x6 : Int32) (x7 : Int32) (x8 : Int32) (h : Hp) : Option (Int32 × Hp) := lt (x8 + 1) (fun v1 => r79 x1 x2 x3 x4 x5 x6 x7 v1 h)
set_option maxRecDepth 20000 in
theorem BX12_wrong_132 {Z : ZT} {G : GT} {r : Int32} {hr : Hp} (X : CX Z G cX12_wrong RX12 9 2) (E : RX Z G (some .int) (some (.int r)) hr) (hz : HZM Z) (r32 : Int32 → Int32 → Int32 → Int32 → Int32 → Hp → Option (Int32 × Hp)) (hr32 : ∀ (x1 : Int32) (x2 : Int32) (x3 : Int32) (x4 : Int32) (x5 : Int32) (h : Hp), r32 x1 x2 x3 x4 x5 h = some (r, hr) → J Z G 9 h 32 [(0, .ref (Z.2.1 0)), (1, .int x1), (2, .int x2), (3, .int x3), (4, .int x4), (5, .int x5)] []) (r79 : Int32 → Int32 → Int32 → Int32 → Int32 → Int32 → Int32 → Int32 → Hp → Option (Int32 × Hp)) (hr79 : ∀ (x1 : Int32) (x2 : Int32) (x3 : Int32) (x4 : Int32) (x5 : Int32) (x6 : Int32) (x7 : Int32) (x8 : Int32) (h : Hp), r79 x1 x2 x3 x4 x5 x6 x7 x8 h = some (r, hr) → J Z G 9 h 79 [(0, .ref (Z.2.1 0)), (1, .int x1), (2, .int x2), (3, .int x3), (4, .int x4), (5, .int x5), (6, .int x6), (7, .int x7), (8, .int x8)] []) (x1 : Int32) (x2 : Int32) (x3 : Int32) (x4 : Int32) (x5 : Int32) (x6 : Int32) (x7 : Int32) (x8 : Int32) (h : Hp) (hF : bX12_wrong_132  r32 r79 x1 x2 x3 x4 x5 x6 x7 x8 h = some (r, hr)) : J Z G 9 h 132 [(0, .ref (Z.2.1 0)), (1, .int x1), (2, .int x2), (3, .int x3), (4, .int x4), (5, .int x5), (6, .int x6), (7, .int x7), (8, .int x8)] [] := by
  unfold bX12_wrong_132 at hF
  refine j_iinc (pc := 132) 8 (x8 + 1) (fun y => [(8, .int y), (0, .ref (Z.2.1 0)), (1, .int x1), (2, .int x2), (3, .int x3), (4, .int x4), (5, .int x5), (6, .int x6), (7, .int x7)]) X dX12_wrong_132 rfl rfl (by decide) (fun _ => rfl) hF (fun v1 hF => ?_)
  refine j_goto (pc := 135) 79 X dX12_wrong_135 rfl ?_
  refine j_lv [(0, .ref (Z.2.1 0)), (1, .int x1), (2, .int x2), (3, .int x3), (4, .int x4), (5, .int x5), (6, .int x6), (7, .int x7), (8, .int v1)] [1, 2, 3, 4, 5, 6, 7, 8, 0] rfl ?_
  exact hr79 x1 x2 x3 x4 x5 x6 x7 v1 h hF
def bX12_wrong_174  (r32 : Int32 → Int32 → Int32 → Int32 → Int32 → Hp → Option (Int32 × Hp)) (x1 : Int32) (x2 : Int32) (x3 : Int32) (x4 : Int32) (x5 : Int32) (h : Hp) : Option (Int32 × Hp) := lt (x5 + 1) (fun v1 => r32 x1 x2 x3 x4 v1 h)
set_option maxRecDepth 20000 in
theorem BX12_wrong_174 {Z : ZT} {G : GT} {r : Int32} {hr : Hp} (X : CX Z G cX12_wrong RX12 9 2) (E : RX Z G (some .int) (some (.int r)) hr) (hz : HZM Z) (r32 : Int32 → Int32 → Int32 → Int32 → Int32 → Hp → Option (Int32 × Hp)) (hr32 : ∀ (x1 : Int32) (x2 : Int32) (x3 : Int32) (x4 : Int32) (x5 : Int32) (h : Hp), r32 x1 x2 x3 x4 x5 h = some (r, hr) → J Z G 9 h 32 [(0, .ref (Z.2.1 0)), (1, .int x1), (2, .int x2), (3, .int x3), (4, .int x4), (5, .int x5)] []) (x1 : Int32) (x2 : Int32) (x3 : Int32) (x4 : Int32) (x5 : Int32) (h : Hp) (hF : bX12_wrong_174  r32 x1 x2 x3 x4 x5 h = some (r, hr)) : J Z G 9 h 174 [(0, .ref (Z.2.1 0)), (1, .int x1), (2, .int x2), (3, .int x3), (4, .int x4), (5, .int x5)] [] := by
  unfold bX12_wrong_174 at hF
  refine j_iinc (pc := 174) 5 (x5 + 1) (fun y => [(5, .int y), (0, .ref (Z.2.1 0)), (1, .int x1), (2, .int x2), (3, .int x3), (4, .int x4)]) X dX12_wrong_174 rfl rfl (by decide) (fun _ => rfl) hF (fun v1 hF => ?_)
  refine j_goto (pc := 177) 32 X dX12_wrong_177 rfl ?_
  refine j_lv [(0, .ref (Z.2.1 0)), (1, .int x1), (2, .int x2), (3, .int x3), (4, .int x4), (5, .int v1)] [1, 2, 3, 4, 5, 0] rfl ?_
  exact hr32 x1 x2 x3 x4 v1 h hF
def bX12_wrong_165  (r32 : Int32 → Int32 → Int32 → Int32 → Int32 → Hp → Option (Int32 × Hp)) (x1 : Int32) (x2 : Int32) (x3 : Int32) (x4 : Int32) (x5 : Int32) (h : Hp) : Option (Int32 × Hp) := lt (x4 ||| ((1 : Int32) <<< (x5 &&& 31))) (fun v1 => bX12_wrong_174 r32 x1 x2 x3 v1 x5 h)
set_option maxRecDepth 20000 in
theorem BX12_wrong_165 {Z : ZT} {G : GT} {r : Int32} {hr : Hp} (X : CX Z G cX12_wrong RX12 9 2) (E : RX Z G (some .int) (some (.int r)) hr) (hz : HZM Z) (r32 : Int32 → Int32 → Int32 → Int32 → Int32 → Hp → Option (Int32 × Hp)) (hr32 : ∀ (x1 : Int32) (x2 : Int32) (x3 : Int32) (x4 : Int32) (x5 : Int32) (h : Hp), r32 x1 x2 x3 x4 x5 h = some (r, hr) → J Z G 9 h 32 [(0, .ref (Z.2.1 0)), (1, .int x1), (2, .int x2), (3, .int x3), (4, .int x4), (5, .int x5)] []) (x1 : Int32) (x2 : Int32) (x3 : Int32) (x4 : Int32) (x5 : Int32) (h : Hp) (hF : bX12_wrong_165  r32 x1 x2 x3 x4 x5 h = some (r, hr)) : J Z G 9 h 165 [(0, .ref (Z.2.1 0)), (1, .int x1), (2, .int x2), (3, .int x3), (4, .int x4), (5, .int x5)] [] := by
  unfold bX12_wrong_165 at hF
  refine j_iload (pc := 165) 4 X dX12_wrong_165 rfl ?_
  refine j_iconst (pc := 167) 1 X dX12_wrong_167 rfl ?_
  refine j_iload (pc := 168) 5 X dX12_wrong_168 rfl ?_
  refine j_ishl (pc := 170) X dX12_wrong_170 ?_
  refine j_ior (pc := 171) X dX12_wrong_171 ?_
  refine j_istore (pc := 172) (fun y => [(4, .int y), (0, .ref (Z.2.1 0)), (1, .int x1), (2, .int x2), (3, .int x3), (5, .int x5)]) X dX12_wrong_172 (by decide) (fun _ => rfl) hF (fun v1 hF => ?_)
  refine j_lv [(0, .ref (Z.2.1 0)), (1, .int x1), (2, .int x2), (3, .int x3), (4, .int v1), (5, .int x5)] [1, 2, 3, 4, 0, 5] rfl ?_
  exact BX12_wrong_174 X E hz r32 hr32 x1 x2 x3 v1 x5 h hF
def bX12_wrong_79  (r32 : Int32 → Int32 → Int32 → Int32 → Int32 → Hp → Option (Int32 × Hp)) (r79 : Int32 → Int32 → Int32 → Int32 → Int32 → Int32 → Int32 → Int32 → Hp → Option (Int32 × Hp)) (x1 : Int32) (x2 : Int32) (x3 : Int32) (x4 : Int32) (x5 : Int32) (x6 : Int32) (x7 : Int32) (x8 : Int32) (h : Hp) : Option (Int32 × Hp) := (if x2 ≤ x8 then (if x3 = 0 then (if x6 = 0 then bX12_wrong_174 r32 x1 x2 x3 x4 x5 h else (if x7 = 0 then bX12_wrong_165 r32 x1 x2 x3 x4 x5 h else bX12_wrong_174 r32 x1 x2 x3 x4 x5 h)) else (if x7 = 0 then bX12_wrong_174 r32 x1 x2 x3 x4 x5 h else (if x6 = 0 then bX12_wrong_165 r32 x1 x2 x3 x4 x5 h else bX12_wrong_174 r32 x1 x2 x3 x4 x5 h))) else ck (inb x8 60) ((if (h.1 40 (ix x8)) = 1 then ck (inb x8 60) ((if (h.1 42 (ix x8)) = x5 then ck (inb x8 60) ((if x1 < (h.1 41 (ix x8)) then bX12_wrong_132 r32 r79 x1 x2 x3 x4 x5 x6 x7 x8 h else bi (fX12_counts x8 x2 h) (fun w2 h1 => (if w2 = 0 then bX12_wrong_132 r32 r79 x1 x2 x3 x4 x5 x6 x7 x8 h1 else lt 1 (fun v3 => bX12_wrong_132 r32 r79 x1 x2 x3 x4 x5 x6 v3 x8 h1))))) else bX12_wrong_132 r32 r79 x1 x2 x3 x4 x5 x6 x7 x8 h)) else bX12_wrong_132 r32 r79 x1 x2 x3 x4 x5 x6 x7 x8 h)))
def lX12_wrong_79  (r32 : Int32 → Int32 → Int32 → Int32 → Int32 → Hp → Option (Int32 × Hp)) : Nat → Int32 → Int32 → Int32 → Int32 → Int32 → Int32 → Int32 → Int32 → Hp → Option (Int32 × Hp)
  | 0 => fun _ _ _ _ _ _ _ _ _ => none
  | n + 1 => bX12_wrong_79  r32 (lX12_wrong_79  r32 n)
set_option maxRecDepth 20000 in
theorem BX12_wrong_79 {Z : ZT} {G : GT} {r : Int32} {hr : Hp} (X : CX Z G cX12_wrong RX12 9 2) (E : RX Z G (some .int) (some (.int r)) hr) (hz : HZM Z) (r32 : Int32 → Int32 → Int32 → Int32 → Int32 → Hp → Option (Int32 × Hp)) (hr32 : ∀ (x1 : Int32) (x2 : Int32) (x3 : Int32) (x4 : Int32) (x5 : Int32) (h : Hp), r32 x1 x2 x3 x4 x5 h = some (r, hr) → J Z G 9 h 32 [(0, .ref (Z.2.1 0)), (1, .int x1), (2, .int x2), (3, .int x3), (4, .int x4), (5, .int x5)] []) (r79 : Int32 → Int32 → Int32 → Int32 → Int32 → Int32 → Int32 → Int32 → Hp → Option (Int32 × Hp)) (hr79 : ∀ (x1 : Int32) (x2 : Int32) (x3 : Int32) (x4 : Int32) (x5 : Int32) (x6 : Int32) (x7 : Int32) (x8 : Int32) (h : Hp), r79 x1 x2 x3 x4 x5 x6 x7 x8 h = some (r, hr) → J Z G 9 h 79 [(0, .ref (Z.2.1 0)), (1, .int x1), (2, .int x2), (3, .int x3), (4, .int x4), (5, .int x5), (6, .int x6), (7, .int x7), (8, .int x8)] []) (x1 : Int32) (x2 : Int32) (x3 : Int32) (x4 : Int32) (x5 : Int32) (x6 : Int32) (x7 : Int32) (x8 : Int32) (h : Hp) (hF : bX12_wrong_79  r32 r79 x1 x2 x3 x4 x5 x6 x7 x8 h = some (r, hr)) : J Z G 9 h 79 [(0, .ref (Z.2.1 0)), (1, .int x1), (2, .int x2), (3, .int x3), (4, .int x4), (5, .int x5), (6, .int x6), (7, .int x7), (8, .int x8)] [] := by
  unfold bX12_wrong_79 at hF
  refine j_iload (pc := 79) 8 X dX12_wrong_79 rfl ?_
  refine j_iload_n (pc := 81) 2 X dX12_wrong_81 rfl ?_
  refine j_icmp_ge (pc := 82) 138 X dX12_wrong_82 rfl hF (fun hF => ?_) (fun hF => ?_)
  · refine j_iload_n (pc := 138) 3 X dX12_wrong_138 rfl ?_
    refine j_if_ne (pc := 139) 155 X dX12_wrong_139 rfl hF (fun hF => ?_) (fun hF => ?_)
    · refine j_iload (pc := 155) 7 X dX12_wrong_155 rfl ?_
      refine j_if_eq (pc := 157) 174 X dX12_wrong_157 rfl hF (fun hF => ?_) (fun hF => ?_)
      · refine j_lv [(0, .ref (Z.2.1 0)), (1, .int x1), (2, .int x2), (3, .int x3), (4, .int x4), (5, .int x5)] [0, 1, 2, 3, 4, 5] rfl ?_
        exact BX12_wrong_174 X E hz r32 hr32 x1 x2 x3 x4 x5 h hF
      · refine j_iload (pc := 160) 6 X dX12_wrong_160 rfl ?_
        refine j_if_ne (pc := 162) 174 X dX12_wrong_162 rfl hF (fun hF => ?_) (fun hF => ?_)
        · refine j_lv [(0, .ref (Z.2.1 0)), (1, .int x1), (2, .int x2), (3, .int x3), (4, .int x4), (5, .int x5)] [0, 1, 2, 3, 4, 5] rfl ?_
          exact BX12_wrong_174 X E hz r32 hr32 x1 x2 x3 x4 x5 h hF
        · refine j_lv [(0, .ref (Z.2.1 0)), (1, .int x1), (2, .int x2), (3, .int x3), (4, .int x4), (5, .int x5)] [0, 1, 2, 3, 4, 5] rfl ?_
          exact BX12_wrong_165 X E hz r32 hr32 x1 x2 x3 x4 x5 h hF
    · refine j_iload (pc := 142) 6 X dX12_wrong_142 rfl ?_
      refine j_if_eq (pc := 144) 174 X dX12_wrong_144 rfl hF (fun hF => ?_) (fun hF => ?_)
      · refine j_lv [(0, .ref (Z.2.1 0)), (1, .int x1), (2, .int x2), (3, .int x3), (4, .int x4), (5, .int x5)] [0, 1, 2, 3, 4, 5] rfl ?_
        exact BX12_wrong_174 X E hz r32 hr32 x1 x2 x3 x4 x5 h hF
      · refine j_iload (pc := 147) 7 X dX12_wrong_147 rfl ?_
        refine j_if_ne (pc := 149) 174 X dX12_wrong_149 rfl hF (fun hF => ?_) (fun hF => ?_)
        · refine j_lv [(0, .ref (Z.2.1 0)), (1, .int x1), (2, .int x2), (3, .int x3), (4, .int x4), (5, .int x5)] [0, 1, 2, 3, 4, 5] rfl ?_
          exact BX12_wrong_174 X E hz r32 hr32 x1 x2 x3 x4 x5 h hF
        · refine j_goto (pc := 152) 165 X dX12_wrong_152 rfl ?_
          refine j_lv [(0, .ref (Z.2.1 0)), (1, .int x1), (2, .int x2), (3, .int x3), (4, .int x4), (5, .int x5)] [0, 1, 2, 3, 4, 5] rfl ?_
          exact BX12_wrong_165 X E hz r32 hr32 x1 x2 x3 x4 x5 h hF
  · refine j_aload_n (pc := 85) 0 X dX12_wrong_85 rfl ?_
    refine j_getr (pc := 86) X dX12_wrong_86 (hz _ sh_0) fl_X12_137 rfl ?_
    refine j_iload (pc := 89) 8 X dX12_wrong_89 rfl ?_
    refine j_iald (pc := 91) X dX12_wrong_91 (hz _ sh_40) hF (fun hF => ?_)
    refine j_iconst (pc := 92) 1 X dX12_wrong_92 rfl ?_
    refine j_icmp_ne (pc := 93) 132 X dX12_wrong_93 rfl hF (fun hF => ?_) (fun hF => ?_)
    · exact BX12_wrong_132 X E hz r32 hr32 r79 hr79 x1 x2 x3 x4 x5 x6 x7 x8 h hF
    · refine j_aload_n (pc := 96) 0 X dX12_wrong_96 rfl ?_
      refine j_getr (pc := 97) X dX12_wrong_97 (hz _ sh_0) fl_X12_143 rfl ?_
      refine j_iload (pc := 100) 8 X dX12_wrong_100 rfl ?_
      refine j_iald (pc := 102) X dX12_wrong_102 (hz _ sh_42) hF (fun hF => ?_)
      refine j_iload (pc := 103) 5 X dX12_wrong_103 rfl ?_
      refine j_icmp_ne (pc := 105) 132 X dX12_wrong_105 rfl hF (fun hF => ?_) (fun hF => ?_)
      · exact BX12_wrong_132 X E hz r32 hr32 r79 hr79 x1 x2 x3 x4 x5 x6 x7 x8 h hF
      · refine j_aload_n (pc := 108) 0 X dX12_wrong_108 rfl ?_
        refine j_getr (pc := 109) X dX12_wrong_109 (hz _ sh_0) fl_X12_140 rfl ?_
        refine j_iload (pc := 112) 8 X dX12_wrong_112 rfl ?_
        refine j_iald (pc := 114) X dX12_wrong_114 (hz _ sh_41) hF (fun hF => ?_)
        refine j_iload_n (pc := 115) 1 X dX12_wrong_115 rfl ?_
        refine j_icmp_gt (pc := 116) 132 X dX12_wrong_116 rfl hF (fun hF => ?_) (fun hF => ?_)
        · exact BX12_wrong_132 X E hz r32 hr32 r79 hr79 x1 x2 x3 x4 x5 x6 x7 x8 h hF
        · refine j_aload_n (pc := 119) 0 X dX12_wrong_119 rfl ?_
          refine j_iload (pc := 120) 8 X dX12_wrong_120 rfl ?_
          refine j_iload_n (pc := 122) 2 X dX12_wrong_122 rfl ?_
          refine j_cVi (pc := 123) (As := [.int x8, .int x2]) (rest := []) X dX12_wrong_123 ml_X12_432 ck_X12_counts cv_X12_counts (hz _ sh_0) rfl (Nat.le_of_ble_eq_true rfl) rfl (Nat.le_of_ble_eq_true rfl) rfl hF (tX12_counts Z x8 x2 hz h) (fun w2 h1 hF => ?_)
          refine j_if_eq (pc := 126) 132 X dX12_wrong_126 rfl hF (fun hF => ?_) (fun hF => ?_)
          · exact BX12_wrong_132 X E hz r32 hr32 r79 hr79 x1 x2 x3 x4 x5 x6 x7 x8 h1 hF
          · refine j_iconst (pc := 129) 1 X dX12_wrong_129 rfl ?_
            refine j_istore (pc := 130) (fun y => [(7, .int y), (0, .ref (Z.2.1 0)), (1, .int x1), (2, .int x2), (3, .int x3), (4, .int x4), (5, .int x5), (6, .int x6), (8, .int x8)]) X dX12_wrong_130 (by decide) (fun _ => rfl) hF (fun v3 hF => ?_)
            refine j_lv [(0, .ref (Z.2.1 0)), (1, .int x1), (2, .int x2), (3, .int x3), (4, .int x4), (5, .int x5), (6, .int x6), (7, .int v3), (8, .int x8)] [1, 2, 3, 4, 5, 6, 7, 0, 8] rfl ?_
            exact BX12_wrong_132 X E hz r32 hr32 r79 hr79 x1 x2 x3 x4 x5 x6 v3 x8 h1 hF
theorem LX12_wrong_79 {Z : ZT} {G : GT} {r : Int32} {hr : Hp} (X : CX Z G cX12_wrong RX12 9 2) (E : RX Z G (some .int) (some (.int r)) hr) (hz : HZM Z) (r32 : Int32 → Int32 → Int32 → Int32 → Int32 → Hp → Option (Int32 × Hp)) (hr32 : ∀ (x1 : Int32) (x2 : Int32) (x3 : Int32) (x4 : Int32) (x5 : Int32) (h : Hp), r32 x1 x2 x3 x4 x5 h = some (r, hr) → J Z G 9 h 32 [(0, .ref (Z.2.1 0)), (1, .int x1), (2, .int x2), (3, .int x3), (4, .int x4), (5, .int x5)] []) : ∀ (n : Nat) (x1 : Int32) (x2 : Int32) (x3 : Int32) (x4 : Int32) (x5 : Int32) (x6 : Int32) (x7 : Int32) (x8 : Int32) (h : Hp), lX12_wrong_79  r32 n x1 x2 x3 x4 x5 x6 x7 x8 h = some (r, hr) → J Z G 9 h 79 [(0, .ref (Z.2.1 0)), (1, .int x1), (2, .int x2), (3, .int x3), (4, .int x4), (5, .int x5), (6, .int x6), (7, .int x7), (8, .int x8)] [] := by
  intro n
  induction n with
  | zero => intro x1 x2 x3 x4 x5 x6 x7 x8 h hF; cases hF
  | succ n ih => intro x1 x2 x3 x4 x5 x6 x7 x8 h hF; exact BX12_wrong_79 X E hz r32 hr32 (lX12_wrong_79  r32 n) ih x1 x2 x3 x4 x5 x6 x7 x8 h hF
def bX12_wrong_71  (r32 : Int32 → Int32 → Int32 → Int32 → Int32 → Hp → Option (Int32 × Hp)) (x1 : Int32) (x2 : Int32) (x3 : Int32) (x4 : Int32) (x5 : Int32) (s0 : Int32) (h : Hp) : Option (Int32 × Hp) := lt s0 (fun v1 => lt 0 (fun v2 => lt 0 (fun v3 => lX12_wrong_79 r32 FU x1 x2 x3 x4 x5 v1 v2 v3 h)))
set_option maxRecDepth 20000 in
theorem BX12_wrong_71 {Z : ZT} {G : GT} {r : Int32} {hr : Hp} (X : CX Z G cX12_wrong RX12 9 2) (E : RX Z G (some .int) (some (.int r)) hr) (hz : HZM Z) (r32 : Int32 → Int32 → Int32 → Int32 → Int32 → Hp → Option (Int32 × Hp)) (hr32 : ∀ (x1 : Int32) (x2 : Int32) (x3 : Int32) (x4 : Int32) (x5 : Int32) (h : Hp), r32 x1 x2 x3 x4 x5 h = some (r, hr) → J Z G 9 h 32 [(0, .ref (Z.2.1 0)), (1, .int x1), (2, .int x2), (3, .int x3), (4, .int x4), (5, .int x5)] []) (x1 : Int32) (x2 : Int32) (x3 : Int32) (x4 : Int32) (x5 : Int32) (s0 : Int32) (h : Hp) (hF : bX12_wrong_71  r32 x1 x2 x3 x4 x5 s0 h = some (r, hr)) : J Z G 9 h 71 [(0, .ref (Z.2.1 0)), (1, .int x1), (2, .int x2), (3, .int x3), (4, .int x4), (5, .int x5)] [.int s0] := by
  unfold bX12_wrong_71 at hF
  refine j_istore (pc := 71) (fun y => [(6, .int y), (0, .ref (Z.2.1 0)), (1, .int x1), (2, .int x2), (3, .int x3), (4, .int x4), (5, .int x5)]) X dX12_wrong_71 (by decide) (fun _ => rfl) hF (fun v1 hF => ?_)
  refine j_iconst (pc := 73) 0 X dX12_wrong_73 rfl ?_
  refine j_istore (pc := 74) (fun y => [(7, .int y), (6, .int v1), (0, .ref (Z.2.1 0)), (1, .int x1), (2, .int x2), (3, .int x3), (4, .int x4), (5, .int x5)]) X dX12_wrong_74 (by decide) (fun _ => rfl) hF (fun v2 hF => ?_)
  refine j_iconst (pc := 76) 0 X dX12_wrong_76 rfl ?_
  refine j_istore (pc := 77) (fun y => [(8, .int y), (7, .int v2), (6, .int v1), (0, .ref (Z.2.1 0)), (1, .int x1), (2, .int x2), (3, .int x3), (4, .int x4), (5, .int x5)]) X dX12_wrong_77 (by decide) (fun _ => rfl) hF (fun v3 hF => ?_)
  refine j_lv [(0, .ref (Z.2.1 0)), (1, .int x1), (2, .int x2), (3, .int x3), (4, .int x4), (5, .int x5), (6, .int v1), (7, .int v2), (8, .int v3)] [3, 4, 5, 6, 7, 8, 2, 1, 0] rfl ?_
  exact LX12_wrong_79 X E hz r32 hr32 FU x1 x2 x3 x4 x5 v1 v2 v3 h hF
def bX12_wrong_32   (r32 : Int32 → Int32 → Int32 → Int32 → Int32 → Hp → Option (Int32 × Hp)) (x1 : Int32) (x2 : Int32) (x3 : Int32) (x4 : Int32) (x5 : Int32) (h : Hp) : Option (Int32 × Hp) := ck (inb (h.1 0 18) 2) ((if (h.1 11 (ix (h.1 0 18))) ≤ x5 then some (x4, h) else bi (fX12_weightOf x5 x1 x2 h) (fun w2 h1 => ck (inb (h1.1 0 18) 2) ((if w2 < (h1.1 25 (ix (h1.1 0 18))) then bX12_wrong_71 r32 x1 x2 x3 x4 x5 0 h1 else bX12_wrong_71 r32 x1 x2 x3 x4 x5 1 h1)))))
def lX12_wrong_32   : Nat → Int32 → Int32 → Int32 → Int32 → Int32 → Hp → Option (Int32 × Hp)
  | 0 => fun _ _ _ _ _ _ => none
  | n + 1 => bX12_wrong_32   (lX12_wrong_32   n)
set_option maxRecDepth 20000 in
theorem BX12_wrong_32 {Z : ZT} {G : GT} {r : Int32} {hr : Hp} (X : CX Z G cX12_wrong RX12 9 2) (E : RX Z G (some .int) (some (.int r)) hr) (hz : HZM Z)  (r32 : Int32 → Int32 → Int32 → Int32 → Int32 → Hp → Option (Int32 × Hp)) (hr32 : ∀ (x1 : Int32) (x2 : Int32) (x3 : Int32) (x4 : Int32) (x5 : Int32) (h : Hp), r32 x1 x2 x3 x4 x5 h = some (r, hr) → J Z G 9 h 32 [(0, .ref (Z.2.1 0)), (1, .int x1), (2, .int x2), (3, .int x3), (4, .int x4), (5, .int x5)] []) (x1 : Int32) (x2 : Int32) (x3 : Int32) (x4 : Int32) (x5 : Int32) (h : Hp) (hF : bX12_wrong_32   r32 x1 x2 x3 x4 x5 h = some (r, hr)) : J Z G 9 h 32 [(0, .ref (Z.2.1 0)), (1, .int x1), (2, .int x2), (3, .int x3), (4, .int x4), (5, .int x5)] [] := by
  unfold bX12_wrong_32 at hF
  refine j_iload (pc := 32) 5 X dX12_wrong_32 rfl ?_
  refine j_aload_n (pc := 34) 0 X dX12_wrong_34 rfl ?_
  refine j_getr (pc := 35) X dX12_wrong_35 (hz _ sh_0) fl_X12_49 rfl ?_
  refine j_aload_n (pc := 38) 0 X dX12_wrong_38 rfl ?_
  refine j_geti (pc := 39) X dX12_wrong_39 (hz _ sh_0) fl_X12_284 rfl ?_
  refine j_iald (pc := 42) X dX12_wrong_42 (hz _ sh_11) hF (fun hF => ?_)
  refine j_icmp_ge (pc := 43) 180 X dX12_wrong_43 rfl hF (fun hF => ?_) (fun hF => ?_)
  · refine j_iload (pc := 180) 4 X dX12_wrong_180 rfl ?_
    exact j_iret (pc := 182) X E dX12_wrong_182 hF
  · refine j_aload_n (pc := 46) 0 X dX12_wrong_46 rfl ?_
    refine j_iload (pc := 47) 5 X dX12_wrong_47 rfl ?_
    refine j_iload_n (pc := 49) 1 X dX12_wrong_49 rfl ?_
    refine j_iload_n (pc := 50) 2 X dX12_wrong_50 rfl ?_
    refine j_cVi (pc := 51) (As := [.int x5, .int x1, .int x2]) (rest := []) X dX12_wrong_51 ml_X12_438 ck_X12_weightOf cv_X12_weightOf (hz _ sh_0) rfl (Nat.le_of_ble_eq_true rfl) rfl (Nat.le_of_ble_eq_true rfl) rfl hF (tX12_weightOf Z x5 x1 x2 hz h) (fun w2 h1 hF => ?_)
    refine j_aload_n (pc := 54) 0 X dX12_wrong_54 rfl ?_
    refine j_getr (pc := 55) X dX12_wrong_55 (hz _ sh_0) fl_X12_91 rfl ?_
    refine j_aload_n (pc := 58) 0 X dX12_wrong_58 rfl ?_
    refine j_geti (pc := 59) X dX12_wrong_59 (hz _ sh_0) fl_X12_284 rfl ?_
    refine j_iald (pc := 62) X dX12_wrong_62 (hz _ sh_25) hF (fun hF => ?_)
    refine j_icmp_lt (pc := 63) 70 X dX12_wrong_63 rfl hF (fun hF => ?_) (fun hF => ?_)
    · refine j_iconst (pc := 70) 0 X dX12_wrong_70 rfl ?_
      exact BX12_wrong_71 X E hz r32 hr32 x1 x2 x3 x4 x5 0 h1 hF
    · refine j_iconst (pc := 66) 1 X dX12_wrong_66 rfl ?_
      refine j_goto (pc := 67) 71 X dX12_wrong_67 rfl ?_
      exact BX12_wrong_71 X E hz r32 hr32 x1 x2 x3 x4 x5 1 h1 hF
theorem LX12_wrong_32 {Z : ZT} {G : GT} {r : Int32} {hr : Hp} (X : CX Z G cX12_wrong RX12 9 2) (E : RX Z G (some .int) (some (.int r)) hr) (hz : HZM Z)  : ∀ (n : Nat) (x1 : Int32) (x2 : Int32) (x3 : Int32) (x4 : Int32) (x5 : Int32) (h : Hp), lX12_wrong_32   n x1 x2 x3 x4 x5 h = some (r, hr) → J Z G 9 h 32 [(0, .ref (Z.2.1 0)), (1, .int x1), (2, .int x2), (3, .int x3), (4, .int x4), (5, .int x5)] [] := by
  intro n
  induction n with
  | zero => intro x1 x2 x3 x4 x5 h hF; cases hF
  | succ n ih => intro x1 x2 x3 x4 x5 h hF; exact BX12_wrong_32 X E hz  (lX12_wrong_32   n) ih x1 x2 x3 x4 x5 h hF
def fX12_wrong (a1 : Int32) (a2 : Int32) (a3 : Int32) (h : Hp) : Option (Int32 × Hp) := bi (fX12_isYear a1 h) (fun w2 h1 => (if w2 = 0 then some ((-1), h1) else bi (fX12_isKnown a2 h1) (fun w4 h3 => (if w4 = 0 then some ((-1), h3) else bi (fX12_in a3 0 1 h3) (fun w6 h5 => (if w6 = 0 then some ((-1), h5) else lt 0 (fun v7 => lt 0 (fun v8 => lX12_wrong_32 FU a1 a2 a3 v7 v8 h5))))))))
set_option maxRecDepth 20000 in
theorem tX12_wrong (Z : ZT) (a1 : Int32) (a2 : Int32) (a3 : Int32) (hz : HZM Z) (h : Hp) (r : Int32) (hr : Hp) (hF : fX12_wrong a1 a2 a3 h = some (r, hr)) : MC Z yX12_wrong cX12_wrong 9 (some .int) 2 [.ref (Z.2.1 0), .int a1, .int a2, .int a3] h (some (.int r)) hr := by
  unfold fX12_wrong at hF
  refine mc_start (by decide) (Nat.le_of_ble_eq_true rfl) (fun G X E => ?_)
  refine j_iload_n (pc := 0) 1 X dX12_wrong_0 rfl ?_
  refine j_cSi (pc := 1) (As := [.int a1]) (rest := []) X dX12_wrong_1 ml_X12_412 ck_X12_isYear sk_X12_isYear (Nat.le_of_ble_eq_true rfl) rfl (Nat.le_of_ble_eq_true rfl) rfl hF (tX12_isYear Z a1 trivial h) (fun w2 h1 hF => ?_)
  refine j_if_eq (pc := 4) 24 X dX12_wrong_4 rfl hF (fun hF => ?_) (fun hF => ?_)
  · refine j_iconst (pc := 24) (-1) X dX12_wrong_24 rfl ?_
    exact j_iret (pc := 25) X E dX12_wrong_25 hF
  · refine j_aload_n (pc := 7) 0 X dX12_wrong_7 rfl ?_
    refine j_iload_n (pc := 8) 2 X dX12_wrong_8 rfl ?_
    refine j_cVi (pc := 9) (As := [.int a2]) (rest := []) X dX12_wrong_9 ml_X12_435 ck_X12_isKnown cv_X12_isKnown (hz _ sh_0) rfl (Nat.le_of_ble_eq_true rfl) rfl (Nat.le_of_ble_eq_true rfl) rfl hF (tX12_isKnown Z a2 hz h1) (fun w4 h3 hF => ?_)
    refine j_if_eq (pc := 12) 24 X dX12_wrong_12 rfl hF (fun hF => ?_) (fun hF => ?_)
    · refine j_iconst (pc := 24) (-1) X dX12_wrong_24 rfl ?_
      exact j_iret (pc := 25) X E dX12_wrong_25 hF
    · refine j_iload_n (pc := 15) 3 X dX12_wrong_15 rfl ?_
      refine j_iconst (pc := 16) 0 X dX12_wrong_16 rfl ?_
      refine j_iconst (pc := 17) 1 X dX12_wrong_17 rfl ?_
      refine j_cSi (pc := 18) (As := [.int a3, .int 0, .int 1]) (rest := []) X dX12_wrong_18 ml_X12_383 ck_X12_in sk_X12_in (Nat.le_of_ble_eq_true rfl) rfl (Nat.le_of_ble_eq_true rfl) rfl hF (tX12_in Z a3 0 1 trivial h3) (fun w6 h5 hF => ?_)
      refine j_if_ne (pc := 21) 26 X dX12_wrong_21 rfl hF (fun hF => ?_) (fun hF => ?_)
      · refine j_iconst (pc := 26) 0 X dX12_wrong_26 rfl ?_
        refine j_istore (pc := 27) (fun y => [(4, .int y), (0, .ref (Z.2.1 0)), (1, .int a1), (2, .int a2), (3, .int a3)]) X dX12_wrong_27 (by decide) (fun _ => rfl) hF (fun v7 hF => ?_)
        refine j_iconst (pc := 29) 0 X dX12_wrong_29 rfl ?_
        refine j_istore (pc := 30) (fun y => [(5, .int y), (4, .int v7), (0, .ref (Z.2.1 0)), (1, .int a1), (2, .int a2), (3, .int a3)]) X dX12_wrong_30 (by decide) (fun _ => rfl) hF (fun v8 hF => ?_)
        refine j_lv [(0, .ref (Z.2.1 0)), (1, .int a1), (2, .int a2), (3, .int a3), (4, .int v7), (5, .int v8)] [2, 3, 4, 5, 1, 0] rfl ?_
        exact LX12_wrong_32 X E hz FU a1 a2 a3 v7 v8 h5 hF
      · refine j_iconst (pc := 24) (-1) X dX12_wrong_24 rfl ?_
        exact j_iret (pc := 25) X E dX12_wrong_25 hF
theorem dX12_isEach_0 : decode cX12_isEach 0 = .ok (.iload_n 0, 1) := by decide +kernel
theorem dX12_isEach_1 : decode cX12_isEach 1 = .ok (.iconst 1, 1) := by decide +kernel
theorem dX12_isEach_2 : decode cX12_isEach 2 = .ok (.bipush 20, 2) := by decide +kernel
theorem dX12_isEach_4 : decode cX12_isEach 4 = .ok (.invokestatic 383, 3) := by decide +kernel
theorem dX12_isEach_7 : decode cX12_isEach 7 = .ok (.ireturn, 1) := by decide +kernel
def fX12_isEach (a1 : Int32) (h : Hp) : Option (Int32 × Hp) := bi (fX12_in a1 1 20 h) (fun w2 h1 => ck (zb w2) (some (w2, h1)))
set_option maxRecDepth 20000 in
theorem tX12_isEach (Z : ZT) (a1 : Int32) (hz : True) (h : Hp) (r : Int32) (hr : Hp) (hF : fX12_isEach a1 h = some (r, hr)) : MC Z yX12_isEach cX12_isEach 1 (some .boolean) 1 [.int a1] h (some (.int r)) hr := by
  unfold fX12_isEach at hF
  refine mc_start (by decide) (Nat.le_of_ble_eq_true rfl) (fun G X E => ?_)
  refine j_iload_n (pc := 0) 0 X dX12_isEach_0 rfl ?_
  refine j_iconst (pc := 1) 1 X dX12_isEach_1 rfl ?_
  refine j_bipush (pc := 2) 20 X dX12_isEach_2 rfl ?_
  refine j_cSi (pc := 4) (As := [.int a1, .int 1, .int 20]) (rest := []) X dX12_isEach_4 ml_X12_383 ck_X12_in sk_X12_in (Nat.le_of_ble_eq_true rfl) rfl (Nat.le_of_ble_eq_true rfl) rfl hF (tX12_in Z a1 1 20 trivial h) (fun w2 h1 hF => ?_)
  exact j_zret (pc := 7) X E dX12_isEach_7 hF
theorem dX12_late_0 : decode cX12_late 0 = .ok (.aload_n 0, 1) := by decide +kernel
theorem dX12_late_1 : decode cX12_late 1 = .ok (.iload_n 1, 1) := by decide +kernel
theorem dX12_late_2 : decode cX12_late 2 = .ok (.invokevirtual 400, 3) := by decide +kernel
theorem dX12_late_5 : decode cX12_late 5 = .ok (.ifCond .eq 18, 3) := by decide +kernel
theorem dX12_late_8 : decode cX12_late 8 = .ok (.aload_n 0, 1) := by decide +kernel
theorem dX12_late_9 : decode cX12_late 9 = .ok (.iload_n 2, 1) := by decide +kernel
theorem dX12_late_10 : decode cX12_late 10 = .ok (.invokevirtual 435, 3) := by decide +kernel
theorem dX12_late_13 : decode cX12_late 13 = .ok (.ifCond .eq 10, 3) := by decide +kernel
theorem dX12_late_16 : decode cX12_late 16 = .ok (.iload_n 3, 1) := by decide +kernel
theorem dX12_late_17 : decode cX12_late 17 = .ok (.invokestatic 492, 3) := by decide +kernel
theorem dX12_late_20 : decode cX12_late 20 = .ok (.ifCond .ne 5, 3) := by decide +kernel
theorem dX12_late_23 : decode cX12_late 23 = .ok (.iconst (-1), 1) := by decide +kernel
theorem dX12_late_24 : decode cX12_late 24 = .ok (.ireturn, 1) := by decide +kernel
theorem dX12_late_25 : decode cX12_late 25 = .ok (.aload_n 0, 1) := by decide +kernel
theorem dX12_late_26 : decode cX12_late 26 = .ok (.iload_n 2, 1) := by decide +kernel
theorem dX12_late_27 : decode cX12_late 27 = .ok (.invokevirtual 486, 3) := by decide +kernel
theorem dX12_late_30 : decode cX12_late 30 = .ok (.aload_n 0, 1) := by decide +kernel
theorem dX12_late_31 : decode cX12_late 31 = .ok (.invokevirtual 489, 3) := by decide +kernel
theorem dX12_late_34 : decode cX12_late 34 = .ok (.aload_n 0, 1) := by decide +kernel
theorem dX12_late_35 : decode cX12_late 35 = .ok (.iload_n 2, 1) := by decide +kernel
theorem dX12_late_36 : decode cX12_late 36 = .ok (.iload_n 3, 1) := by decide +kernel
theorem dX12_late_37 : decode cX12_late 37 = .ok (.iconst 0, 1) := by decide +kernel
theorem dX12_late_38 : decode cX12_late 38 = .ok (.iconst 0, 1) := by decide +kernel
theorem dX12_late_39 : decode cX12_late 39 = .ok (.iconst 0, 1) := by decide +kernel
theorem dX12_late_40 : decode cX12_late 40 = .ok (.bipush 59, 2) := by decide +kernel
theorem dX12_late_42 : decode cX12_late 42 = .ok (.invokevirtual 482, 3) := by decide +kernel
theorem dX12_late_45 : decode cX12_late 45 = .ok (.aload_n 0, 1) := by decide +kernel
theorem dX12_late_46 : decode cX12_late 46 = .ok (.getfield 149, 3) := by decide +kernel
theorem dX12_late_49 : decode cX12_late 49 = .ok (.iload_n 1, 1) := by decide +kernel
theorem dX12_late_50 : decode cX12_late 50 = .ok (.iaload, 1) := by decide +kernel
theorem dX12_late_51 : decode cX12_late 51 = .ok (.aload_n 0, 1) := by decide +kernel
theorem dX12_late_52 : decode cX12_late 52 = .ok (.getfield 173, 3) := by decide +kernel
theorem dX12_late_55 : decode cX12_late 55 = .ok (.iload_n 1, 1) := by decide +kernel
theorem dX12_late_56 : decode cX12_late 56 = .ok (.iaload, 1) := by decide +kernel
theorem dX12_late_57 : decode cX12_late 57 = .ok (.if_icmp .eq 6, 3) := by decide +kernel
theorem dX12_late_60 : decode cX12_late 60 = .ok (.bipush (-2), 2) := by decide +kernel
theorem dX12_late_62 : decode cX12_late 62 = .ok (.ireturn, 1) := by decide +kernel
theorem dX12_late_63 : decode cX12_late 63 = .ok (.aload_n 0, 1) := by decide +kernel
theorem dX12_late_64 : decode cX12_late 64 = .ok (.getfield 149, 3) := by decide +kernel
theorem dX12_late_67 : decode cX12_late 67 = .ok (.iload_n 1, 1) := by decide +kernel
theorem dX12_late_68 : decode cX12_late 68 = .ok (.iaload, 1) := by decide +kernel
theorem dX12_late_69 : decode cX12_late 69 = .ok (.iconst 1, 1) := by decide +kernel
theorem dX12_late_70 : decode cX12_late 70 = .ok (.if_icmp .ne 19, 3) := by decide +kernel
theorem dX12_late_73 : decode cX12_late 73 = .ok (.aload_n 0, 1) := by decide +kernel
theorem dX12_late_74 : decode cX12_late 74 = .ok (.getfield 152, 3) := by decide +kernel
theorem dX12_late_77 : decode cX12_late 77 = .ok (.iload_n 1, 1) := by decide +kernel
theorem dX12_late_78 : decode cX12_late 78 = .ok (.iaload, 1) := by decide +kernel
theorem dX12_late_79 : decode cX12_late 79 = .ok (.aload_n 0, 1) := by decide +kernel
theorem dX12_late_80 : decode cX12_late 80 = .ok (.getfield 176, 3) := by decide +kernel
theorem dX12_late_83 : decode cX12_late 83 = .ok (.iload_n 1, 1) := by decide +kernel
theorem dX12_late_84 : decode cX12_late 84 = .ok (.iaload, 1) := by decide +kernel
theorem dX12_late_85 : decode cX12_late 85 = .ok (.isub, 1) := by decide +kernel
theorem dX12_late_86 : decode cX12_late 86 = .ok (.goto 19, 3) := by decide +kernel
theorem dX12_late_89 : decode cX12_late 89 = .ok (.aload_n 0, 1) := by decide +kernel
theorem dX12_late_90 : decode cX12_late 90 = .ok (.getfield 149, 3) := by decide +kernel
theorem dX12_late_93 : decode cX12_late 93 = .ok (.iload_n 1, 1) := by decide +kernel
theorem dX12_late_94 : decode cX12_late 94 = .ok (.iaload, 1) := by decide +kernel
theorem dX12_late_95 : decode cX12_late 95 = .ok (.iconst 2, 1) := by decide +kernel
theorem dX12_late_96 : decode cX12_late 96 = .ok (.if_icmp .ne 7, 3) := by decide +kernel
theorem dX12_late_99 : decode cX12_late 99 = .ok (.iconst 0, 1) := by decide +kernel
theorem dX12_late_100 : decode cX12_late 100 = .ok (.goto 5, 3) := by decide +kernel
theorem dX12_late_103 : decode cX12_late 103 = .ok (.bipush (-2), 2) := by decide +kernel
theorem dX12_late_105 : decode cX12_late 105 = .ok (.ireturn, 1) := by decide +kernel
def fX12_late (a1 : Int32) (a2 : Int32) (a3 : Int32) (h : Hp) : Option (Int32 × Hp) := bi (fX12_hasLetter a1 h) (fun w2 h1 => (if w2 = 0 then some ((-1), h1) else bi (fX12_isKnown a2 h1) (fun w4 h3 => (if w4 = 0 then some ((-1), h3) else bi (fX12_isEach a3 h3) (fun w6 h5 => (if w6 = 0 then some ((-1), h5) else bv (fX12_runsAll a2 h5) (fun h7 => bv (fX12_keepsYearly h7) (fun h8 => bv (fX12_runs a2 a3 0 0 0 59 h8) (fun h9 => ck (inb a1 10) (ck (inb a1 10) ((if (h9.1 44 (ix a1)) = (h9.1 52 (ix a1)) then ck (inb a1 10) ((if (h9.1 44 (ix a1)) = 1 then ck (inb a1 10) (ck (inb a1 10) (some (((h9.1 45 (ix a1)) - (h9.1 53 (ix a1))), h9))) else ck (inb a1 10) ((if (h9.1 44 (ix a1)) = 2 then some (0, h9) else some ((-2), h9))))) else some ((-2), h9)))))))))))))
set_option maxRecDepth 20000 in
theorem tX12_late (Z : ZT) (a1 : Int32) (a2 : Int32) (a3 : Int32) (hz : HZM Z) (h : Hp) (r : Int32) (hr : Hp) (hF : fX12_late a1 a2 a3 h = some (r, hr)) : MC Z yX12_late cX12_late 4 (some .int) 8 [.ref (Z.2.1 0), .int a1, .int a2, .int a3] h (some (.int r)) hr := by
  unfold fX12_late at hF
  refine mc_start (by decide) (Nat.le_of_ble_eq_true rfl) (fun G X E => ?_)
  refine j_aload_n (pc := 0) 0 X dX12_late_0 rfl ?_
  refine j_iload_n (pc := 1) 1 X dX12_late_1 rfl ?_
  refine j_cVi (pc := 2) (As := [.int a1]) (rest := []) X dX12_late_2 ml_X12_400 ck_X12_hasLetter cv_X12_hasLetter (hz _ sh_0) rfl (Nat.le_of_ble_eq_true rfl) rfl (Nat.le_of_ble_eq_true rfl) rfl hF (tX12_hasLetter Z a1 hz h) (fun w2 h1 hF => ?_)
  refine j_if_eq (pc := 5) 23 X dX12_late_5 rfl hF (fun hF => ?_) (fun hF => ?_)
  · refine j_iconst (pc := 23) (-1) X dX12_late_23 rfl ?_
    exact j_iret (pc := 24) X E dX12_late_24 hF
  · refine j_aload_n (pc := 8) 0 X dX12_late_8 rfl ?_
    refine j_iload_n (pc := 9) 2 X dX12_late_9 rfl ?_
    refine j_cVi (pc := 10) (As := [.int a2]) (rest := []) X dX12_late_10 ml_X12_435 ck_X12_isKnown cv_X12_isKnown (hz _ sh_0) rfl (Nat.le_of_ble_eq_true rfl) rfl (Nat.le_of_ble_eq_true rfl) rfl hF (tX12_isKnown Z a2 hz h1) (fun w4 h3 hF => ?_)
    refine j_if_eq (pc := 13) 23 X dX12_late_13 rfl hF (fun hF => ?_) (fun hF => ?_)
    · refine j_iconst (pc := 23) (-1) X dX12_late_23 rfl ?_
      exact j_iret (pc := 24) X E dX12_late_24 hF
    · refine j_iload_n (pc := 16) 3 X dX12_late_16 rfl ?_
      refine j_cSi (pc := 17) (As := [.int a3]) (rest := []) X dX12_late_17 ml_X12_492 ck_X12_isEach sk_X12_isEach (Nat.le_of_ble_eq_true rfl) rfl (Nat.le_of_ble_eq_true rfl) rfl hF (tX12_isEach Z a3 trivial h3) (fun w6 h5 hF => ?_)
      refine j_if_ne (pc := 20) 25 X dX12_late_20 rfl hF (fun hF => ?_) (fun hF => ?_)
      · refine j_aload_n (pc := 25) 0 X dX12_late_25 rfl ?_
        refine j_iload_n (pc := 26) 2 X dX12_late_26 rfl ?_
        refine j_cVv (pc := 27) (As := [.int a2]) (rest := []) X dX12_late_27 ml_X12_486 ck_X12_runsAll cv_X12_runsAll (hz _ sh_0) rfl (Nat.le_of_ble_eq_true rfl) rfl (Nat.le_of_ble_eq_true rfl) rfl hF (tX12_runsAll Z a2 hz h5) (fun h7 hF => ?_)
        refine j_aload_n (pc := 30) 0 X dX12_late_30 rfl ?_
        refine j_cVv (pc := 31) (As := []) (rest := []) X dX12_late_31 ml_X12_489 ck_X12_keepsYearly cv_X12_keepsYearly (hz _ sh_0) rfl (Nat.le_of_ble_eq_true rfl) rfl (Nat.le_of_ble_eq_true rfl) rfl hF (tX12_keepsYearly Z hz h7) (fun h8 hF => ?_)
        refine j_aload_n (pc := 34) 0 X dX12_late_34 rfl ?_
        refine j_iload_n (pc := 35) 2 X dX12_late_35 rfl ?_
        refine j_iload_n (pc := 36) 3 X dX12_late_36 rfl ?_
        refine j_iconst (pc := 37) 0 X dX12_late_37 rfl ?_
        refine j_iconst (pc := 38) 0 X dX12_late_38 rfl ?_
        refine j_iconst (pc := 39) 0 X dX12_late_39 rfl ?_
        refine j_bipush (pc := 40) 59 X dX12_late_40 rfl ?_
        refine j_cVv (pc := 42) (As := [.int a2, .int a3, .int 0, .int 0, .int 0, .int 59]) (rest := []) X dX12_late_42 ml_X12_482 ck_X12_runs cv_X12_runs (hz _ sh_0) rfl (Nat.le_of_ble_eq_true rfl) rfl (Nat.le_of_ble_eq_true rfl) rfl hF (tX12_runs Z a2 a3 0 0 0 59 hz h8) (fun h9 hF => ?_)
        refine j_aload_n (pc := 45) 0 X dX12_late_45 rfl ?_
        refine j_getr (pc := 46) X dX12_late_46 (hz _ sh_0) fl_X12_149 rfl ?_
        refine j_iload_n (pc := 49) 1 X dX12_late_49 rfl ?_
        refine j_iald (pc := 50) X dX12_late_50 (hz _ sh_44) hF (fun hF => ?_)
        refine j_aload_n (pc := 51) 0 X dX12_late_51 rfl ?_
        refine j_getr (pc := 52) X dX12_late_52 (hz _ sh_0) fl_X12_173 rfl ?_
        refine j_iload_n (pc := 55) 1 X dX12_late_55 rfl ?_
        refine j_iald (pc := 56) X dX12_late_56 (hz _ sh_52) hF (fun hF => ?_)
        refine j_icmp_eq (pc := 57) 63 X dX12_late_57 rfl hF (fun hF => ?_) (fun hF => ?_)
        · refine j_aload_n (pc := 63) 0 X dX12_late_63 rfl ?_
          refine j_getr (pc := 64) X dX12_late_64 (hz _ sh_0) fl_X12_149 rfl ?_
          refine j_iload_n (pc := 67) 1 X dX12_late_67 rfl ?_
          refine j_iald (pc := 68) X dX12_late_68 (hz _ sh_44) hF (fun hF => ?_)
          refine j_iconst (pc := 69) 1 X dX12_late_69 rfl ?_
          refine j_icmp_ne (pc := 70) 89 X dX12_late_70 rfl hF (fun hF => ?_) (fun hF => ?_)
          · refine j_aload_n (pc := 89) 0 X dX12_late_89 rfl ?_
            refine j_getr (pc := 90) X dX12_late_90 (hz _ sh_0) fl_X12_149 rfl ?_
            refine j_iload_n (pc := 93) 1 X dX12_late_93 rfl ?_
            refine j_iald (pc := 94) X dX12_late_94 (hz _ sh_44) hF (fun hF => ?_)
            refine j_iconst (pc := 95) 2 X dX12_late_95 rfl ?_
            refine j_icmp_ne (pc := 96) 103 X dX12_late_96 rfl hF (fun hF => ?_) (fun hF => ?_)
            · refine j_bipush (pc := 103) (-2) X dX12_late_103 rfl ?_
              exact j_iret (pc := 105) X E dX12_late_105 hF
            · refine j_iconst (pc := 99) 0 X dX12_late_99 rfl ?_
              refine j_goto (pc := 100) 105 X dX12_late_100 rfl ?_
              exact j_iret (pc := 105) X E dX12_late_105 hF
          · refine j_aload_n (pc := 73) 0 X dX12_late_73 rfl ?_
            refine j_getr (pc := 74) X dX12_late_74 (hz _ sh_0) fl_X12_152 rfl ?_
            refine j_iload_n (pc := 77) 1 X dX12_late_77 rfl ?_
            refine j_iald (pc := 78) X dX12_late_78 (hz _ sh_45) hF (fun hF => ?_)
            refine j_aload_n (pc := 79) 0 X dX12_late_79 rfl ?_
            refine j_getr (pc := 80) X dX12_late_80 (hz _ sh_0) fl_X12_176 rfl ?_
            refine j_iload_n (pc := 83) 1 X dX12_late_83 rfl ?_
            refine j_iald (pc := 84) X dX12_late_84 (hz _ sh_53) hF (fun hF => ?_)
            refine j_isub (pc := 85) X dX12_late_85 ?_
            refine j_goto (pc := 86) 105 X dX12_late_86 rfl ?_
            exact j_iret (pc := 105) X E dX12_late_105 hF
        · refine j_bipush (pc := 60) (-2) X dX12_late_60 rfl ?_
          exact j_iret (pc := 62) X E dX12_late_62 hF
      · refine j_iconst (pc := 23) (-1) X dX12_late_23 rfl ?_
        exact j_iret (pc := 24) X E dX12_late_24 hF
theorem dX12_isWatched_0 : decode cX12_isWatched 0 = .ok (.iconst 0, 1) := by decide +kernel
theorem dX12_isWatched_1 : decode cX12_isWatched 1 = .ok (.istore_n 2, 1) := by decide +kernel
theorem dX12_isWatched_2 : decode cX12_isWatched 2 = .ok (.iload_n 2, 1) := by decide +kernel
theorem dX12_isWatched_3 : decode cX12_isWatched 3 = .ok (.aload_n 0, 1) := by decide +kernel
theorem dX12_isWatched_4 : decode cX12_isWatched 4 = .ok (.getfield 67, 3) := by decide +kernel
theorem dX12_isWatched_7 : decode cX12_isWatched 7 = .ok (.aload_n 0, 1) := by decide +kernel
theorem dX12_isWatched_8 : decode cX12_isWatched 8 = .ok (.getfield 284, 3) := by decide +kernel
theorem dX12_isWatched_11 : decode cX12_isWatched 11 = .ok (.iaload, 1) := by decide +kernel
theorem dX12_isWatched_12 : decode cX12_isWatched 12 = .ok (.if_icmp .ge 51, 3) := by decide +kernel
theorem dX12_isWatched_15 : decode cX12_isWatched 15 = .ok (.aload_n 0, 1) := by decide +kernel
theorem dX12_isWatched_16 : decode cX12_isWatched 16 = .ok (.getfield 173, 3) := by decide +kernel
theorem dX12_isWatched_19 : decode cX12_isWatched 19 = .ok (.iload_n 2, 1) := by decide +kernel
theorem dX12_isWatched_20 : decode cX12_isWatched 20 = .ok (.iaload, 1) := by decide +kernel
theorem dX12_isWatched_21 : decode cX12_isWatched 21 = .ok (.iconst 1, 1) := by decide +kernel
theorem dX12_isWatched_22 : decode cX12_isWatched 22 = .ok (.if_icmp .eq 6, 3) := by decide +kernel
theorem dX12_isWatched_25 : decode cX12_isWatched 25 = .ok (.goto 32, 3) := by decide +kernel
theorem dX12_isWatched_28 : decode cX12_isWatched 28 = .ok (.aload_n 0, 1) := by decide +kernel
theorem dX12_isWatched_29 : decode cX12_isWatched 29 = .ok (.getfield 149, 3) := by decide +kernel
theorem dX12_isWatched_32 : decode cX12_isWatched 32 = .ok (.iload_n 2, 1) := by decide +kernel
theorem dX12_isWatched_33 : decode cX12_isWatched 33 = .ok (.iaload, 1) := by decide +kernel
theorem dX12_isWatched_34 : decode cX12_isWatched 34 = .ok (.iconst 1, 1) := by decide +kernel
theorem dX12_isWatched_35 : decode cX12_isWatched 35 = .ok (.if_icmp .ne 20, 3) := by decide +kernel
theorem dX12_isWatched_38 : decode cX12_isWatched 38 = .ok (.aload_n 0, 1) := by decide +kernel
theorem dX12_isWatched_39 : decode cX12_isWatched 39 = .ok (.getfield 152, 3) := by decide +kernel
theorem dX12_isWatched_42 : decode cX12_isWatched 42 = .ok (.iload_n 2, 1) := by decide +kernel
theorem dX12_isWatched_43 : decode cX12_isWatched 43 = .ok (.iaload, 1) := by decide +kernel
theorem dX12_isWatched_44 : decode cX12_isWatched 44 = .ok (.aload_n 0, 1) := by decide +kernel
theorem dX12_isWatched_45 : decode cX12_isWatched 45 = .ok (.getfield 176, 3) := by decide +kernel
theorem dX12_isWatched_48 : decode cX12_isWatched 48 = .ok (.iload_n 2, 1) := by decide +kernel
theorem dX12_isWatched_49 : decode cX12_isWatched 49 = .ok (.iaload, 1) := by decide +kernel
theorem dX12_isWatched_50 : decode cX12_isWatched 50 = .ok (.isub, 1) := by decide +kernel
theorem dX12_isWatched_51 : decode cX12_isWatched 51 = .ok (.iload_n 1, 1) := by decide +kernel
theorem dX12_isWatched_52 : decode cX12_isWatched 52 = .ok (.if_icmp .le 5, 3) := by decide +kernel
theorem dX12_isWatched_55 : decode cX12_isWatched 55 = .ok (.iconst 0, 1) := by decide +kernel
theorem dX12_isWatched_56 : decode cX12_isWatched 56 = .ok (.ireturn, 1) := by decide +kernel
theorem dX12_isWatched_57 : decode cX12_isWatched 57 = .ok (.iinc 2 1, 3) := by decide +kernel
theorem dX12_isWatched_60 : decode cX12_isWatched 60 = .ok (.goto (-58), 3) := by decide +kernel
theorem dX12_isWatched_63 : decode cX12_isWatched 63 = .ok (.iconst 1, 1) := by decide +kernel
theorem dX12_isWatched_64 : decode cX12_isWatched 64 = .ok (.ireturn, 1) := by decide +kernel
def bX12_isWatched_57  (r2 : Int32 → Int32 → Hp → Option (Int32 × Hp)) (x1 : Int32) (x2 : Int32) (h : Hp) : Option (Int32 × Hp) := lt (x2 + 1) (fun v1 => r2 x1 v1 h)
set_option maxRecDepth 20000 in
theorem BX12_isWatched_57 {Z : ZT} {G : GT} {r : Int32} {hr : Hp} (X : CX Z G cX12_isWatched RX12 3 0) (E : RX Z G (some .boolean) (some (.int r)) hr) (hz : HZM Z) (r2 : Int32 → Int32 → Hp → Option (Int32 × Hp)) (hr2 : ∀ (x1 : Int32) (x2 : Int32) (h : Hp), r2 x1 x2 h = some (r, hr) → J Z G 3 h 2 [(0, .ref (Z.2.1 0)), (1, .int x1), (2, .int x2)] []) (x1 : Int32) (x2 : Int32) (h : Hp) (hF : bX12_isWatched_57  r2 x1 x2 h = some (r, hr)) : J Z G 3 h 57 [(0, .ref (Z.2.1 0)), (1, .int x1), (2, .int x2)] [] := by
  unfold bX12_isWatched_57 at hF
  refine j_iinc (pc := 57) 2 (x2 + 1) (fun y => [(2, .int y), (0, .ref (Z.2.1 0)), (1, .int x1)]) X dX12_isWatched_57 rfl rfl (by decide) (fun _ => rfl) hF (fun v1 hF => ?_)
  refine j_goto (pc := 60) 2 X dX12_isWatched_60 rfl ?_
  refine j_lv [(0, .ref (Z.2.1 0)), (1, .int x1), (2, .int v1)] [1, 2, 0] rfl ?_
  exact hr2 x1 v1 h hF
def bX12_isWatched_2   (r2 : Int32 → Int32 → Hp → Option (Int32 × Hp)) (x1 : Int32) (x2 : Int32) (h : Hp) : Option (Int32 × Hp) := ck (inb (h.1 0 18) 2) ((if (h.1 17 (ix (h.1 0 18))) ≤ x2 then ck (zb 1) (some (1, h)) else ck (inb x2 10) ((if (h.1 52 (ix x2)) = 1 then ck (inb x2 10) ((if (h.1 44 (ix x2)) = 1 then ck (inb x2 10) (ck (inb x2 10) ((if ((h.1 45 (ix x2)) - (h.1 53 (ix x2))) ≤ x1 then bX12_isWatched_57 r2 x1 x2 h else ck (zb 0) (some (0, h))))) else ck (zb 0) (some (0, h)))) else bX12_isWatched_57 r2 x1 x2 h))))
def lX12_isWatched_2   : Nat → Int32 → Int32 → Hp → Option (Int32 × Hp)
  | 0 => fun _ _ _ => none
  | n + 1 => bX12_isWatched_2   (lX12_isWatched_2   n)
set_option maxRecDepth 20000 in
theorem BX12_isWatched_2 {Z : ZT} {G : GT} {r : Int32} {hr : Hp} (X : CX Z G cX12_isWatched RX12 3 0) (E : RX Z G (some .boolean) (some (.int r)) hr) (hz : HZM Z)  (r2 : Int32 → Int32 → Hp → Option (Int32 × Hp)) (hr2 : ∀ (x1 : Int32) (x2 : Int32) (h : Hp), r2 x1 x2 h = some (r, hr) → J Z G 3 h 2 [(0, .ref (Z.2.1 0)), (1, .int x1), (2, .int x2)] []) (x1 : Int32) (x2 : Int32) (h : Hp) (hF : bX12_isWatched_2   r2 x1 x2 h = some (r, hr)) : J Z G 3 h 2 [(0, .ref (Z.2.1 0)), (1, .int x1), (2, .int x2)] [] := by
  unfold bX12_isWatched_2 at hF
  refine j_iload_n (pc := 2) 2 X dX12_isWatched_2 rfl ?_
  refine j_aload_n (pc := 3) 0 X dX12_isWatched_3 rfl ?_
  refine j_getr (pc := 4) X dX12_isWatched_4 (hz _ sh_0) fl_X12_67 rfl ?_
  refine j_aload_n (pc := 7) 0 X dX12_isWatched_7 rfl ?_
  refine j_geti (pc := 8) X dX12_isWatched_8 (hz _ sh_0) fl_X12_284 rfl ?_
  refine j_iald (pc := 11) X dX12_isWatched_11 (hz _ sh_17) hF (fun hF => ?_)
  refine j_icmp_ge (pc := 12) 63 X dX12_isWatched_12 rfl hF (fun hF => ?_) (fun hF => ?_)
  · refine j_iconst (pc := 63) 1 X dX12_isWatched_63 rfl ?_
    exact j_zret (pc := 64) X E dX12_isWatched_64 hF
  · refine j_aload_n (pc := 15) 0 X dX12_isWatched_15 rfl ?_
    refine j_getr (pc := 16) X dX12_isWatched_16 (hz _ sh_0) fl_X12_173 rfl ?_
    refine j_iload_n (pc := 19) 2 X dX12_isWatched_19 rfl ?_
    refine j_iald (pc := 20) X dX12_isWatched_20 (hz _ sh_52) hF (fun hF => ?_)
    refine j_iconst (pc := 21) 1 X dX12_isWatched_21 rfl ?_
    refine j_icmp_eq (pc := 22) 28 X dX12_isWatched_22 rfl hF (fun hF => ?_) (fun hF => ?_)
    · refine j_aload_n (pc := 28) 0 X dX12_isWatched_28 rfl ?_
      refine j_getr (pc := 29) X dX12_isWatched_29 (hz _ sh_0) fl_X12_149 rfl ?_
      refine j_iload_n (pc := 32) 2 X dX12_isWatched_32 rfl ?_
      refine j_iald (pc := 33) X dX12_isWatched_33 (hz _ sh_44) hF (fun hF => ?_)
      refine j_iconst (pc := 34) 1 X dX12_isWatched_34 rfl ?_
      refine j_icmp_ne (pc := 35) 55 X dX12_isWatched_35 rfl hF (fun hF => ?_) (fun hF => ?_)
      · refine j_iconst (pc := 55) 0 X dX12_isWatched_55 rfl ?_
        exact j_zret (pc := 56) X E dX12_isWatched_56 hF
      · refine j_aload_n (pc := 38) 0 X dX12_isWatched_38 rfl ?_
        refine j_getr (pc := 39) X dX12_isWatched_39 (hz _ sh_0) fl_X12_152 rfl ?_
        refine j_iload_n (pc := 42) 2 X dX12_isWatched_42 rfl ?_
        refine j_iald (pc := 43) X dX12_isWatched_43 (hz _ sh_45) hF (fun hF => ?_)
        refine j_aload_n (pc := 44) 0 X dX12_isWatched_44 rfl ?_
        refine j_getr (pc := 45) X dX12_isWatched_45 (hz _ sh_0) fl_X12_176 rfl ?_
        refine j_iload_n (pc := 48) 2 X dX12_isWatched_48 rfl ?_
        refine j_iald (pc := 49) X dX12_isWatched_49 (hz _ sh_53) hF (fun hF => ?_)
        refine j_isub (pc := 50) X dX12_isWatched_50 ?_
        refine j_iload_n (pc := 51) 1 X dX12_isWatched_51 rfl ?_
        refine j_icmp_le (pc := 52) 57 X dX12_isWatched_52 rfl hF (fun hF => ?_) (fun hF => ?_)
        · exact BX12_isWatched_57 X E hz r2 hr2 x1 x2 h hF
        · refine j_iconst (pc := 55) 0 X dX12_isWatched_55 rfl ?_
          exact j_zret (pc := 56) X E dX12_isWatched_56 hF
    · refine j_goto (pc := 25) 57 X dX12_isWatched_25 rfl ?_
      exact BX12_isWatched_57 X E hz r2 hr2 x1 x2 h hF
theorem LX12_isWatched_2 {Z : ZT} {G : GT} {r : Int32} {hr : Hp} (X : CX Z G cX12_isWatched RX12 3 0) (E : RX Z G (some .boolean) (some (.int r)) hr) (hz : HZM Z)  : ∀ (n : Nat) (x1 : Int32) (x2 : Int32) (h : Hp), lX12_isWatched_2   n x1 x2 h = some (r, hr) → J Z G 3 h 2 [(0, .ref (Z.2.1 0)), (1, .int x1), (2, .int x2)] [] := by
  intro n
  induction n with
  | zero => intro x1 x2 h hF; cases hF
  | succ n ih => intro x1 x2 h hF; exact BX12_isWatched_2 X E hz  (lX12_isWatched_2   n) ih x1 x2 h hF
def fX12_isWatched (a1 : Int32) (h : Hp) : Option (Int32 × Hp) := lt 0 (fun v1 => lX12_isWatched_2 FU a1 v1 h)
set_option maxRecDepth 20000 in
theorem tX12_isWatched (Z : ZT) (a1 : Int32) (hz : HZM Z) (h : Hp) (r : Int32) (hr : Hp) (hF : fX12_isWatched a1 h = some (r, hr)) : MC Z yX12_isWatched cX12_isWatched 3 (some .boolean) 0 [.ref (Z.2.1 0), .int a1] h (some (.int r)) hr := by
  unfold fX12_isWatched at hF
  refine mc_start (by decide) (Nat.le_of_ble_eq_true rfl) (fun G X E => ?_)
  refine j_iconst (pc := 0) 0 X dX12_isWatched_0 rfl ?_
  refine j_istore_n (pc := 1) (fun y => [(2, .int y), (0, .ref (Z.2.1 0)), (1, .int a1)]) X dX12_isWatched_1 (by decide) (fun _ => rfl) hF (fun v1 hF => ?_)
  refine j_lv [(0, .ref (Z.2.1 0)), (1, .int a1), (2, .int v1)] [1, 2, 0] rfl ?_
  exact LX12_isWatched_2 X E hz FU a1 v1 h hF
theorem dX12_watch_0 : decode cX12_watch 0 = .ok (.aload_n 0, 1) := by decide +kernel
theorem dX12_watch_1 : decode cX12_watch 1 = .ok (.iload_n 1, 1) := by decide +kernel
theorem dX12_watch_2 : decode cX12_watch 2 = .ok (.invokevirtual 435, 3) := by decide +kernel
theorem dX12_watch_5 : decode cX12_watch 5 = .ok (.ifCond .eq 10, 3) := by decide +kernel
theorem dX12_watch_8 : decode cX12_watch 8 = .ok (.iload_n 2, 1) := by decide +kernel
theorem dX12_watch_9 : decode cX12_watch 9 = .ok (.invokestatic 412, 3) := by decide +kernel
theorem dX12_watch_12 : decode cX12_watch 12 = .ok (.ifCond .ne 5, 3) := by decide +kernel
theorem dX12_watch_15 : decode cX12_watch 15 = .ok (.iconst (-1), 1) := by decide +kernel
theorem dX12_watch_16 : decode cX12_watch 16 = .ok (.ireturn, 1) := by decide +kernel
theorem dX12_watch_17 : decode cX12_watch 17 = .ok (.aload_n 0, 1) := by decide +kernel
theorem dX12_watch_18 : decode cX12_watch 18 = .ok (.iload_n 1, 1) := by decide +kernel
theorem dX12_watch_19 : decode cX12_watch 19 = .ok (.invokevirtual 486, 3) := by decide +kernel
theorem dX12_watch_22 : decode cX12_watch 22 = .ok (.aload_n 0, 1) := by decide +kernel
theorem dX12_watch_23 : decode cX12_watch 23 = .ok (.invokevirtual 489, 3) := by decide +kernel
theorem dX12_watch_26 : decode cX12_watch 26 = .ok (.bipush 20, 2) := by decide +kernel
theorem dX12_watch_28 : decode cX12_watch 28 = .ok (.istore_n 3, 1) := by decide +kernel
theorem dX12_watch_29 : decode cX12_watch 29 = .ok (.iload_n 3, 1) := by decide +kernel
theorem dX12_watch_30 : decode cX12_watch 30 = .ok (.iconst 1, 1) := by decide +kernel
theorem dX12_watch_31 : decode cX12_watch 31 = .ok (.if_icmp .le 30, 3) := by decide +kernel
theorem dX12_watch_34 : decode cX12_watch 34 = .ok (.aload_n 0, 1) := by decide +kernel
theorem dX12_watch_35 : decode cX12_watch 35 = .ok (.iload_n 1, 1) := by decide +kernel
theorem dX12_watch_36 : decode cX12_watch 36 = .ok (.iload_n 3, 1) := by decide +kernel
theorem dX12_watch_37 : decode cX12_watch 37 = .ok (.iconst 0, 1) := by decide +kernel
theorem dX12_watch_38 : decode cX12_watch 38 = .ok (.iconst 0, 1) := by decide +kernel
theorem dX12_watch_39 : decode cX12_watch 39 = .ok (.iconst 0, 1) := by decide +kernel
theorem dX12_watch_40 : decode cX12_watch 40 = .ok (.bipush 59, 2) := by decide +kernel
theorem dX12_watch_42 : decode cX12_watch 42 = .ok (.invokevirtual 482, 3) := by decide +kernel
theorem dX12_watch_45 : decode cX12_watch 45 = .ok (.aload_n 0, 1) := by decide +kernel
theorem dX12_watch_46 : decode cX12_watch 46 = .ok (.iload_n 2, 1) := by decide +kernel
theorem dX12_watch_47 : decode cX12_watch 47 = .ok (.invokevirtual 495, 3) := by decide +kernel
theorem dX12_watch_50 : decode cX12_watch 50 = .ok (.ifCond .eq 5, 3) := by decide +kernel
theorem dX12_watch_53 : decode cX12_watch 53 = .ok (.iload_n 3, 1) := by decide +kernel
theorem dX12_watch_54 : decode cX12_watch 54 = .ok (.ireturn, 1) := by decide +kernel
theorem dX12_watch_55 : decode cX12_watch 55 = .ok (.iinc 3 (-1), 3) := by decide +kernel
theorem dX12_watch_58 : decode cX12_watch 58 = .ok (.goto (-29), 3) := by decide +kernel
theorem dX12_watch_61 : decode cX12_watch 61 = .ok (.iconst 1, 1) := by decide +kernel
theorem dX12_watch_62 : decode cX12_watch 62 = .ok (.ireturn, 1) := by decide +kernel
def bX12_watch_29   (r29 : Int32 → Int32 → Int32 → Hp → Option (Int32 × Hp)) (x1 : Int32) (x2 : Int32) (x3 : Int32) (h : Hp) : Option (Int32 × Hp) := (if x3 ≤ 1 then some (1, h) else bv (fX12_runs x1 x3 0 0 0 59 h) (fun h1 => bi (fX12_isWatched x2 h1) (fun w3 h2 => (if w3 = 0 then lt (x3 + (-1)) (fun v4 => r29 x1 x2 v4 h2) else some (x3, h2)))))
def lX12_watch_29   : Nat → Int32 → Int32 → Int32 → Hp → Option (Int32 × Hp)
  | 0 => fun _ _ _ _ => none
  | n + 1 => bX12_watch_29   (lX12_watch_29   n)
set_option maxRecDepth 20000 in
theorem BX12_watch_29 {Z : ZT} {G : GT} {r : Int32} {hr : Hp} (X : CX Z G cX12_watch RX12 4 8) (E : RX Z G (some .int) (some (.int r)) hr) (hz : HZM Z)  (r29 : Int32 → Int32 → Int32 → Hp → Option (Int32 × Hp)) (hr29 : ∀ (x1 : Int32) (x2 : Int32) (x3 : Int32) (h : Hp), r29 x1 x2 x3 h = some (r, hr) → J Z G 4 h 29 [(0, .ref (Z.2.1 0)), (1, .int x1), (2, .int x2), (3, .int x3)] []) (x1 : Int32) (x2 : Int32) (x3 : Int32) (h : Hp) (hF : bX12_watch_29   r29 x1 x2 x3 h = some (r, hr)) : J Z G 4 h 29 [(0, .ref (Z.2.1 0)), (1, .int x1), (2, .int x2), (3, .int x3)] [] := by
  unfold bX12_watch_29 at hF
  refine j_iload_n (pc := 29) 3 X dX12_watch_29 rfl ?_
  refine j_iconst (pc := 30) 1 X dX12_watch_30 rfl ?_
  refine j_icmp_le (pc := 31) 61 X dX12_watch_31 rfl hF (fun hF => ?_) (fun hF => ?_)
  · refine j_iconst (pc := 61) 1 X dX12_watch_61 rfl ?_
    exact j_iret (pc := 62) X E dX12_watch_62 hF
  · refine j_aload_n (pc := 34) 0 X dX12_watch_34 rfl ?_
    refine j_iload_n (pc := 35) 1 X dX12_watch_35 rfl ?_
    refine j_iload_n (pc := 36) 3 X dX12_watch_36 rfl ?_
    refine j_iconst (pc := 37) 0 X dX12_watch_37 rfl ?_
    refine j_iconst (pc := 38) 0 X dX12_watch_38 rfl ?_
    refine j_iconst (pc := 39) 0 X dX12_watch_39 rfl ?_
    refine j_bipush (pc := 40) 59 X dX12_watch_40 rfl ?_
    refine j_cVv (pc := 42) (As := [.int x1, .int x3, .int 0, .int 0, .int 0, .int 59]) (rest := []) X dX12_watch_42 ml_X12_482 ck_X12_runs cv_X12_runs (hz _ sh_0) rfl (Nat.le_of_ble_eq_true rfl) rfl (Nat.le_of_ble_eq_true rfl) rfl hF (tX12_runs Z x1 x3 0 0 0 59 hz h) (fun h1 hF => ?_)
    refine j_aload_n (pc := 45) 0 X dX12_watch_45 rfl ?_
    refine j_iload_n (pc := 46) 2 X dX12_watch_46 rfl ?_
    refine j_cVi (pc := 47) (As := [.int x2]) (rest := []) X dX12_watch_47 ml_X12_495 ck_X12_isWatched cv_X12_isWatched (hz _ sh_0) rfl (Nat.le_of_ble_eq_true rfl) rfl (Nat.le_of_ble_eq_true rfl) rfl hF (tX12_isWatched Z x2 hz h1) (fun w3 h2 hF => ?_)
    refine j_if_eq (pc := 50) 55 X dX12_watch_50 rfl hF (fun hF => ?_) (fun hF => ?_)
    · refine j_iinc (pc := 55) 3 (x3 + (-1)) (fun y => [(3, .int y), (0, .ref (Z.2.1 0)), (1, .int x1), (2, .int x2)]) X dX12_watch_55 rfl rfl (by decide) (fun _ => rfl) hF (fun v4 hF => ?_)
      refine j_goto (pc := 58) 29 X dX12_watch_58 rfl ?_
      refine j_lv [(0, .ref (Z.2.1 0)), (1, .int x1), (2, .int x2), (3, .int v4)] [1, 2, 3, 0] rfl ?_
      exact hr29 x1 x2 v4 h2 hF
    · refine j_iload_n (pc := 53) 3 X dX12_watch_53 rfl ?_
      exact j_iret (pc := 54) X E dX12_watch_54 hF
theorem LX12_watch_29 {Z : ZT} {G : GT} {r : Int32} {hr : Hp} (X : CX Z G cX12_watch RX12 4 8) (E : RX Z G (some .int) (some (.int r)) hr) (hz : HZM Z)  : ∀ (n : Nat) (x1 : Int32) (x2 : Int32) (x3 : Int32) (h : Hp), lX12_watch_29   n x1 x2 x3 h = some (r, hr) → J Z G 4 h 29 [(0, .ref (Z.2.1 0)), (1, .int x1), (2, .int x2), (3, .int x3)] [] := by
  intro n
  induction n with
  | zero => intro x1 x2 x3 h hF; cases hF
  | succ n ih => intro x1 x2 x3 h hF; exact BX12_watch_29 X E hz  (lX12_watch_29   n) ih x1 x2 x3 h hF
def fX12_watch (a1 : Int32) (a2 : Int32) (h : Hp) : Option (Int32 × Hp) := bi (fX12_isKnown a1 h) (fun w2 h1 => (if w2 = 0 then some ((-1), h1) else bi (fX12_isYear a2 h1) (fun w4 h3 => (if w4 = 0 then some ((-1), h3) else bv (fX12_runsAll a1 h3) (fun h5 => bv (fX12_keepsYearly h5) (fun h6 => lt 20 (fun v7 => lX12_watch_29 FU a1 a2 v7 h6)))))))
set_option maxRecDepth 20000 in
theorem tX12_watch (Z : ZT) (a1 : Int32) (a2 : Int32) (hz : HZM Z) (h : Hp) (r : Int32) (hr : Hp) (hF : fX12_watch a1 a2 h = some (r, hr)) : MC Z yX12_watch cX12_watch 4 (some .int) 8 [.ref (Z.2.1 0), .int a1, .int a2] h (some (.int r)) hr := by
  unfold fX12_watch at hF
  refine mc_start (by decide) (Nat.le_of_ble_eq_true rfl) (fun G X E => ?_)
  refine j_aload_n (pc := 0) 0 X dX12_watch_0 rfl ?_
  refine j_iload_n (pc := 1) 1 X dX12_watch_1 rfl ?_
  refine j_cVi (pc := 2) (As := [.int a1]) (rest := []) X dX12_watch_2 ml_X12_435 ck_X12_isKnown cv_X12_isKnown (hz _ sh_0) rfl (Nat.le_of_ble_eq_true rfl) rfl (Nat.le_of_ble_eq_true rfl) rfl hF (tX12_isKnown Z a1 hz h) (fun w2 h1 hF => ?_)
  refine j_if_eq (pc := 5) 15 X dX12_watch_5 rfl hF (fun hF => ?_) (fun hF => ?_)
  · refine j_iconst (pc := 15) (-1) X dX12_watch_15 rfl ?_
    exact j_iret (pc := 16) X E dX12_watch_16 hF
  · refine j_iload_n (pc := 8) 2 X dX12_watch_8 rfl ?_
    refine j_cSi (pc := 9) (As := [.int a2]) (rest := []) X dX12_watch_9 ml_X12_412 ck_X12_isYear sk_X12_isYear (Nat.le_of_ble_eq_true rfl) rfl (Nat.le_of_ble_eq_true rfl) rfl hF (tX12_isYear Z a2 trivial h1) (fun w4 h3 hF => ?_)
    refine j_if_ne (pc := 12) 17 X dX12_watch_12 rfl hF (fun hF => ?_) (fun hF => ?_)
    · refine j_aload_n (pc := 17) 0 X dX12_watch_17 rfl ?_
      refine j_iload_n (pc := 18) 1 X dX12_watch_18 rfl ?_
      refine j_cVv (pc := 19) (As := [.int a1]) (rest := []) X dX12_watch_19 ml_X12_486 ck_X12_runsAll cv_X12_runsAll (hz _ sh_0) rfl (Nat.le_of_ble_eq_true rfl) rfl (Nat.le_of_ble_eq_true rfl) rfl hF (tX12_runsAll Z a1 hz h3) (fun h5 hF => ?_)
      refine j_aload_n (pc := 22) 0 X dX12_watch_22 rfl ?_
      refine j_cVv (pc := 23) (As := []) (rest := []) X dX12_watch_23 ml_X12_489 ck_X12_keepsYearly cv_X12_keepsYearly (hz _ sh_0) rfl (Nat.le_of_ble_eq_true rfl) rfl (Nat.le_of_ble_eq_true rfl) rfl hF (tX12_keepsYearly Z hz h5) (fun h6 hF => ?_)
      refine j_bipush (pc := 26) 20 X dX12_watch_26 rfl ?_
      refine j_istore_n (pc := 28) (fun y => [(3, .int y), (0, .ref (Z.2.1 0)), (1, .int a1), (2, .int a2)]) X dX12_watch_28 (by decide) (fun _ => rfl) hF (fun v7 hF => ?_)
      refine j_lv [(0, .ref (Z.2.1 0)), (1, .int a1), (2, .int a2), (3, .int v7)] [1, 2, 3, 0] rfl ?_
      exact LX12_watch_29 X E hz FU a1 a2 v7 h6 hF
    · refine j_iconst (pc := 15) (-1) X dX12_watch_15 rfl ?_
      exact j_iret (pc := 16) X E dX12_watch_16 hF
theorem dX12_gains_0 : decode cX12_gains 0 = .ok (.iconst 0, 1) := by decide +kernel
theorem dX12_gains_1 : decode cX12_gains 1 = .ok (.istore_n 1, 1) := by decide +kernel
theorem dX12_gains_2 : decode cX12_gains 2 = .ok (.iconst 0, 1) := by decide +kernel
theorem dX12_gains_3 : decode cX12_gains 3 = .ok (.istore_n 2, 1) := by decide +kernel
theorem dX12_gains_4 : decode cX12_gains 4 = .ok (.iload_n 2, 1) := by decide +kernel
theorem dX12_gains_5 : decode cX12_gains 5 = .ok (.aload_n 0, 1) := by decide +kernel
theorem dX12_gains_6 : decode cX12_gains 6 = .ok (.getfield 67, 3) := by decide +kernel
theorem dX12_gains_9 : decode cX12_gains 9 = .ok (.aload_n 0, 1) := by decide +kernel
theorem dX12_gains_10 : decode cX12_gains 10 = .ok (.getfield 284, 3) := by decide +kernel
theorem dX12_gains_13 : decode cX12_gains 13 = .ok (.iaload, 1) := by decide +kernel
theorem dX12_gains_14 : decode cX12_gains 14 = .ok (.if_icmp .ge 61, 3) := by decide +kernel
theorem dX12_gains_17 : decode cX12_gains 17 = .ok (.aload_n 0, 1) := by decide +kernel
theorem dX12_gains_18 : decode cX12_gains 18 = .ok (.getfield 149, 3) := by decide +kernel
theorem dX12_gains_21 : decode cX12_gains 21 = .ok (.iload_n 2, 1) := by decide +kernel
theorem dX12_gains_22 : decode cX12_gains 22 = .ok (.iaload, 1) := by decide +kernel
theorem dX12_gains_23 : decode cX12_gains 23 = .ok (.iconst 1, 1) := by decide +kernel
theorem dX12_gains_24 : decode cX12_gains 24 = .ok (.if_icmp .ne 45, 3) := by decide +kernel
theorem dX12_gains_27 : decode cX12_gains 27 = .ok (.iload_n 1, 1) := by decide +kernel
theorem dX12_gains_28 : decode cX12_gains 28 = .ok (.aload_n 0, 1) := by decide +kernel
theorem dX12_gains_29 : decode cX12_gains 29 = .ok (.iload_n 2, 1) := by decide +kernel
theorem dX12_gains_30 : decode cX12_gains 30 = .ok (.aload_n 0, 1) := by decide +kernel
theorem dX12_gains_31 : decode cX12_gains 31 = .ok (.getfield 152, 3) := by decide +kernel
theorem dX12_gains_34 : decode cX12_gains 34 = .ok (.iload_n 2, 1) := by decide +kernel
theorem dX12_gains_35 : decode cX12_gains 35 = .ok (.iaload, 1) := by decide +kernel
theorem dX12_gains_36 : decode cX12_gains 36 = .ok (.aload_n 0, 1) := by decide +kernel
theorem dX12_gains_37 : decode cX12_gains 37 = .ok (.getfield 173, 3) := by decide +kernel
theorem dX12_gains_40 : decode cX12_gains 40 = .ok (.iload_n 2, 1) := by decide +kernel
theorem dX12_gains_41 : decode cX12_gains 41 = .ok (.iaload, 1) := by decide +kernel
theorem dX12_gains_42 : decode cX12_gains 42 = .ok (.iconst 1, 1) := by decide +kernel
theorem dX12_gains_43 : decode cX12_gains 43 = .ok (.if_icmp .ne 19, 3) := by decide +kernel
theorem dX12_gains_46 : decode cX12_gains 46 = .ok (.aload_n 0, 1) := by decide +kernel
theorem dX12_gains_47 : decode cX12_gains 47 = .ok (.getfield 152, 3) := by decide +kernel
theorem dX12_gains_50 : decode cX12_gains 50 = .ok (.iload_n 2, 1) := by decide +kernel
theorem dX12_gains_51 : decode cX12_gains 51 = .ok (.iaload, 1) := by decide +kernel
theorem dX12_gains_52 : decode cX12_gains 52 = .ok (.aload_n 0, 1) := by decide +kernel
theorem dX12_gains_53 : decode cX12_gains 53 = .ok (.getfield 176, 3) := by decide +kernel
theorem dX12_gains_56 : decode cX12_gains 56 = .ok (.iload_n 2, 1) := by decide +kernel
theorem dX12_gains_57 : decode cX12_gains 57 = .ok (.iaload, 1) := by decide +kernel
theorem dX12_gains_58 : decode cX12_gains 58 = .ok (.isub, 1) := by decide +kernel
theorem dX12_gains_59 : decode cX12_gains 59 = .ok (.goto 5, 3) := by decide +kernel
theorem dX12_gains_62 : decode cX12_gains 62 = .ok (.bipush (-2), 2) := by decide +kernel
theorem dX12_gains_64 : decode cX12_gains 64 = .ok (.invokevirtual 498, 3) := by decide +kernel
theorem dX12_gains_67 : decode cX12_gains 67 = .ok (.iadd, 1) := by decide +kernel
theorem dX12_gains_68 : decode cX12_gains 68 = .ok (.istore_n 1, 1) := by decide +kernel
theorem dX12_gains_69 : decode cX12_gains 69 = .ok (.iinc 2 1, 3) := by decide +kernel
theorem dX12_gains_72 : decode cX12_gains 72 = .ok (.goto (-68), 3) := by decide +kernel
theorem dX12_gains_75 : decode cX12_gains 75 = .ok (.iload_n 1, 1) := by decide +kernel
theorem dX12_gains_76 : decode cX12_gains 76 = .ok (.ireturn, 1) := by decide +kernel
def bX12_gains_69  (r4 : Int32 → Int32 → Hp → Option (Int32 × Hp)) (x1 : Int32) (x2 : Int32) (h : Hp) : Option (Int32 × Hp) := lt (x2 + 1) (fun v1 => r4 x1 v1 h)
set_option maxRecDepth 20000 in
theorem BX12_gains_69 {Z : ZT} {G : GT} {r : Int32} {hr : Hp} (X : CX Z G cX12_gains RX12 3 3) (E : RX Z G (some .int) (some (.int r)) hr) (hz : HZM Z) (r4 : Int32 → Int32 → Hp → Option (Int32 × Hp)) (hr4 : ∀ (x1 : Int32) (x2 : Int32) (h : Hp), r4 x1 x2 h = some (r, hr) → J Z G 3 h 4 [(0, .ref (Z.2.1 0)), (1, .int x1), (2, .int x2)] []) (x1 : Int32) (x2 : Int32) (h : Hp) (hF : bX12_gains_69  r4 x1 x2 h = some (r, hr)) : J Z G 3 h 69 [(0, .ref (Z.2.1 0)), (1, .int x1), (2, .int x2)] [] := by
  unfold bX12_gains_69 at hF
  refine j_iinc (pc := 69) 2 (x2 + 1) (fun y => [(2, .int y), (0, .ref (Z.2.1 0)), (1, .int x1)]) X dX12_gains_69 rfl rfl (by decide) (fun _ => rfl) hF (fun v1 hF => ?_)
  refine j_goto (pc := 72) 4 X dX12_gains_72 rfl ?_
  refine j_lv [(0, .ref (Z.2.1 0)), (1, .int x1), (2, .int v1)] [1, 2, 0] rfl ?_
  exact hr4 x1 v1 h hF
def bX12_gains_64  (r4 : Int32 → Int32 → Hp → Option (Int32 × Hp)) (x2 : Int32) (s0 : Int32) (s1 : Int32) (s2 : Int32) (s4 : Int32) (h : Hp) : Option (Int32 × Hp) := bi (fX12_goodOf s2 s1 s0 h) (fun w2 h1 => lt (s4 + w2) (fun v3 => bX12_gains_69 r4 v3 x2 h1))
set_option maxRecDepth 20000 in
theorem BX12_gains_64 {Z : ZT} {G : GT} {r : Int32} {hr : Hp} (X : CX Z G cX12_gains RX12 3 3) (E : RX Z G (some .int) (some (.int r)) hr) (hz : HZM Z) (r4 : Int32 → Int32 → Hp → Option (Int32 × Hp)) (hr4 : ∀ (x1 : Int32) (x2 : Int32) (h : Hp), r4 x1 x2 h = some (r, hr) → J Z G 3 h 4 [(0, .ref (Z.2.1 0)), (1, .int x1), (2, .int x2)] []) (x2 : Int32) (s0 : Int32) (s1 : Int32) (s2 : Int32) (s4 : Int32) (h : Hp) (hF : bX12_gains_64  r4 x2 s0 s1 s2 s4 h = some (r, hr)) : J Z G 3 h 64 [(0, .ref (Z.2.1 0)), (2, .int x2)] [.int s0, .int s1, .int s2, .ref (Z.2.1 0), .int s4] := by
  unfold bX12_gains_64 at hF
  refine j_cVi (pc := 64) (As := [.int s2, .int s1, .int s0]) (rest := [.int s4]) X dX12_gains_64 ml_X12_498 ck_X12_goodOf cv_X12_goodOf (hz _ sh_0) rfl (Nat.le_of_ble_eq_true rfl) rfl (Nat.le_of_ble_eq_true rfl) rfl hF (tX12_goodOf Z s2 s1 s0 hz h) (fun w2 h1 hF => ?_)
  refine j_iadd (pc := 67) X dX12_gains_67 ?_
  refine j_istore_n (pc := 68) (fun y => [(1, .int y), (0, .ref (Z.2.1 0)), (2, .int x2)]) X dX12_gains_68 (by decide) (fun _ => rfl) hF (fun v3 hF => ?_)
  refine j_lv [(0, .ref (Z.2.1 0)), (1, .int v3), (2, .int x2)] [1, 0, 2] rfl ?_
  exact BX12_gains_69 X E hz r4 hr4 v3 x2 h1 hF
def bX12_gains_4   (r4 : Int32 → Int32 → Hp → Option (Int32 × Hp)) (x1 : Int32) (x2 : Int32) (h : Hp) : Option (Int32 × Hp) := ck (inb (h.1 0 18) 2) ((if (h.1 17 (ix (h.1 0 18))) ≤ x2 then some (x1, h) else ck (inb x2 10) ((if (h.1 44 (ix x2)) = 1 then ck (inb x2 10) (ck (inb x2 10) ((if (h.1 52 (ix x2)) = 1 then ck (inb x2 10) (ck (inb x2 10) (bX12_gains_64 r4 x2 ((h.1 45 (ix x2)) - (h.1 53 (ix x2))) (h.1 45 (ix x2)) x2 x1 h)) else bX12_gains_64 r4 x2 (-2) (h.1 45 (ix x2)) x2 x1 h))) else bX12_gains_69 r4 x1 x2 h))))
def lX12_gains_4   : Nat → Int32 → Int32 → Hp → Option (Int32 × Hp)
  | 0 => fun _ _ _ => none
  | n + 1 => bX12_gains_4   (lX12_gains_4   n)
set_option maxRecDepth 20000 in
theorem BX12_gains_4 {Z : ZT} {G : GT} {r : Int32} {hr : Hp} (X : CX Z G cX12_gains RX12 3 3) (E : RX Z G (some .int) (some (.int r)) hr) (hz : HZM Z)  (r4 : Int32 → Int32 → Hp → Option (Int32 × Hp)) (hr4 : ∀ (x1 : Int32) (x2 : Int32) (h : Hp), r4 x1 x2 h = some (r, hr) → J Z G 3 h 4 [(0, .ref (Z.2.1 0)), (1, .int x1), (2, .int x2)] []) (x1 : Int32) (x2 : Int32) (h : Hp) (hF : bX12_gains_4   r4 x1 x2 h = some (r, hr)) : J Z G 3 h 4 [(0, .ref (Z.2.1 0)), (1, .int x1), (2, .int x2)] [] := by
  unfold bX12_gains_4 at hF
  refine j_iload_n (pc := 4) 2 X dX12_gains_4 rfl ?_
  refine j_aload_n (pc := 5) 0 X dX12_gains_5 rfl ?_
  refine j_getr (pc := 6) X dX12_gains_6 (hz _ sh_0) fl_X12_67 rfl ?_
  refine j_aload_n (pc := 9) 0 X dX12_gains_9 rfl ?_
  refine j_geti (pc := 10) X dX12_gains_10 (hz _ sh_0) fl_X12_284 rfl ?_
  refine j_iald (pc := 13) X dX12_gains_13 (hz _ sh_17) hF (fun hF => ?_)
  refine j_icmp_ge (pc := 14) 75 X dX12_gains_14 rfl hF (fun hF => ?_) (fun hF => ?_)
  · refine j_iload_n (pc := 75) 1 X dX12_gains_75 rfl ?_
    exact j_iret (pc := 76) X E dX12_gains_76 hF
  · refine j_aload_n (pc := 17) 0 X dX12_gains_17 rfl ?_
    refine j_getr (pc := 18) X dX12_gains_18 (hz _ sh_0) fl_X12_149 rfl ?_
    refine j_iload_n (pc := 21) 2 X dX12_gains_21 rfl ?_
    refine j_iald (pc := 22) X dX12_gains_22 (hz _ sh_44) hF (fun hF => ?_)
    refine j_iconst (pc := 23) 1 X dX12_gains_23 rfl ?_
    refine j_icmp_ne (pc := 24) 69 X dX12_gains_24 rfl hF (fun hF => ?_) (fun hF => ?_)
    · exact BX12_gains_69 X E hz r4 hr4 x1 x2 h hF
    · refine j_iload_n (pc := 27) 1 X dX12_gains_27 rfl ?_
      refine j_aload_n (pc := 28) 0 X dX12_gains_28 rfl ?_
      refine j_iload_n (pc := 29) 2 X dX12_gains_29 rfl ?_
      refine j_aload_n (pc := 30) 0 X dX12_gains_30 rfl ?_
      refine j_getr (pc := 31) X dX12_gains_31 (hz _ sh_0) fl_X12_152 rfl ?_
      refine j_iload_n (pc := 34) 2 X dX12_gains_34 rfl ?_
      refine j_iald (pc := 35) X dX12_gains_35 (hz _ sh_45) hF (fun hF => ?_)
      refine j_aload_n (pc := 36) 0 X dX12_gains_36 rfl ?_
      refine j_getr (pc := 37) X dX12_gains_37 (hz _ sh_0) fl_X12_173 rfl ?_
      refine j_iload_n (pc := 40) 2 X dX12_gains_40 rfl ?_
      refine j_iald (pc := 41) X dX12_gains_41 (hz _ sh_52) hF (fun hF => ?_)
      refine j_iconst (pc := 42) 1 X dX12_gains_42 rfl ?_
      refine j_icmp_ne (pc := 43) 62 X dX12_gains_43 rfl hF (fun hF => ?_) (fun hF => ?_)
      · refine j_bipush (pc := 62) (-2) X dX12_gains_62 rfl ?_
        refine j_lv [(0, .ref (Z.2.1 0)), (2, .int x2)] [0, 2] rfl ?_
        exact BX12_gains_64 X E hz r4 hr4 x2 (-2) (h.1 45 (ix x2)) x2 x1 h hF
      · refine j_aload_n (pc := 46) 0 X dX12_gains_46 rfl ?_
        refine j_getr (pc := 47) X dX12_gains_47 (hz _ sh_0) fl_X12_152 rfl ?_
        refine j_iload_n (pc := 50) 2 X dX12_gains_50 rfl ?_
        refine j_iald (pc := 51) X dX12_gains_51 (hz _ sh_45) hF (fun hF => ?_)
        refine j_aload_n (pc := 52) 0 X dX12_gains_52 rfl ?_
        refine j_getr (pc := 53) X dX12_gains_53 (hz _ sh_0) fl_X12_176 rfl ?_
        refine j_iload_n (pc := 56) 2 X dX12_gains_56 rfl ?_
        refine j_iald (pc := 57) X dX12_gains_57 (hz _ sh_53) hF (fun hF => ?_)
        refine j_isub (pc := 58) X dX12_gains_58 ?_
        refine j_goto (pc := 59) 64 X dX12_gains_59 rfl ?_
        refine j_lv [(0, .ref (Z.2.1 0)), (2, .int x2)] [0, 2] rfl ?_
        exact BX12_gains_64 X E hz r4 hr4 x2 ((h.1 45 (ix x2)) - (h.1 53 (ix x2))) (h.1 45 (ix x2)) x2 x1 h hF
theorem LX12_gains_4 {Z : ZT} {G : GT} {r : Int32} {hr : Hp} (X : CX Z G cX12_gains RX12 3 3) (E : RX Z G (some .int) (some (.int r)) hr) (hz : HZM Z)  : ∀ (n : Nat) (x1 : Int32) (x2 : Int32) (h : Hp), lX12_gains_4   n x1 x2 h = some (r, hr) → J Z G 3 h 4 [(0, .ref (Z.2.1 0)), (1, .int x1), (2, .int x2)] [] := by
  intro n
  induction n with
  | zero => intro x1 x2 h hF; cases hF
  | succ n ih => intro x1 x2 h hF; exact BX12_gains_4 X E hz  (lX12_gains_4   n) ih x1 x2 h hF
def fX12_gains  (h : Hp) : Option (Int32 × Hp) := lt 0 (fun v1 => lt 0 (fun v2 => lX12_gains_4 FU v1 v2 h))
set_option maxRecDepth 20000 in
theorem tX12_gains (Z : ZT)  (hz : HZM Z) (h : Hp) (r : Int32) (hr : Hp) (hF : fX12_gains  h = some (r, hr)) : MC Z yX12_gains cX12_gains 3 (some .int) 3 [.ref (Z.2.1 0)] h (some (.int r)) hr := by
  unfold fX12_gains at hF
  refine mc_start (by decide) (Nat.le_of_ble_eq_true rfl) (fun G X E => ?_)
  refine j_iconst (pc := 0) 0 X dX12_gains_0 rfl ?_
  refine j_istore_n (pc := 1) (fun y => [(1, .int y), (0, .ref (Z.2.1 0))]) X dX12_gains_1 (by decide) (fun _ => rfl) hF (fun v1 hF => ?_)
  refine j_iconst (pc := 2) 0 X dX12_gains_2 rfl ?_
  refine j_istore_n (pc := 3) (fun y => [(2, .int y), (1, .int v1), (0, .ref (Z.2.1 0))]) X dX12_gains_3 (by decide) (fun _ => rfl) hF (fun v2 hF => ?_)
  refine j_lv [(0, .ref (Z.2.1 0)), (1, .int v1), (2, .int v2)] [2, 1, 0] rfl ?_
  exact LX12_gains_4 X E hz FU v1 v2 h hF
theorem dX12_gain_0 : decode cX12_gain 0 = .ok (.aload_n 0, 1) := by decide +kernel
theorem dX12_gain_1 : decode cX12_gain 1 = .ok (.iload_n 1, 1) := by decide +kernel
theorem dX12_gain_2 : decode cX12_gain 2 = .ok (.invokevirtual 435, 3) := by decide +kernel
theorem dX12_gain_5 : decode cX12_gain 5 = .ok (.ifCond .eq 10, 3) := by decide +kernel
theorem dX12_gain_8 : decode cX12_gain 8 = .ok (.iload_n 2, 1) := by decide +kernel
theorem dX12_gain_9 : decode cX12_gain 9 = .ok (.invokestatic 492, 3) := by decide +kernel
theorem dX12_gain_12 : decode cX12_gain 12 = .ok (.ifCond .ne 5, 3) := by decide +kernel
theorem dX12_gain_15 : decode cX12_gain 15 = .ok (.iconst (-1), 1) := by decide +kernel
theorem dX12_gain_16 : decode cX12_gain 16 = .ok (.ireturn, 1) := by decide +kernel
theorem dX12_gain_17 : decode cX12_gain 17 = .ok (.aload_n 0, 1) := by decide +kernel
theorem dX12_gain_18 : decode cX12_gain 18 = .ok (.iload_n 1, 1) := by decide +kernel
theorem dX12_gain_19 : decode cX12_gain 19 = .ok (.invokevirtual 486, 3) := by decide +kernel
theorem dX12_gain_22 : decode cX12_gain 22 = .ok (.aload_n 0, 1) := by decide +kernel
theorem dX12_gain_23 : decode cX12_gain 23 = .ok (.invokevirtual 489, 3) := by decide +kernel
theorem dX12_gain_26 : decode cX12_gain 26 = .ok (.aload_n 0, 1) := by decide +kernel
theorem dX12_gain_27 : decode cX12_gain 27 = .ok (.iload_n 1, 1) := by decide +kernel
theorem dX12_gain_28 : decode cX12_gain 28 = .ok (.iload_n 2, 1) := by decide +kernel
theorem dX12_gain_29 : decode cX12_gain 29 = .ok (.iconst 0, 1) := by decide +kernel
theorem dX12_gain_30 : decode cX12_gain 30 = .ok (.iconst 0, 1) := by decide +kernel
theorem dX12_gain_31 : decode cX12_gain 31 = .ok (.iconst 0, 1) := by decide +kernel
theorem dX12_gain_32 : decode cX12_gain 32 = .ok (.bipush 59, 2) := by decide +kernel
theorem dX12_gain_34 : decode cX12_gain 34 = .ok (.invokevirtual 482, 3) := by decide +kernel
theorem dX12_gain_37 : decode cX12_gain 37 = .ok (.aload_n 0, 1) := by decide +kernel
theorem dX12_gain_38 : decode cX12_gain 38 = .ok (.invokevirtual 501, 3) := by decide +kernel
theorem dX12_gain_41 : decode cX12_gain 41 = .ok (.ireturn, 1) := by decide +kernel
def fX12_gain (a1 : Int32) (a2 : Int32) (h : Hp) : Option (Int32 × Hp) := bi (fX12_isKnown a1 h) (fun w2 h1 => (if w2 = 0 then some ((-1), h1) else bi (fX12_isEach a2 h1) (fun w4 h3 => (if w4 = 0 then some ((-1), h3) else bv (fX12_runsAll a1 h3) (fun h5 => bv (fX12_keepsYearly h5) (fun h6 => bv (fX12_runs a1 a2 0 0 0 59 h6) (fun h7 => bi (fX12_gains h7) (fun w9 h8 => some (w9, h8)))))))))
set_option maxRecDepth 20000 in
theorem tX12_gain (Z : ZT) (a1 : Int32) (a2 : Int32) (hz : HZM Z) (h : Hp) (r : Int32) (hr : Hp) (hF : fX12_gain a1 a2 h = some (r, hr)) : MC Z yX12_gain cX12_gain 3 (some .int) 8 [.ref (Z.2.1 0), .int a1, .int a2] h (some (.int r)) hr := by
  unfold fX12_gain at hF
  refine mc_start (by decide) (Nat.le_of_ble_eq_true rfl) (fun G X E => ?_)
  refine j_aload_n (pc := 0) 0 X dX12_gain_0 rfl ?_
  refine j_iload_n (pc := 1) 1 X dX12_gain_1 rfl ?_
  refine j_cVi (pc := 2) (As := [.int a1]) (rest := []) X dX12_gain_2 ml_X12_435 ck_X12_isKnown cv_X12_isKnown (hz _ sh_0) rfl (Nat.le_of_ble_eq_true rfl) rfl (Nat.le_of_ble_eq_true rfl) rfl hF (tX12_isKnown Z a1 hz h) (fun w2 h1 hF => ?_)
  refine j_if_eq (pc := 5) 15 X dX12_gain_5 rfl hF (fun hF => ?_) (fun hF => ?_)
  · refine j_iconst (pc := 15) (-1) X dX12_gain_15 rfl ?_
    exact j_iret (pc := 16) X E dX12_gain_16 hF
  · refine j_iload_n (pc := 8) 2 X dX12_gain_8 rfl ?_
    refine j_cSi (pc := 9) (As := [.int a2]) (rest := []) X dX12_gain_9 ml_X12_492 ck_X12_isEach sk_X12_isEach (Nat.le_of_ble_eq_true rfl) rfl (Nat.le_of_ble_eq_true rfl) rfl hF (tX12_isEach Z a2 trivial h1) (fun w4 h3 hF => ?_)
    refine j_if_ne (pc := 12) 17 X dX12_gain_12 rfl hF (fun hF => ?_) (fun hF => ?_)
    · refine j_aload_n (pc := 17) 0 X dX12_gain_17 rfl ?_
      refine j_iload_n (pc := 18) 1 X dX12_gain_18 rfl ?_
      refine j_cVv (pc := 19) (As := [.int a1]) (rest := []) X dX12_gain_19 ml_X12_486 ck_X12_runsAll cv_X12_runsAll (hz _ sh_0) rfl (Nat.le_of_ble_eq_true rfl) rfl (Nat.le_of_ble_eq_true rfl) rfl hF (tX12_runsAll Z a1 hz h3) (fun h5 hF => ?_)
      refine j_aload_n (pc := 22) 0 X dX12_gain_22 rfl ?_
      refine j_cVv (pc := 23) (As := []) (rest := []) X dX12_gain_23 ml_X12_489 ck_X12_keepsYearly cv_X12_keepsYearly (hz _ sh_0) rfl (Nat.le_of_ble_eq_true rfl) rfl (Nat.le_of_ble_eq_true rfl) rfl hF (tX12_keepsYearly Z hz h5) (fun h6 hF => ?_)
      refine j_aload_n (pc := 26) 0 X dX12_gain_26 rfl ?_
      refine j_iload_n (pc := 27) 1 X dX12_gain_27 rfl ?_
      refine j_iload_n (pc := 28) 2 X dX12_gain_28 rfl ?_
      refine j_iconst (pc := 29) 0 X dX12_gain_29 rfl ?_
      refine j_iconst (pc := 30) 0 X dX12_gain_30 rfl ?_
      refine j_iconst (pc := 31) 0 X dX12_gain_31 rfl ?_
      refine j_bipush (pc := 32) 59 X dX12_gain_32 rfl ?_
      refine j_cVv (pc := 34) (As := [.int a1, .int a2, .int 0, .int 0, .int 0, .int 59]) (rest := []) X dX12_gain_34 ml_X12_482 ck_X12_runs cv_X12_runs (hz _ sh_0) rfl (Nat.le_of_ble_eq_true rfl) rfl (Nat.le_of_ble_eq_true rfl) rfl hF (tX12_runs Z a1 a2 0 0 0 59 hz h6) (fun h7 hF => ?_)
      refine j_aload_n (pc := 37) 0 X dX12_gain_37 rfl ?_
      refine j_cVi (pc := 38) (As := []) (rest := []) X dX12_gain_38 ml_X12_501 ck_X12_gains cv_X12_gains (hz _ sh_0) rfl (Nat.le_of_ble_eq_true rfl) rfl (Nat.le_of_ble_eq_true rfl) rfl hF (tX12_gains Z hz h7) (fun w9 h8 hF => ?_)
      exact j_iret (pc := 41) X E dX12_gain_41 hF
    · refine j_iconst (pc := 15) (-1) X dX12_gain_15 rfl ?_
      exact j_iret (pc := 16) X E dX12_gain_16 hF
theorem dX12_looks_0 : decode cX12_looks 0 = .ok (.aload_n 0, 1) := by decide +kernel
theorem dX12_looks_1 : decode cX12_looks 1 = .ok (.iload_n 1, 1) := by decide +kernel
theorem dX12_looks_2 : decode cX12_looks 2 = .ok (.invokevirtual 435, 3) := by decide +kernel
theorem dX12_looks_5 : decode cX12_looks 5 = .ok (.ifCond .eq 12, 3) := by decide +kernel
theorem dX12_looks_8 : decode cX12_looks 8 = .ok (.iload_n 2, 1) := by decide +kernel
theorem dX12_looks_9 : decode cX12_looks 9 = .ok (.iconst 0, 1) := by decide +kernel
theorem dX12_looks_10 : decode cX12_looks 10 = .ok (.iconst 2, 1) := by decide +kernel
theorem dX12_looks_11 : decode cX12_looks 11 = .ok (.invokestatic 383, 3) := by decide +kernel
theorem dX12_looks_14 : decode cX12_looks 14 = .ok (.ifCond .ne 5, 3) := by decide +kernel
theorem dX12_looks_17 : decode cX12_looks 17 = .ok (.iconst (-1), 1) := by decide +kernel
theorem dX12_looks_18 : decode cX12_looks 18 = .ok (.ireturn, 1) := by decide +kernel
theorem dX12_looks_19 : decode cX12_looks 19 = .ok (.aload_n 0, 1) := by decide +kernel
theorem dX12_looks_20 : decode cX12_looks 20 = .ok (.iload_n 1, 1) := by decide +kernel
theorem dX12_looks_21 : decode cX12_looks 21 = .ok (.invokevirtual 486, 3) := by decide +kernel
theorem dX12_looks_24 : decode cX12_looks 24 = .ok (.aload_n 0, 1) := by decide +kernel
theorem dX12_looks_25 : decode cX12_looks 25 = .ok (.invokevirtual 489, 3) := by decide +kernel
theorem dX12_looks_28 : decode cX12_looks 28 = .ok (.iconst (-1), 1) := by decide +kernel
theorem dX12_looks_29 : decode cX12_looks 29 = .ok (.istore_n 3, 1) := by decide +kernel
theorem dX12_looks_30 : decode cX12_looks 30 = .ok (.iconst 0, 1) := by decide +kernel
theorem dX12_looks_31 : decode cX12_looks 31 = .ok (.istore 4, 2) := by decide +kernel
theorem dX12_looks_33 : decode cX12_looks 33 = .ok (.iconst 0, 1) := by decide +kernel
theorem dX12_looks_34 : decode cX12_looks 34 = .ok (.istore 5, 2) := by decide +kernel
theorem dX12_looks_36 : decode cX12_looks 36 = .ok (.iconst 0, 1) := by decide +kernel
theorem dX12_looks_37 : decode cX12_looks 37 = .ok (.istore 6, 2) := by decide +kernel
theorem dX12_looks_39 : decode cX12_looks 39 = .ok (.iload 6, 2) := by decide +kernel
theorem dX12_looks_41 : decode cX12_looks 41 = .ok (.bipush 59, 2) := by decide +kernel
theorem dX12_looks_43 : decode cX12_looks 43 = .ok (.if_icmp .ge 67, 3) := by decide +kernel
theorem dX12_looks_46 : decode cX12_looks 46 = .ok (.iload 6, 2) := by decide +kernel
theorem dX12_looks_48 : decode cX12_looks 48 = .ok (.iconst 1, 1) := by decide +kernel
theorem dX12_looks_49 : decode cX12_looks 49 = .ok (.iadd, 1) := by decide +kernel
theorem dX12_looks_50 : decode cX12_looks 50 = .ok (.istore 7, 2) := by decide +kernel
theorem dX12_looks_52 : decode cX12_looks 52 = .ok (.iload 7, 2) := by decide +kernel
theorem dX12_looks_54 : decode cX12_looks 54 = .ok (.bipush 60, 2) := by decide +kernel
theorem dX12_looks_56 : decode cX12_looks 56 = .ok (.if_icmp .ge 48, 3) := by decide +kernel
theorem dX12_looks_59 : decode cX12_looks 59 = .ok (.aload_n 0, 1) := by decide +kernel
theorem dX12_looks_60 : decode cX12_looks 60 = .ok (.iload_n 1, 1) := by decide +kernel
theorem dX12_looks_61 : decode cX12_looks 61 = .ok (.iconst 0, 1) := by decide +kernel
theorem dX12_looks_62 : decode cX12_looks 62 = .ok (.iload 6, 2) := by decide +kernel
theorem dX12_looks_64 : decode cX12_looks 64 = .ok (.iload 7, 2) := by decide +kernel
theorem dX12_looks_66 : decode cX12_looks 66 = .ok (.iconst 0, 1) := by decide +kernel
theorem dX12_looks_67 : decode cX12_looks 67 = .ok (.iload 7, 2) := by decide +kernel
theorem dX12_looks_69 : decode cX12_looks 69 = .ok (.invokevirtual 482, 3) := by decide +kernel
theorem dX12_looks_72 : decode cX12_looks 72 = .ok (.aload_n 0, 1) := by decide +kernel
theorem dX12_looks_73 : decode cX12_looks 73 = .ok (.invokevirtual 501, 3) := by decide +kernel
theorem dX12_looks_76 : decode cX12_looks 76 = .ok (.istore 8, 2) := by decide +kernel
theorem dX12_looks_78 : decode cX12_looks 78 = .ok (.iload 8, 2) := by decide +kernel
theorem dX12_looks_80 : decode cX12_looks 80 = .ok (.iload_n 3, 1) := by decide +kernel
theorem dX12_looks_81 : decode cX12_looks 81 = .ok (.if_icmp .gt 6, 3) := by decide +kernel
theorem dX12_looks_84 : decode cX12_looks 84 = .ok (.goto 14, 3) := by decide +kernel
theorem dX12_looks_87 : decode cX12_looks 87 = .ok (.iload 8, 2) := by decide +kernel
theorem dX12_looks_89 : decode cX12_looks 89 = .ok (.istore_n 3, 1) := by decide +kernel
theorem dX12_looks_90 : decode cX12_looks 90 = .ok (.iload 6, 2) := by decide +kernel
theorem dX12_looks_92 : decode cX12_looks 92 = .ok (.istore 4, 2) := by decide +kernel
theorem dX12_looks_94 : decode cX12_looks 94 = .ok (.iload 7, 2) := by decide +kernel
theorem dX12_looks_96 : decode cX12_looks 96 = .ok (.istore 5, 2) := by decide +kernel
theorem dX12_looks_98 : decode cX12_looks 98 = .ok (.iinc 7 1, 3) := by decide +kernel
theorem dX12_looks_101 : decode cX12_looks 101 = .ok (.goto (-49), 3) := by decide +kernel
theorem dX12_looks_104 : decode cX12_looks 104 = .ok (.iinc 6 1, 3) := by decide +kernel
theorem dX12_looks_107 : decode cX12_looks 107 = .ok (.goto (-68), 3) := by decide +kernel
theorem dX12_looks_110 : decode cX12_looks 110 = .ok (.iload_n 2, 1) := by decide +kernel
theorem dX12_looks_111 : decode cX12_looks 111 = .ok (.ifCond .ne 8, 3) := by decide +kernel
theorem dX12_looks_114 : decode cX12_looks 114 = .ok (.iload 4, 2) := by decide +kernel
theorem dX12_looks_116 : decode cX12_looks 116 = .ok (.goto 14, 3) := by decide +kernel
theorem dX12_looks_119 : decode cX12_looks 119 = .ok (.iload_n 2, 1) := by decide +kernel
theorem dX12_looks_120 : decode cX12_looks 120 = .ok (.iconst 1, 1) := by decide +kernel
theorem dX12_looks_121 : decode cX12_looks 121 = .ok (.if_icmp .ne 8, 3) := by decide +kernel
theorem dX12_looks_124 : decode cX12_looks 124 = .ok (.iload 5, 2) := by decide +kernel
theorem dX12_looks_126 : decode cX12_looks 126 = .ok (.goto 4, 3) := by decide +kernel
theorem dX12_looks_129 : decode cX12_looks 129 = .ok (.iload_n 3, 1) := by decide +kernel
theorem dX12_looks_130 : decode cX12_looks 130 = .ok (.ireturn, 1) := by decide +kernel
def bX12_looks_98  (r39 : Int32 → Int32 → Int32 → Int32 → Int32 → Int32 → Hp → Option (Int32 × Hp)) (r52 : Int32 → Int32 → Int32 → Int32 → Int32 → Int32 → Int32 → Hp → Option (Int32 × Hp)) (x1 : Int32) (x2 : Int32) (x3 : Int32) (x4 : Int32) (x5 : Int32) (x6 : Int32) (x7 : Int32) (h : Hp) : Option (Int32 × Hp) := lt (x7 + 1) (fun v1 => r52 x1 x2 x3 x4 x5 x6 v1 h)
set_option maxRecDepth 20000 in
theorem BX12_looks_98 {Z : ZT} {G : GT} {r : Int32} {hr : Hp} (X : CX Z G cX12_looks RX12 9 8) (E : RX Z G (some .int) (some (.int r)) hr) (hz : HZM Z) (r39 : Int32 → Int32 → Int32 → Int32 → Int32 → Int32 → Hp → Option (Int32 × Hp)) (hr39 : ∀ (x1 : Int32) (x2 : Int32) (x3 : Int32) (x4 : Int32) (x5 : Int32) (x6 : Int32) (h : Hp), r39 x1 x2 x3 x4 x5 x6 h = some (r, hr) → J Z G 9 h 39 [(0, .ref (Z.2.1 0)), (1, .int x1), (2, .int x2), (3, .int x3), (4, .int x4), (5, .int x5), (6, .int x6)] []) (r52 : Int32 → Int32 → Int32 → Int32 → Int32 → Int32 → Int32 → Hp → Option (Int32 × Hp)) (hr52 : ∀ (x1 : Int32) (x2 : Int32) (x3 : Int32) (x4 : Int32) (x5 : Int32) (x6 : Int32) (x7 : Int32) (h : Hp), r52 x1 x2 x3 x4 x5 x6 x7 h = some (r, hr) → J Z G 9 h 52 [(0, .ref (Z.2.1 0)), (1, .int x1), (2, .int x2), (3, .int x3), (4, .int x4), (5, .int x5), (6, .int x6), (7, .int x7)] []) (x1 : Int32) (x2 : Int32) (x3 : Int32) (x4 : Int32) (x5 : Int32) (x6 : Int32) (x7 : Int32) (h : Hp) (hF : bX12_looks_98  r39 r52 x1 x2 x3 x4 x5 x6 x7 h = some (r, hr)) : J Z G 9 h 98 [(0, .ref (Z.2.1 0)), (1, .int x1), (2, .int x2), (3, .int x3), (4, .int x4), (5, .int x5), (6, .int x6), (7, .int x7)] [] := by
  unfold bX12_looks_98 at hF
  refine j_iinc (pc := 98) 7 (x7 + 1) (fun y => [(7, .int y), (0, .ref (Z.2.1 0)), (1, .int x1), (2, .int x2), (3, .int x3), (4, .int x4), (5, .int x5), (6, .int x6)]) X dX12_looks_98 rfl rfl (by decide) (fun _ => rfl) hF (fun v1 hF => ?_)
  refine j_goto (pc := 101) 52 X dX12_looks_101 rfl ?_
  refine j_lv [(0, .ref (Z.2.1 0)), (1, .int x1), (2, .int x2), (3, .int x3), (4, .int x4), (5, .int x5), (6, .int x6), (7, .int v1)] [1, 2, 3, 4, 5, 6, 7, 0] rfl ?_
  exact hr52 x1 x2 x3 x4 x5 x6 v1 h hF
def bX12_looks_52  (r39 : Int32 → Int32 → Int32 → Int32 → Int32 → Int32 → Hp → Option (Int32 × Hp)) (r52 : Int32 → Int32 → Int32 → Int32 → Int32 → Int32 → Int32 → Hp → Option (Int32 × Hp)) (x1 : Int32) (x2 : Int32) (x3 : Int32) (x4 : Int32) (x5 : Int32) (x6 : Int32) (x7 : Int32) (h : Hp) : Option (Int32 × Hp) := (if 60 ≤ x7 then lt (x6 + 1) (fun v1 => r39 x1 x2 x3 x4 x5 v1 h) else bv (fX12_runs x1 0 x6 x7 0 x7 h) (fun h2 => bi (fX12_gains h2) (fun w4 h3 => lt w4 (fun v5 => (if x3 < v5 then lt v5 (fun v6 => lt x6 (fun v7 => lt x7 (fun v8 => bX12_looks_98 r39 r52 x1 x2 v6 v7 v8 x6 x7 h3))) else bX12_looks_98 r39 r52 x1 x2 x3 x4 x5 x6 x7 h3)))))
def lX12_looks_52  (r39 : Int32 → Int32 → Int32 → Int32 → Int32 → Int32 → Hp → Option (Int32 × Hp)) : Nat → Int32 → Int32 → Int32 → Int32 → Int32 → Int32 → Int32 → Hp → Option (Int32 × Hp)
  | 0 => fun _ _ _ _ _ _ _ _ => none
  | n + 1 => bX12_looks_52  r39 (lX12_looks_52  r39 n)
set_option maxRecDepth 20000 in
theorem BX12_looks_52 {Z : ZT} {G : GT} {r : Int32} {hr : Hp} (X : CX Z G cX12_looks RX12 9 8) (E : RX Z G (some .int) (some (.int r)) hr) (hz : HZM Z) (r39 : Int32 → Int32 → Int32 → Int32 → Int32 → Int32 → Hp → Option (Int32 × Hp)) (hr39 : ∀ (x1 : Int32) (x2 : Int32) (x3 : Int32) (x4 : Int32) (x5 : Int32) (x6 : Int32) (h : Hp), r39 x1 x2 x3 x4 x5 x6 h = some (r, hr) → J Z G 9 h 39 [(0, .ref (Z.2.1 0)), (1, .int x1), (2, .int x2), (3, .int x3), (4, .int x4), (5, .int x5), (6, .int x6)] []) (r52 : Int32 → Int32 → Int32 → Int32 → Int32 → Int32 → Int32 → Hp → Option (Int32 × Hp)) (hr52 : ∀ (x1 : Int32) (x2 : Int32) (x3 : Int32) (x4 : Int32) (x5 : Int32) (x6 : Int32) (x7 : Int32) (h : Hp), r52 x1 x2 x3 x4 x5 x6 x7 h = some (r, hr) → J Z G 9 h 52 [(0, .ref (Z.2.1 0)), (1, .int x1), (2, .int x2), (3, .int x3), (4, .int x4), (5, .int x5), (6, .int x6), (7, .int x7)] []) (x1 : Int32) (x2 : Int32) (x3 : Int32) (x4 : Int32) (x5 : Int32) (x6 : Int32) (x7 : Int32) (h : Hp) (hF : bX12_looks_52  r39 r52 x1 x2 x3 x4 x5 x6 x7 h = some (r, hr)) : J Z G 9 h 52 [(0, .ref (Z.2.1 0)), (1, .int x1), (2, .int x2), (3, .int x3), (4, .int x4), (5, .int x5), (6, .int x6), (7, .int x7)] [] := by
  unfold bX12_looks_52 at hF
  refine j_iload (pc := 52) 7 X dX12_looks_52 rfl ?_
  refine j_bipush (pc := 54) 60 X dX12_looks_54 rfl ?_
  refine j_icmp_ge (pc := 56) 104 X dX12_looks_56 rfl hF (fun hF => ?_) (fun hF => ?_)
  · refine j_iinc (pc := 104) 6 (x6 + 1) (fun y => [(6, .int y), (0, .ref (Z.2.1 0)), (1, .int x1), (2, .int x2), (3, .int x3), (4, .int x4), (5, .int x5), (7, .int x7)]) X dX12_looks_104 rfl rfl (by decide) (fun _ => rfl) hF (fun v1 hF => ?_)
    refine j_goto (pc := 107) 39 X dX12_looks_107 rfl ?_
    refine j_lv [(0, .ref (Z.2.1 0)), (1, .int x1), (2, .int x2), (3, .int x3), (4, .int x4), (5, .int x5), (6, .int v1)] [1, 2, 3, 4, 5, 6, 0] rfl ?_
    exact hr39 x1 x2 x3 x4 x5 v1 h hF
  · refine j_aload_n (pc := 59) 0 X dX12_looks_59 rfl ?_
    refine j_iload_n (pc := 60) 1 X dX12_looks_60 rfl ?_
    refine j_iconst (pc := 61) 0 X dX12_looks_61 rfl ?_
    refine j_iload (pc := 62) 6 X dX12_looks_62 rfl ?_
    refine j_iload (pc := 64) 7 X dX12_looks_64 rfl ?_
    refine j_iconst (pc := 66) 0 X dX12_looks_66 rfl ?_
    refine j_iload (pc := 67) 7 X dX12_looks_67 rfl ?_
    refine j_cVv (pc := 69) (As := [.int x1, .int 0, .int x6, .int x7, .int 0, .int x7]) (rest := []) X dX12_looks_69 ml_X12_482 ck_X12_runs cv_X12_runs (hz _ sh_0) rfl (Nat.le_of_ble_eq_true rfl) rfl (Nat.le_of_ble_eq_true rfl) rfl hF (tX12_runs Z x1 0 x6 x7 0 x7 hz h) (fun h2 hF => ?_)
    refine j_aload_n (pc := 72) 0 X dX12_looks_72 rfl ?_
    refine j_cVi (pc := 73) (As := []) (rest := []) X dX12_looks_73 ml_X12_501 ck_X12_gains cv_X12_gains (hz _ sh_0) rfl (Nat.le_of_ble_eq_true rfl) rfl (Nat.le_of_ble_eq_true rfl) rfl hF (tX12_gains Z hz h2) (fun w4 h3 hF => ?_)
    refine j_istore (pc := 76) (fun y => [(8, .int y), (0, .ref (Z.2.1 0)), (1, .int x1), (2, .int x2), (3, .int x3), (4, .int x4), (5, .int x5), (6, .int x6), (7, .int x7)]) X dX12_looks_76 (by decide) (fun _ => rfl) hF (fun v5 hF => ?_)
    refine j_iload (pc := 78) 0 X dX12_looks_78 rfl ?_
    refine j_iload_n (pc := 80) 4 X dX12_looks_80 rfl ?_
    refine j_icmp_gt (pc := 81) 87 X dX12_looks_81 rfl hF (fun hF => ?_) (fun hF => ?_)
    · refine j_iload (pc := 87) 0 X dX12_looks_87 rfl ?_
      refine j_istore_n (pc := 89) (fun y => [(3, .int y), (8, .int v5), (0, .ref (Z.2.1 0)), (1, .int x1), (2, .int x2), (4, .int x4), (5, .int x5), (6, .int x6), (7, .int x7)]) X dX12_looks_89 (by decide) (fun _ => rfl) hF (fun v6 hF => ?_)
      refine j_iload (pc := 90) 7 X dX12_looks_90 rfl ?_
      refine j_istore (pc := 92) (fun y => [(4, .int y), (3, .int v6), (8, .int v5), (0, .ref (Z.2.1 0)), (1, .int x1), (2, .int x2), (5, .int x5), (6, .int x6), (7, .int x7)]) X dX12_looks_92 (by decide) (fun _ => rfl) hF (fun v7 hF => ?_)
      refine j_iload (pc := 94) 8 X dX12_looks_94 rfl ?_
      refine j_istore (pc := 96) (fun y => [(5, .int y), (4, .int v7), (3, .int v6), (8, .int v5), (0, .ref (Z.2.1 0)), (1, .int x1), (2, .int x2), (6, .int x6), (7, .int x7)]) X dX12_looks_96 (by decide) (fun _ => rfl) hF (fun v8 hF => ?_)
      refine j_lv [(0, .ref (Z.2.1 0)), (1, .int x1), (2, .int x2), (3, .int v6), (4, .int v7), (5, .int v8), (6, .int x6), (7, .int x7)] [4, 5, 6, 2, 1, 0, 7, 8] rfl ?_
      exact BX12_looks_98 X E hz r39 hr39 r52 hr52 x1 x2 v6 v7 v8 x6 x7 h3 hF
    · refine j_goto (pc := 84) 98 X dX12_looks_84 rfl ?_
      refine j_lv [(0, .ref (Z.2.1 0)), (1, .int x1), (2, .int x2), (3, .int x3), (4, .int x4), (5, .int x5), (6, .int x6), (7, .int x7)] [1, 2, 3, 4, 5, 6, 7, 8] rfl ?_
      exact BX12_looks_98 X E hz r39 hr39 r52 hr52 x1 x2 x3 x4 x5 x6 x7 h3 hF
theorem LX12_looks_52 {Z : ZT} {G : GT} {r : Int32} {hr : Hp} (X : CX Z G cX12_looks RX12 9 8) (E : RX Z G (some .int) (some (.int r)) hr) (hz : HZM Z) (r39 : Int32 → Int32 → Int32 → Int32 → Int32 → Int32 → Hp → Option (Int32 × Hp)) (hr39 : ∀ (x1 : Int32) (x2 : Int32) (x3 : Int32) (x4 : Int32) (x5 : Int32) (x6 : Int32) (h : Hp), r39 x1 x2 x3 x4 x5 x6 h = some (r, hr) → J Z G 9 h 39 [(0, .ref (Z.2.1 0)), (1, .int x1), (2, .int x2), (3, .int x3), (4, .int x4), (5, .int x5), (6, .int x6)] []) : ∀ (n : Nat) (x1 : Int32) (x2 : Int32) (x3 : Int32) (x4 : Int32) (x5 : Int32) (x6 : Int32) (x7 : Int32) (h : Hp), lX12_looks_52  r39 n x1 x2 x3 x4 x5 x6 x7 h = some (r, hr) → J Z G 9 h 52 [(0, .ref (Z.2.1 0)), (1, .int x1), (2, .int x2), (3, .int x3), (4, .int x4), (5, .int x5), (6, .int x6), (7, .int x7)] [] := by
  intro n
  induction n with
  | zero => intro x1 x2 x3 x4 x5 x6 x7 h hF; cases hF
  | succ n ih => intro x1 x2 x3 x4 x5 x6 x7 h hF; exact BX12_looks_52 X E hz r39 hr39 (lX12_looks_52  r39 n) ih x1 x2 x3 x4 x5 x6 x7 h hF
def bX12_looks_39   (r39 : Int32 → Int32 → Int32 → Int32 → Int32 → Int32 → Hp → Option (Int32 × Hp)) (x1 : Int32) (x2 : Int32) (x3 : Int32) (x4 : Int32) (x5 : Int32) (x6 : Int32) (h : Hp) : Option (Int32 × Hp) := (if 59 ≤ x6 then (if x2 = 0 then some (x4, h) else (if x2 = 1 then some (x5, h) else some (x3, h))) else lt (x6 + 1) (fun v1 => lX12_looks_52 r39 FU x1 x2 x3 x4 x5 x6 v1 h))
def lX12_looks_39   : Nat → Int32 → Int32 → Int32 → Int32 → Int32 → Int32 → Hp → Option (Int32 × Hp)
  | 0 => fun _ _ _ _ _ _ _ => none
  | n + 1 => bX12_looks_39   (lX12_looks_39   n)
set_option maxRecDepth 20000 in
theorem BX12_looks_39 {Z : ZT} {G : GT} {r : Int32} {hr : Hp} (X : CX Z G cX12_looks RX12 9 8) (E : RX Z G (some .int) (some (.int r)) hr) (hz : HZM Z)  (r39 : Int32 → Int32 → Int32 → Int32 → Int32 → Int32 → Hp → Option (Int32 × Hp)) (hr39 : ∀ (x1 : Int32) (x2 : Int32) (x3 : Int32) (x4 : Int32) (x5 : Int32) (x6 : Int32) (h : Hp), r39 x1 x2 x3 x4 x5 x6 h = some (r, hr) → J Z G 9 h 39 [(0, .ref (Z.2.1 0)), (1, .int x1), (2, .int x2), (3, .int x3), (4, .int x4), (5, .int x5), (6, .int x6)] []) (x1 : Int32) (x2 : Int32) (x3 : Int32) (x4 : Int32) (x5 : Int32) (x6 : Int32) (h : Hp) (hF : bX12_looks_39   r39 x1 x2 x3 x4 x5 x6 h = some (r, hr)) : J Z G 9 h 39 [(0, .ref (Z.2.1 0)), (1, .int x1), (2, .int x2), (3, .int x3), (4, .int x4), (5, .int x5), (6, .int x6)] [] := by
  unfold bX12_looks_39 at hF
  refine j_iload (pc := 39) 6 X dX12_looks_39 rfl ?_
  refine j_bipush (pc := 41) 59 X dX12_looks_41 rfl ?_
  refine j_icmp_ge (pc := 43) 110 X dX12_looks_43 rfl hF (fun hF => ?_) (fun hF => ?_)
  · refine j_iload_n (pc := 110) 2 X dX12_looks_110 rfl ?_
    refine j_if_ne (pc := 111) 119 X dX12_looks_111 rfl hF (fun hF => ?_) (fun hF => ?_)
    · refine j_iload_n (pc := 119) 2 X dX12_looks_119 rfl ?_
      refine j_iconst (pc := 120) 1 X dX12_looks_120 rfl ?_
      refine j_icmp_ne (pc := 121) 129 X dX12_looks_121 rfl hF (fun hF => ?_) (fun hF => ?_)
      · refine j_iload_n (pc := 129) 3 X dX12_looks_129 rfl ?_
        exact j_iret (pc := 130) X E dX12_looks_130 hF
      · refine j_iload (pc := 124) 5 X dX12_looks_124 rfl ?_
        refine j_goto (pc := 126) 130 X dX12_looks_126 rfl ?_
        exact j_iret (pc := 130) X E dX12_looks_130 hF
    · refine j_iload (pc := 114) 4 X dX12_looks_114 rfl ?_
      refine j_goto (pc := 116) 130 X dX12_looks_116 rfl ?_
      exact j_iret (pc := 130) X E dX12_looks_130 hF
  · refine j_iload (pc := 46) 6 X dX12_looks_46 rfl ?_
    refine j_iconst (pc := 48) 1 X dX12_looks_48 rfl ?_
    refine j_iadd (pc := 49) X dX12_looks_49 ?_
    refine j_istore (pc := 50) (fun y => [(7, .int y), (0, .ref (Z.2.1 0)), (1, .int x1), (2, .int x2), (3, .int x3), (4, .int x4), (5, .int x5), (6, .int x6)]) X dX12_looks_50 (by decide) (fun _ => rfl) hF (fun v1 hF => ?_)
    refine j_lv [(0, .ref (Z.2.1 0)), (1, .int x1), (2, .int x2), (3, .int x3), (4, .int x4), (5, .int x5), (6, .int x6), (7, .int v1)] [1, 2, 3, 4, 5, 6, 7, 0] rfl ?_
    exact LX12_looks_52 X E hz r39 hr39 FU x1 x2 x3 x4 x5 x6 v1 h hF
theorem LX12_looks_39 {Z : ZT} {G : GT} {r : Int32} {hr : Hp} (X : CX Z G cX12_looks RX12 9 8) (E : RX Z G (some .int) (some (.int r)) hr) (hz : HZM Z)  : ∀ (n : Nat) (x1 : Int32) (x2 : Int32) (x3 : Int32) (x4 : Int32) (x5 : Int32) (x6 : Int32) (h : Hp), lX12_looks_39   n x1 x2 x3 x4 x5 x6 h = some (r, hr) → J Z G 9 h 39 [(0, .ref (Z.2.1 0)), (1, .int x1), (2, .int x2), (3, .int x3), (4, .int x4), (5, .int x5), (6, .int x6)] [] := by
  intro n
  induction n with
  | zero => intro x1 x2 x3 x4 x5 x6 h hF; cases hF
  | succ n ih => intro x1 x2 x3 x4 x5 x6 h hF; exact BX12_looks_39 X E hz  (lX12_looks_39   n) ih x1 x2 x3 x4 x5 x6 h hF
def fX12_looks (a1 : Int32) (a2 : Int32) (h : Hp) : Option (Int32 × Hp) := bi (fX12_isKnown a1 h) (fun w2 h1 => (if w2 = 0 then some ((-1), h1) else bi (fX12_in a2 0 2 h1) (fun w4 h3 => (if w4 = 0 then some ((-1), h3) else bv (fX12_runsAll a1 h3) (fun h5 => bv (fX12_keepsYearly h5) (fun h6 => lt (-1) (fun v7 => lt 0 (fun v8 => lt 0 (fun v9 => lt 0 (fun v10 => lX12_looks_39 FU a1 a2 v7 v8 v9 v10 h6))))))))))
set_option maxRecDepth 20000 in
theorem tX12_looks (Z : ZT) (a1 : Int32) (a2 : Int32) (hz : HZM Z) (h : Hp) (r : Int32) (hr : Hp) (hF : fX12_looks a1 a2 h = some (r, hr)) : MC Z yX12_looks cX12_looks 9 (some .int) 8 [.ref (Z.2.1 0), .int a1, .int a2] h (some (.int r)) hr := by
  unfold fX12_looks at hF
  refine mc_start (by decide) (Nat.le_of_ble_eq_true rfl) (fun G X E => ?_)
  refine j_aload_n (pc := 0) 0 X dX12_looks_0 rfl ?_
  refine j_iload_n (pc := 1) 1 X dX12_looks_1 rfl ?_
  refine j_cVi (pc := 2) (As := [.int a1]) (rest := []) X dX12_looks_2 ml_X12_435 ck_X12_isKnown cv_X12_isKnown (hz _ sh_0) rfl (Nat.le_of_ble_eq_true rfl) rfl (Nat.le_of_ble_eq_true rfl) rfl hF (tX12_isKnown Z a1 hz h) (fun w2 h1 hF => ?_)
  refine j_if_eq (pc := 5) 17 X dX12_looks_5 rfl hF (fun hF => ?_) (fun hF => ?_)
  · refine j_iconst (pc := 17) (-1) X dX12_looks_17 rfl ?_
    exact j_iret (pc := 18) X E dX12_looks_18 hF
  · refine j_iload_n (pc := 8) 2 X dX12_looks_8 rfl ?_
    refine j_iconst (pc := 9) 0 X dX12_looks_9 rfl ?_
    refine j_iconst (pc := 10) 2 X dX12_looks_10 rfl ?_
    refine j_cSi (pc := 11) (As := [.int a2, .int 0, .int 2]) (rest := []) X dX12_looks_11 ml_X12_383 ck_X12_in sk_X12_in (Nat.le_of_ble_eq_true rfl) rfl (Nat.le_of_ble_eq_true rfl) rfl hF (tX12_in Z a2 0 2 trivial h1) (fun w4 h3 hF => ?_)
    refine j_if_ne (pc := 14) 19 X dX12_looks_14 rfl hF (fun hF => ?_) (fun hF => ?_)
    · refine j_aload_n (pc := 19) 0 X dX12_looks_19 rfl ?_
      refine j_iload_n (pc := 20) 1 X dX12_looks_20 rfl ?_
      refine j_cVv (pc := 21) (As := [.int a1]) (rest := []) X dX12_looks_21 ml_X12_486 ck_X12_runsAll cv_X12_runsAll (hz _ sh_0) rfl (Nat.le_of_ble_eq_true rfl) rfl (Nat.le_of_ble_eq_true rfl) rfl hF (tX12_runsAll Z a1 hz h3) (fun h5 hF => ?_)
      refine j_aload_n (pc := 24) 0 X dX12_looks_24 rfl ?_
      refine j_cVv (pc := 25) (As := []) (rest := []) X dX12_looks_25 ml_X12_489 ck_X12_keepsYearly cv_X12_keepsYearly (hz _ sh_0) rfl (Nat.le_of_ble_eq_true rfl) rfl (Nat.le_of_ble_eq_true rfl) rfl hF (tX12_keepsYearly Z hz h5) (fun h6 hF => ?_)
      refine j_iconst (pc := 28) (-1) X dX12_looks_28 rfl ?_
      refine j_istore_n (pc := 29) (fun y => [(3, .int y), (0, .ref (Z.2.1 0)), (1, .int a1), (2, .int a2)]) X dX12_looks_29 (by decide) (fun _ => rfl) hF (fun v7 hF => ?_)
      refine j_iconst (pc := 30) 0 X dX12_looks_30 rfl ?_
      refine j_istore (pc := 31) (fun y => [(4, .int y), (3, .int v7), (0, .ref (Z.2.1 0)), (1, .int a1), (2, .int a2)]) X dX12_looks_31 (by decide) (fun _ => rfl) hF (fun v8 hF => ?_)
      refine j_iconst (pc := 33) 0 X dX12_looks_33 rfl ?_
      refine j_istore (pc := 34) (fun y => [(5, .int y), (4, .int v8), (3, .int v7), (0, .ref (Z.2.1 0)), (1, .int a1), (2, .int a2)]) X dX12_looks_34 (by decide) (fun _ => rfl) hF (fun v9 hF => ?_)
      refine j_iconst (pc := 36) 0 X dX12_looks_36 rfl ?_
      refine j_istore (pc := 37) (fun y => [(6, .int y), (5, .int v9), (4, .int v8), (3, .int v7), (0, .ref (Z.2.1 0)), (1, .int a1), (2, .int a2)]) X dX12_looks_37 (by decide) (fun _ => rfl) hF (fun v10 hF => ?_)
      refine j_lv [(0, .ref (Z.2.1 0)), (1, .int a1), (2, .int a2), (3, .int v7), (4, .int v8), (5, .int v9), (6, .int v10)] [4, 5, 6, 3, 2, 1, 0] rfl ?_
      exact LX12_looks_39 X E hz FU a1 a2 v7 v8 v9 v10 h6 hF
    · refine j_iconst (pc := 17) (-1) X dX12_looks_17 rfl ?_
      exact j_iret (pc := 18) X E dX12_looks_18 hF
theorem dX12_income_0 : decode cX12_income 0 = .ok (.aload_n 0, 1) := by decide +kernel
theorem dX12_income_1 : decode cX12_income 1 = .ok (.iload_n 1, 1) := by decide +kernel
theorem dX12_income_2 : decode cX12_income 2 = .ok (.invokevirtual 435, 3) := by decide +kernel
theorem dX12_income_5 : decode cX12_income 5 = .ok (.ifCond .eq 22, 3) := by decide +kernel
theorem dX12_income_8 : decode cX12_income 8 = .ok (.iload_n 2, 1) := by decide +kernel
theorem dX12_income_9 : decode cX12_income 9 = .ok (.invokestatic 412, 3) := by decide +kernel
theorem dX12_income_12 : decode cX12_income 12 = .ok (.ifCond .eq 15, 3) := by decide +kernel
theorem dX12_income_15 : decode cX12_income 15 = .ok (.iload_n 3, 1) := by decide +kernel
theorem dX12_income_16 : decode cX12_income 16 = .ok (.invokestatic 412, 3) := by decide +kernel
theorem dX12_income_19 : decode cX12_income 19 = .ok (.ifCond .eq 8, 3) := by decide +kernel
theorem dX12_income_22 : decode cX12_income 22 = .ok (.iload_n 3, 1) := by decide +kernel
theorem dX12_income_23 : decode cX12_income 23 = .ok (.iload_n 2, 1) := by decide +kernel
theorem dX12_income_24 : decode cX12_income 24 = .ok (.if_icmp .ge 5, 3) := by decide +kernel
theorem dX12_income_27 : decode cX12_income 27 = .ok (.iconst (-1), 1) := by decide +kernel
theorem dX12_income_28 : decode cX12_income 28 = .ok (.ireturn, 1) := by decide +kernel
theorem dX12_income_29 : decode cX12_income 29 = .ok (.aload_n 0, 1) := by decide +kernel
theorem dX12_income_30 : decode cX12_income 30 = .ok (.iload_n 1, 1) := by decide +kernel
theorem dX12_income_31 : decode cX12_income 31 = .ok (.invokevirtual 486, 3) := by decide +kernel
theorem dX12_income_34 : decode cX12_income 34 = .ok (.iconst 0, 1) := by decide +kernel
theorem dX12_income_35 : decode cX12_income 35 = .ok (.istore 4, 2) := by decide +kernel
theorem dX12_income_37 : decode cX12_income 37 = .ok (.iload_n 2, 1) := by decide +kernel
theorem dX12_income_38 : decode cX12_income 38 = .ok (.istore 5, 2) := by decide +kernel
theorem dX12_income_40 : decode cX12_income 40 = .ok (.iload 5, 2) := by decide +kernel
theorem dX12_income_42 : decode cX12_income 42 = .ok (.iload_n 3, 1) := by decide +kernel
theorem dX12_income_43 : decode cX12_income 43 = .ok (.if_icmp .gt 21, 3) := by decide +kernel
theorem dX12_income_46 : decode cX12_income 46 = .ok (.iload 4, 2) := by decide +kernel
theorem dX12_income_48 : decode cX12_income 48 = .ok (.aload_n 0, 1) := by decide +kernel
theorem dX12_income_49 : decode cX12_income 49 = .ok (.getfield 164, 3) := by decide +kernel
theorem dX12_income_52 : decode cX12_income 52 = .ok (.iload 5, 2) := by decide +kernel
theorem dX12_income_54 : decode cX12_income 54 = .ok (.iaload, 1) := by decide +kernel
theorem dX12_income_55 : decode cX12_income 55 = .ok (.iadd, 1) := by decide +kernel
theorem dX12_income_56 : decode cX12_income 56 = .ok (.istore 4, 2) := by decide +kernel
theorem dX12_income_58 : decode cX12_income 58 = .ok (.iinc 5 1, 3) := by decide +kernel
theorem dX12_income_61 : decode cX12_income 61 = .ok (.goto (-21), 3) := by decide +kernel
theorem dX12_income_64 : decode cX12_income 64 = .ok (.iload 4, 2) := by decide +kernel
theorem dX12_income_66 : decode cX12_income 66 = .ok (.ireturn, 1) := by decide +kernel
def bX12_income_40   (r40 : Int32 → Int32 → Int32 → Hp → Option (Int32 × Hp)) (x3 : Int32) (x4 : Int32) (x5 : Int32) (h : Hp) : Option (Int32 × Hp) := (if x3 < x5 then some (x4, h) else ck (inb x5 60) (lt (x4 + (h.1 49 (ix x5))) (fun v1 => lt (x5 + 1) (fun v2 => r40 x3 v1 v2 h))))
def lX12_income_40   : Nat → Int32 → Int32 → Int32 → Hp → Option (Int32 × Hp)
  | 0 => fun _ _ _ _ => none
  | n + 1 => bX12_income_40   (lX12_income_40   n)
set_option maxRecDepth 20000 in
theorem BX12_income_40 {Z : ZT} {G : GT} {r : Int32} {hr : Hp} (X : CX Z G cX12_income RX12 6 8) (E : RX Z G (some .int) (some (.int r)) hr) (hz : HZM Z)  (r40 : Int32 → Int32 → Int32 → Hp → Option (Int32 × Hp)) (hr40 : ∀ (x3 : Int32) (x4 : Int32) (x5 : Int32) (h : Hp), r40 x3 x4 x5 h = some (r, hr) → J Z G 6 h 40 [(0, .ref (Z.2.1 0)), (3, .int x3), (4, .int x4), (5, .int x5)] []) (x3 : Int32) (x4 : Int32) (x5 : Int32) (h : Hp) (hF : bX12_income_40   r40 x3 x4 x5 h = some (r, hr)) : J Z G 6 h 40 [(0, .ref (Z.2.1 0)), (3, .int x3), (4, .int x4), (5, .int x5)] [] := by
  unfold bX12_income_40 at hF
  refine j_iload (pc := 40) 3 X dX12_income_40 rfl ?_
  refine j_iload_n (pc := 42) 1 X dX12_income_42 rfl ?_
  refine j_icmp_gt (pc := 43) 64 X dX12_income_43 rfl hF (fun hF => ?_) (fun hF => ?_)
  · refine j_iload (pc := 64) 2 X dX12_income_64 rfl ?_
    exact j_iret (pc := 66) X E dX12_income_66 hF
  · refine j_iload (pc := 46) 2 X dX12_income_46 rfl ?_
    refine j_aload_n (pc := 48) 0 X dX12_income_48 rfl ?_
    refine j_getr (pc := 49) X dX12_income_49 (hz _ sh_0) fl_X12_164 rfl ?_
    refine j_iload (pc := 52) 3 X dX12_income_52 rfl ?_
    refine j_iald (pc := 54) X dX12_income_54 (hz _ sh_49) hF (fun hF => ?_)
    refine j_iadd (pc := 55) X dX12_income_55 ?_
    refine j_istore (pc := 56) (fun y => [(4, .int y), (0, .ref (Z.2.1 0)), (3, .int x3), (5, .int x5)]) X dX12_income_56 (by decide) (fun _ => rfl) hF (fun v1 hF => ?_)
    refine j_iinc (pc := 58) 3 (x5 + 1) (fun y => [(5, .int y), (4, .int v1), (0, .ref (Z.2.1 0)), (3, .int x3)]) X dX12_income_58 rfl rfl (by decide) (fun _ => rfl) hF (fun v2 hF => ?_)
    refine j_goto (pc := 61) 40 X dX12_income_61 rfl ?_
    refine j_lv [(0, .ref (Z.2.1 0)), (3, .int x3), (4, .int v1), (5, .int v2)] [2, 3, 1, 0] rfl ?_
    exact hr40 x3 v1 v2 h hF
theorem LX12_income_40 {Z : ZT} {G : GT} {r : Int32} {hr : Hp} (X : CX Z G cX12_income RX12 6 8) (E : RX Z G (some .int) (some (.int r)) hr) (hz : HZM Z)  : ∀ (n : Nat) (x3 : Int32) (x4 : Int32) (x5 : Int32) (h : Hp), lX12_income_40   n x3 x4 x5 h = some (r, hr) → J Z G 6 h 40 [(0, .ref (Z.2.1 0)), (3, .int x3), (4, .int x4), (5, .int x5)] [] := by
  intro n
  induction n with
  | zero => intro x3 x4 x5 h hF; cases hF
  | succ n ih => intro x3 x4 x5 h hF; exact BX12_income_40 X E hz  (lX12_income_40   n) ih x3 x4 x5 h hF
def fX12_income (a1 : Int32) (a2 : Int32) (a3 : Int32) (h : Hp) : Option (Int32 × Hp) := bi (fX12_isKnown a1 h) (fun w2 h1 => (if w2 = 0 then some ((-1), h1) else bi (fX12_isYear a2 h1) (fun w4 h3 => (if w4 = 0 then some ((-1), h3) else bi (fX12_isYear a3 h3) (fun w6 h5 => (if w6 = 0 then some ((-1), h5) else (if a2 ≤ a3 then bv (fX12_runsAll a1 h5) (fun h7 => lt 0 (fun v8 => lt a2 (fun v9 => lX12_income_40 FU a3 v8 v9 h7))) else some ((-1), h5))))))))
set_option maxRecDepth 20000 in
theorem tX12_income (Z : ZT) (a1 : Int32) (a2 : Int32) (a3 : Int32) (hz : HZM Z) (h : Hp) (r : Int32) (hr : Hp) (hF : fX12_income a1 a2 a3 h = some (r, hr)) : MC Z yX12_income cX12_income 6 (some .int) 8 [.ref (Z.2.1 0), .int a1, .int a2, .int a3] h (some (.int r)) hr := by
  unfold fX12_income at hF
  refine mc_start (by decide) (Nat.le_of_ble_eq_true rfl) (fun G X E => ?_)
  refine j_aload_n (pc := 0) 0 X dX12_income_0 rfl ?_
  refine j_iload_n (pc := 1) 1 X dX12_income_1 rfl ?_
  refine j_cVi (pc := 2) (As := [.int a1]) (rest := []) X dX12_income_2 ml_X12_435 ck_X12_isKnown cv_X12_isKnown (hz _ sh_0) rfl (Nat.le_of_ble_eq_true rfl) rfl (Nat.le_of_ble_eq_true rfl) rfl hF (tX12_isKnown Z a1 hz h) (fun w2 h1 hF => ?_)
  refine j_if_eq (pc := 5) 27 X dX12_income_5 rfl hF (fun hF => ?_) (fun hF => ?_)
  · refine j_iconst (pc := 27) (-1) X dX12_income_27 rfl ?_
    exact j_iret (pc := 28) X E dX12_income_28 hF
  · refine j_iload_n (pc := 8) 2 X dX12_income_8 rfl ?_
    refine j_cSi (pc := 9) (As := [.int a2]) (rest := []) X dX12_income_9 ml_X12_412 ck_X12_isYear sk_X12_isYear (Nat.le_of_ble_eq_true rfl) rfl (Nat.le_of_ble_eq_true rfl) rfl hF (tX12_isYear Z a2 trivial h1) (fun w4 h3 hF => ?_)
    refine j_if_eq (pc := 12) 27 X dX12_income_12 rfl hF (fun hF => ?_) (fun hF => ?_)
    · refine j_iconst (pc := 27) (-1) X dX12_income_27 rfl ?_
      exact j_iret (pc := 28) X E dX12_income_28 hF
    · refine j_iload_n (pc := 15) 3 X dX12_income_15 rfl ?_
      refine j_cSi (pc := 16) (As := [.int a3]) (rest := []) X dX12_income_16 ml_X12_412 ck_X12_isYear sk_X12_isYear (Nat.le_of_ble_eq_true rfl) rfl (Nat.le_of_ble_eq_true rfl) rfl hF (tX12_isYear Z a3 trivial h3) (fun w6 h5 hF => ?_)
      refine j_if_eq (pc := 19) 27 X dX12_income_19 rfl hF (fun hF => ?_) (fun hF => ?_)
      · refine j_iconst (pc := 27) (-1) X dX12_income_27 rfl ?_
        exact j_iret (pc := 28) X E dX12_income_28 hF
      · refine j_iload_n (pc := 22) 3 X dX12_income_22 rfl ?_
        refine j_iload_n (pc := 23) 2 X dX12_income_23 rfl ?_
        refine j_icmp_ge (pc := 24) 29 X dX12_income_24 rfl hF (fun hF => ?_) (fun hF => ?_)
        · refine j_aload_n (pc := 29) 0 X dX12_income_29 rfl ?_
          refine j_iload_n (pc := 30) 1 X dX12_income_30 rfl ?_
          refine j_cVv (pc := 31) (As := [.int a1]) (rest := []) X dX12_income_31 ml_X12_486 ck_X12_runsAll cv_X12_runsAll (hz _ sh_0) rfl (Nat.le_of_ble_eq_true rfl) rfl (Nat.le_of_ble_eq_true rfl) rfl hF (tX12_runsAll Z a1 hz h5) (fun h7 hF => ?_)
          refine j_iconst (pc := 34) 0 X dX12_income_34 rfl ?_
          refine j_istore (pc := 35) (fun y => [(4, .int y), (0, .ref (Z.2.1 0)), (1, .int a1), (2, .int a2), (3, .int a3)]) X dX12_income_35 (by decide) (fun _ => rfl) hF (fun v8 hF => ?_)
          refine j_iload_n (pc := 37) 3 X dX12_income_37 rfl ?_
          refine j_istore (pc := 38) (fun y => [(5, .int y), (4, .int v8), (0, .ref (Z.2.1 0)), (1, .int a1), (2, .int a2), (3, .int a3)]) X dX12_income_38 (by decide) (fun _ => rfl) hF (fun v9 hF => ?_)
          refine j_lv [(0, .ref (Z.2.1 0)), (3, .int a3), (4, .int v8), (5, .int v9)] [2, 5, 1, 0] rfl ?_
          exact LX12_income_40 X E hz FU a3 v8 v9 h7 hF
        · refine j_iconst (pc := 27) (-1) X dX12_income_27 rfl ?_
          exact j_iret (pc := 28) X E dX12_income_28 hF
theorem dX12_next_0 : decode cX12_next 0 = .ok (.iload_n 1, 1) := by decide +kernel
theorem dX12_next_1 : decode cX12_next 1 = .ok (.invokestatic 412, 3) := by decide +kernel
theorem dX12_next_4 : decode cX12_next 4 = .ok (.ifCond .eq 11, 3) := by decide +kernel
theorem dX12_next_7 : decode cX12_next 7 = .ok (.aload_n 0, 1) := by decide +kernel
theorem dX12_next_8 : decode cX12_next 8 = .ok (.iload_n 2, 1) := by decide +kernel
theorem dX12_next_9 : decode cX12_next 9 = .ok (.invokevirtual 435, 3) := by decide +kernel
theorem dX12_next_12 : decode cX12_next 12 = .ok (.ifCond .ne 5, 3) := by decide +kernel
theorem dX12_next_15 : decode cX12_next 15 = .ok (.iconst (-1), 1) := by decide +kernel
theorem dX12_next_16 : decode cX12_next 16 = .ok (.ireturn, 1) := by decide +kernel
theorem dX12_next_17 : decode cX12_next 17 = .ok (.aload_n 0, 1) := by decide +kernel
theorem dX12_next_18 : decode cX12_next 18 = .ok (.iload_n 2, 1) := by decide +kernel
theorem dX12_next_19 : decode cX12_next 19 = .ok (.invokevirtual 486, 3) := by decide +kernel
theorem dX12_next_22 : decode cX12_next 22 = .ok (.bipush (-2), 2) := by decide +kernel
theorem dX12_next_24 : decode cX12_next 24 = .ok (.istore_n 3, 1) := by decide +kernel
theorem dX12_next_25 : decode cX12_next 25 = .ok (.iconst 0, 1) := by decide +kernel
theorem dX12_next_26 : decode cX12_next 26 = .ok (.istore 4, 2) := by decide +kernel
theorem dX12_next_28 : decode cX12_next 28 = .ok (.iload 4, 2) := by decide +kernel
theorem dX12_next_30 : decode cX12_next 30 = .ok (.aload_n 0, 1) := by decide +kernel
theorem dX12_next_31 : decode cX12_next 31 = .ok (.getfield 67, 3) := by decide +kernel
theorem dX12_next_34 : decode cX12_next 34 = .ok (.aload_n 0, 1) := by decide +kernel
theorem dX12_next_35 : decode cX12_next 35 = .ok (.getfield 284, 3) := by decide +kernel
theorem dX12_next_38 : decode cX12_next 38 = .ok (.iaload, 1) := by decide +kernel
theorem dX12_next_39 : decode cX12_next 39 = .ok (.if_icmp .ge 54, 3) := by decide +kernel
theorem dX12_next_42 : decode cX12_next 42 = .ok (.aload_n 0, 1) := by decide +kernel
theorem dX12_next_43 : decode cX12_next 43 = .ok (.getfield 149, 3) := by decide +kernel
theorem dX12_next_46 : decode cX12_next 46 = .ok (.iload 4, 2) := by decide +kernel
theorem dX12_next_48 : decode cX12_next 48 = .ok (.iaload, 1) := by decide +kernel
theorem dX12_next_49 : decode cX12_next 49 = .ok (.iconst 1, 1) := by decide +kernel
theorem dX12_next_50 : decode cX12_next 50 = .ok (.if_icmp .ne 37, 3) := by decide +kernel
theorem dX12_next_53 : decode cX12_next 53 = .ok (.aload_n 0, 1) := by decide +kernel
theorem dX12_next_54 : decode cX12_next 54 = .ok (.getfield 152, 3) := by decide +kernel
theorem dX12_next_57 : decode cX12_next 57 = .ok (.iload 4, 2) := by decide +kernel
theorem dX12_next_59 : decode cX12_next 59 = .ok (.iaload, 1) := by decide +kernel
theorem dX12_next_60 : decode cX12_next 60 = .ok (.iload_n 1, 1) := by decide +kernel
theorem dX12_next_61 : decode cX12_next 61 = .ok (.if_icmp .le 26, 3) := by decide +kernel
theorem dX12_next_64 : decode cX12_next 64 = .ok (.iload_n 3, 1) := by decide +kernel
theorem dX12_next_65 : decode cX12_next 65 = .ok (.ifCond .lt 14, 3) := by decide +kernel
theorem dX12_next_68 : decode cX12_next 68 = .ok (.aload_n 0, 1) := by decide +kernel
theorem dX12_next_69 : decode cX12_next 69 = .ok (.getfield 152, 3) := by decide +kernel
theorem dX12_next_72 : decode cX12_next 72 = .ok (.iload 4, 2) := by decide +kernel
theorem dX12_next_74 : decode cX12_next 74 = .ok (.iaload, 1) := by decide +kernel
theorem dX12_next_75 : decode cX12_next 75 = .ok (.iload_n 3, 1) := by decide +kernel
theorem dX12_next_76 : decode cX12_next 76 = .ok (.if_icmp .ge 11, 3) := by decide +kernel
theorem dX12_next_79 : decode cX12_next 79 = .ok (.aload_n 0, 1) := by decide +kernel
theorem dX12_next_80 : decode cX12_next 80 = .ok (.getfield 152, 3) := by decide +kernel
theorem dX12_next_83 : decode cX12_next 83 = .ok (.iload 4, 2) := by decide +kernel
theorem dX12_next_85 : decode cX12_next 85 = .ok (.iaload, 1) := by decide +kernel
theorem dX12_next_86 : decode cX12_next 86 = .ok (.istore_n 3, 1) := by decide +kernel
theorem dX12_next_87 : decode cX12_next 87 = .ok (.iinc 4 1, 3) := by decide +kernel
theorem dX12_next_90 : decode cX12_next 90 = .ok (.goto (-62), 3) := by decide +kernel
theorem dX12_next_93 : decode cX12_next 93 = .ok (.iload_n 3, 1) := by decide +kernel
theorem dX12_next_94 : decode cX12_next 94 = .ok (.ireturn, 1) := by decide +kernel
def bX12_next_87  (r28 : Int32 → Int32 → Int32 → Hp → Option (Int32 × Hp)) (x1 : Int32) (x3 : Int32) (x4 : Int32) (h : Hp) : Option (Int32 × Hp) := lt (x4 + 1) (fun v1 => r28 x1 x3 v1 h)
set_option maxRecDepth 20000 in
theorem BX12_next_87 {Z : ZT} {G : GT} {r : Int32} {hr : Hp} (X : CX Z G cX12_next RX12 5 8) (E : RX Z G (some .int) (some (.int r)) hr) (hz : HZM Z) (r28 : Int32 → Int32 → Int32 → Hp → Option (Int32 × Hp)) (hr28 : ∀ (x1 : Int32) (x3 : Int32) (x4 : Int32) (h : Hp), r28 x1 x3 x4 h = some (r, hr) → J Z G 5 h 28 [(0, .ref (Z.2.1 0)), (1, .int x1), (3, .int x3), (4, .int x4)] []) (x1 : Int32) (x3 : Int32) (x4 : Int32) (h : Hp) (hF : bX12_next_87  r28 x1 x3 x4 h = some (r, hr)) : J Z G 5 h 87 [(0, .ref (Z.2.1 0)), (1, .int x1), (3, .int x3), (4, .int x4)] [] := by
  unfold bX12_next_87 at hF
  refine j_iinc (pc := 87) 3 (x4 + 1) (fun y => [(4, .int y), (0, .ref (Z.2.1 0)), (1, .int x1), (3, .int x3)]) X dX12_next_87 rfl rfl (by decide) (fun _ => rfl) hF (fun v1 hF => ?_)
  refine j_goto (pc := 90) 28 X dX12_next_90 rfl ?_
  refine j_lv [(0, .ref (Z.2.1 0)), (1, .int x1), (3, .int x3), (4, .int v1)] [1, 2, 3, 0] rfl ?_
  exact hr28 x1 x3 v1 h hF
def bX12_next_79  (r28 : Int32 → Int32 → Int32 → Hp → Option (Int32 × Hp)) (x1 : Int32) (x4 : Int32) (h : Hp) : Option (Int32 × Hp) := ck (inb x4 10) (lt (h.1 45 (ix x4)) (fun v1 => bX12_next_87 r28 x1 v1 x4 h))
set_option maxRecDepth 20000 in
theorem BX12_next_79 {Z : ZT} {G : GT} {r : Int32} {hr : Hp} (X : CX Z G cX12_next RX12 5 8) (E : RX Z G (some .int) (some (.int r)) hr) (hz : HZM Z) (r28 : Int32 → Int32 → Int32 → Hp → Option (Int32 × Hp)) (hr28 : ∀ (x1 : Int32) (x3 : Int32) (x4 : Int32) (h : Hp), r28 x1 x3 x4 h = some (r, hr) → J Z G 5 h 28 [(0, .ref (Z.2.1 0)), (1, .int x1), (3, .int x3), (4, .int x4)] []) (x1 : Int32) (x4 : Int32) (h : Hp) (hF : bX12_next_79  r28 x1 x4 h = some (r, hr)) : J Z G 5 h 79 [(0, .ref (Z.2.1 0)), (1, .int x1), (4, .int x4)] [] := by
  unfold bX12_next_79 at hF
  refine j_aload_n (pc := 79) 0 X dX12_next_79 rfl ?_
  refine j_getr (pc := 80) X dX12_next_80 (hz _ sh_0) fl_X12_152 rfl ?_
  refine j_iload (pc := 83) 2 X dX12_next_83 rfl ?_
  refine j_iald (pc := 85) X dX12_next_85 (hz _ sh_45) hF (fun hF => ?_)
  refine j_istore_n (pc := 86) (fun y => [(3, .int y), (0, .ref (Z.2.1 0)), (1, .int x1), (4, .int x4)]) X dX12_next_86 (by decide) (fun _ => rfl) hF (fun v1 hF => ?_)
  refine j_lv [(0, .ref (Z.2.1 0)), (1, .int x1), (3, .int v1), (4, .int x4)] [1, 2, 0, 3] rfl ?_
  exact BX12_next_87 X E hz r28 hr28 x1 v1 x4 h hF
def bX12_next_28   (r28 : Int32 → Int32 → Int32 → Hp → Option (Int32 × Hp)) (x1 : Int32) (x3 : Int32) (x4 : Int32) (h : Hp) : Option (Int32 × Hp) := ck (inb (h.1 0 18) 2) ((if (h.1 17 (ix (h.1 0 18))) ≤ x4 then some (x3, h) else ck (inb x4 10) ((if (h.1 44 (ix x4)) = 1 then ck (inb x4 10) ((if (h.1 45 (ix x4)) ≤ x1 then bX12_next_87 r28 x1 x3 x4 h else (if x3 < 0 then bX12_next_79 r28 x1 x4 h else ck (inb x4 10) ((if x3 ≤ (h.1 45 (ix x4)) then bX12_next_87 r28 x1 x3 x4 h else bX12_next_79 r28 x1 x4 h))))) else bX12_next_87 r28 x1 x3 x4 h))))
def lX12_next_28   : Nat → Int32 → Int32 → Int32 → Hp → Option (Int32 × Hp)
  | 0 => fun _ _ _ _ => none
  | n + 1 => bX12_next_28   (lX12_next_28   n)
set_option maxRecDepth 20000 in
theorem BX12_next_28 {Z : ZT} {G : GT} {r : Int32} {hr : Hp} (X : CX Z G cX12_next RX12 5 8) (E : RX Z G (some .int) (some (.int r)) hr) (hz : HZM Z)  (r28 : Int32 → Int32 → Int32 → Hp → Option (Int32 × Hp)) (hr28 : ∀ (x1 : Int32) (x3 : Int32) (x4 : Int32) (h : Hp), r28 x1 x3 x4 h = some (r, hr) → J Z G 5 h 28 [(0, .ref (Z.2.1 0)), (1, .int x1), (3, .int x3), (4, .int x4)] []) (x1 : Int32) (x3 : Int32) (x4 : Int32) (h : Hp) (hF : bX12_next_28   r28 x1 x3 x4 h = some (r, hr)) : J Z G 5 h 28 [(0, .ref (Z.2.1 0)), (1, .int x1), (3, .int x3), (4, .int x4)] [] := by
  unfold bX12_next_28 at hF
  refine j_iload (pc := 28) 3 X dX12_next_28 rfl ?_
  refine j_aload_n (pc := 30) 0 X dX12_next_30 rfl ?_
  refine j_getr (pc := 31) X dX12_next_31 (hz _ sh_0) fl_X12_67 rfl ?_
  refine j_aload_n (pc := 34) 0 X dX12_next_34 rfl ?_
  refine j_geti (pc := 35) X dX12_next_35 (hz _ sh_0) fl_X12_284 rfl ?_
  refine j_iald (pc := 38) X dX12_next_38 (hz _ sh_17) hF (fun hF => ?_)
  refine j_icmp_ge (pc := 39) 93 X dX12_next_39 rfl hF (fun hF => ?_) (fun hF => ?_)
  · refine j_iload_n (pc := 93) 2 X dX12_next_93 rfl ?_
    exact j_iret (pc := 94) X E dX12_next_94 hF
  · refine j_aload_n (pc := 42) 0 X dX12_next_42 rfl ?_
    refine j_getr (pc := 43) X dX12_next_43 (hz _ sh_0) fl_X12_149 rfl ?_
    refine j_iload (pc := 46) 3 X dX12_next_46 rfl ?_
    refine j_iald (pc := 48) X dX12_next_48 (hz _ sh_44) hF (fun hF => ?_)
    refine j_iconst (pc := 49) 1 X dX12_next_49 rfl ?_
    refine j_icmp_ne (pc := 50) 87 X dX12_next_50 rfl hF (fun hF => ?_) (fun hF => ?_)
    · exact BX12_next_87 X E hz r28 hr28 x1 x3 x4 h hF
    · refine j_aload_n (pc := 53) 0 X dX12_next_53 rfl ?_
      refine j_getr (pc := 54) X dX12_next_54 (hz _ sh_0) fl_X12_152 rfl ?_
      refine j_iload (pc := 57) 3 X dX12_next_57 rfl ?_
      refine j_iald (pc := 59) X dX12_next_59 (hz _ sh_45) hF (fun hF => ?_)
      refine j_iload_n (pc := 60) 1 X dX12_next_60 rfl ?_
      refine j_icmp_le (pc := 61) 87 X dX12_next_61 rfl hF (fun hF => ?_) (fun hF => ?_)
      · exact BX12_next_87 X E hz r28 hr28 x1 x3 x4 h hF
      · refine j_iload_n (pc := 64) 2 X dX12_next_64 rfl ?_
        refine j_if_lt (pc := 65) 79 X dX12_next_65 rfl hF (fun hF => ?_) (fun hF => ?_)
        · refine j_lv [(0, .ref (Z.2.1 0)), (1, .int x1), (4, .int x4)] [0, 1, 3] rfl ?_
          exact BX12_next_79 X E hz r28 hr28 x1 x4 h hF
        · refine j_aload_n (pc := 68) 0 X dX12_next_68 rfl ?_
          refine j_getr (pc := 69) X dX12_next_69 (hz _ sh_0) fl_X12_152 rfl ?_
          refine j_iload (pc := 72) 3 X dX12_next_72 rfl ?_
          refine j_iald (pc := 74) X dX12_next_74 (hz _ sh_45) hF (fun hF => ?_)
          refine j_iload_n (pc := 75) 2 X dX12_next_75 rfl ?_
          refine j_icmp_ge (pc := 76) 87 X dX12_next_76 rfl hF (fun hF => ?_) (fun hF => ?_)
          · exact BX12_next_87 X E hz r28 hr28 x1 x3 x4 h hF
          · refine j_lv [(0, .ref (Z.2.1 0)), (1, .int x1), (4, .int x4)] [0, 1, 3] rfl ?_
            exact BX12_next_79 X E hz r28 hr28 x1 x4 h hF
theorem LX12_next_28 {Z : ZT} {G : GT} {r : Int32} {hr : Hp} (X : CX Z G cX12_next RX12 5 8) (E : RX Z G (some .int) (some (.int r)) hr) (hz : HZM Z)  : ∀ (n : Nat) (x1 : Int32) (x3 : Int32) (x4 : Int32) (h : Hp), lX12_next_28   n x1 x3 x4 h = some (r, hr) → J Z G 5 h 28 [(0, .ref (Z.2.1 0)), (1, .int x1), (3, .int x3), (4, .int x4)] [] := by
  intro n
  induction n with
  | zero => intro x1 x3 x4 h hF; cases hF
  | succ n ih => intro x1 x3 x4 h hF; exact BX12_next_28 X E hz  (lX12_next_28   n) ih x1 x3 x4 h hF
def fX12_next (a1 : Int32) (a2 : Int32) (h : Hp) : Option (Int32 × Hp) := bi (fX12_isYear a1 h) (fun w2 h1 => (if w2 = 0 then some ((-1), h1) else bi (fX12_isKnown a2 h1) (fun w4 h3 => (if w4 = 0 then some ((-1), h3) else bv (fX12_runsAll a2 h3) (fun h5 => lt (-2) (fun v6 => lt 0 (fun v7 => lX12_next_28 FU a1 v6 v7 h5)))))))
set_option maxRecDepth 20000 in
theorem tX12_next (Z : ZT) (a1 : Int32) (a2 : Int32) (hz : HZM Z) (h : Hp) (r : Int32) (hr : Hp) (hF : fX12_next a1 a2 h = some (r, hr)) : MC Z yX12_next cX12_next 5 (some .int) 8 [.ref (Z.2.1 0), .int a1, .int a2] h (some (.int r)) hr := by
  unfold fX12_next at hF
  refine mc_start (by decide) (Nat.le_of_ble_eq_true rfl) (fun G X E => ?_)
  refine j_iload_n (pc := 0) 1 X dX12_next_0 rfl ?_
  refine j_cSi (pc := 1) (As := [.int a1]) (rest := []) X dX12_next_1 ml_X12_412 ck_X12_isYear sk_X12_isYear (Nat.le_of_ble_eq_true rfl) rfl (Nat.le_of_ble_eq_true rfl) rfl hF (tX12_isYear Z a1 trivial h) (fun w2 h1 hF => ?_)
  refine j_if_eq (pc := 4) 15 X dX12_next_4 rfl hF (fun hF => ?_) (fun hF => ?_)
  · refine j_iconst (pc := 15) (-1) X dX12_next_15 rfl ?_
    exact j_iret (pc := 16) X E dX12_next_16 hF
  · refine j_aload_n (pc := 7) 0 X dX12_next_7 rfl ?_
    refine j_iload_n (pc := 8) 2 X dX12_next_8 rfl ?_
    refine j_cVi (pc := 9) (As := [.int a2]) (rest := []) X dX12_next_9 ml_X12_435 ck_X12_isKnown cv_X12_isKnown (hz _ sh_0) rfl (Nat.le_of_ble_eq_true rfl) rfl (Nat.le_of_ble_eq_true rfl) rfl hF (tX12_isKnown Z a2 hz h1) (fun w4 h3 hF => ?_)
    refine j_if_ne (pc := 12) 17 X dX12_next_12 rfl hF (fun hF => ?_) (fun hF => ?_)
    · refine j_aload_n (pc := 17) 0 X dX12_next_17 rfl ?_
      refine j_iload_n (pc := 18) 2 X dX12_next_18 rfl ?_
      refine j_cVv (pc := 19) (As := [.int a2]) (rest := []) X dX12_next_19 ml_X12_486 ck_X12_runsAll cv_X12_runsAll (hz _ sh_0) rfl (Nat.le_of_ble_eq_true rfl) rfl (Nat.le_of_ble_eq_true rfl) rfl hF (tX12_runsAll Z a2 hz h3) (fun h5 hF => ?_)
      refine j_bipush (pc := 22) (-2) X dX12_next_22 rfl ?_
      refine j_istore_n (pc := 24) (fun y => [(3, .int y), (0, .ref (Z.2.1 0)), (1, .int a1), (2, .int a2)]) X dX12_next_24 (by decide) (fun _ => rfl) hF (fun v6 hF => ?_)
      refine j_iconst (pc := 25) 0 X dX12_next_25 rfl ?_
      refine j_istore (pc := 26) (fun y => [(4, .int y), (3, .int v6), (0, .ref (Z.2.1 0)), (1, .int a1), (2, .int a2)]) X dX12_next_26 (by decide) (fun _ => rfl) hF (fun v7 hF => ?_)
      refine j_lv [(0, .ref (Z.2.1 0)), (1, .int a1), (3, .int v6), (4, .int v7)] [2, 3, 1, 0] rfl ?_
      exact LX12_next_28 X E hz FU a1 v6 v7 h5 hF
    · refine j_iconst (pc := 15) (-1) X dX12_next_15 rfl ?_
      exact j_iret (pc := 16) X E dX12_next_16 hF
theorem dX12_asksOf_0 : decode cX12_asksOf 0 = .ok (.iconst 0, 1) := by decide +kernel
theorem dX12_asksOf_1 : decode cX12_asksOf 1 = .ok (.istore_n 2, 1) := by decide +kernel
theorem dX12_asksOf_2 : decode cX12_asksOf 2 = .ok (.aload_n 0, 1) := by decide +kernel
theorem dX12_asksOf_3 : decode cX12_asksOf 3 = .ok (.getfield 85, 3) := by decide +kernel
theorem dX12_asksOf_6 : decode cX12_asksOf 6 = .ok (.bipush 10, 2) := by decide +kernel
theorem dX12_asksOf_8 : decode cX12_asksOf 8 = .ok (.aload_n 0, 1) := by decide +kernel
theorem dX12_asksOf_9 : decode cX12_asksOf 9 = .ok (.getfield 284, 3) := by decide +kernel
theorem dX12_asksOf_12 : decode cX12_asksOf 12 = .ok (.imul, 1) := by decide +kernel
theorem dX12_asksOf_13 : decode cX12_asksOf 13 = .ok (.iload_n 1, 1) := by decide +kernel
theorem dX12_asksOf_14 : decode cX12_asksOf 14 = .ok (.iadd, 1) := by decide +kernel
theorem dX12_asksOf_15 : decode cX12_asksOf 15 = .ok (.iaload, 1) := by decide +kernel
theorem dX12_asksOf_16 : decode cX12_asksOf 16 = .ok (.istore_n 3, 1) := by decide +kernel
theorem dX12_asksOf_17 : decode cX12_asksOf 17 = .ok (.iload_n 3, 1) := by decide +kernel
theorem dX12_asksOf_18 : decode cX12_asksOf 18 = .ok (.aload_n 0, 1) := by decide +kernel
theorem dX12_asksOf_19 : decode cX12_asksOf 19 = .ok (.getfield 88, 3) := by decide +kernel
theorem dX12_asksOf_22 : decode cX12_asksOf 22 = .ok (.bipush 10, 2) := by decide +kernel
theorem dX12_asksOf_24 : decode cX12_asksOf 24 = .ok (.aload_n 0, 1) := by decide +kernel
theorem dX12_asksOf_25 : decode cX12_asksOf 25 = .ok (.getfield 284, 3) := by decide +kernel
theorem dX12_asksOf_28 : decode cX12_asksOf 28 = .ok (.imul, 1) := by decide +kernel
theorem dX12_asksOf_29 : decode cX12_asksOf 29 = .ok (.iload_n 1, 1) := by decide +kernel
theorem dX12_asksOf_30 : decode cX12_asksOf 30 = .ok (.iadd, 1) := by decide +kernel
theorem dX12_asksOf_31 : decode cX12_asksOf 31 = .ok (.iaload, 1) := by decide +kernel
theorem dX12_asksOf_32 : decode cX12_asksOf 32 = .ok (.if_icmp .ge 30, 3) := by decide +kernel
theorem dX12_asksOf_35 : decode cX12_asksOf 35 = .ok (.aload_n 0, 1) := by decide +kernel
theorem dX12_asksOf_36 : decode cX12_asksOf 36 = .ok (.getfield 104, 3) := by decide +kernel
theorem dX12_asksOf_39 : decode cX12_asksOf 39 = .ok (.iload_n 3, 1) := by decide +kernel
theorem dX12_asksOf_40 : decode cX12_asksOf 40 = .ok (.iaload, 1) := by decide +kernel
theorem dX12_asksOf_41 : decode cX12_asksOf 41 = .ok (.iconst 5, 1) := by decide +kernel
theorem dX12_asksOf_42 : decode cX12_asksOf 42 = .ok (.if_icmp .ne 14, 3) := by decide +kernel
theorem dX12_asksOf_45 : decode cX12_asksOf 45 = .ok (.iload_n 2, 1) := by decide +kernel
theorem dX12_asksOf_46 : decode cX12_asksOf 46 = .ok (.iconst 1, 1) := by decide +kernel
theorem dX12_asksOf_47 : decode cX12_asksOf 47 = .ok (.aload_n 0, 1) := by decide +kernel
theorem dX12_asksOf_48 : decode cX12_asksOf 48 = .ok (.getfield 113, 3) := by decide +kernel
theorem dX12_asksOf_51 : decode cX12_asksOf 51 = .ok (.iload_n 3, 1) := by decide +kernel
theorem dX12_asksOf_52 : decode cX12_asksOf 52 = .ok (.iaload, 1) := by decide +kernel
theorem dX12_asksOf_53 : decode cX12_asksOf 53 = .ok (.ishl, 1) := by decide +kernel
theorem dX12_asksOf_54 : decode cX12_asksOf 54 = .ok (.ior, 1) := by decide +kernel
theorem dX12_asksOf_55 : decode cX12_asksOf 55 = .ok (.istore_n 2, 1) := by decide +kernel
theorem dX12_asksOf_56 : decode cX12_asksOf 56 = .ok (.iinc 3 1, 3) := by decide +kernel
theorem dX12_asksOf_59 : decode cX12_asksOf 59 = .ok (.goto (-42), 3) := by decide +kernel
theorem dX12_asksOf_62 : decode cX12_asksOf 62 = .ok (.iload_n 2, 1) := by decide +kernel
theorem dX12_asksOf_63 : decode cX12_asksOf 63 = .ok (.ireturn, 1) := by decide +kernel
def bX12_asksOf_56  (r17 : Int32 → Int32 → Int32 → Hp → Option (Int32 × Hp)) (x1 : Int32) (x2 : Int32) (x3 : Int32) (h : Hp) : Option (Int32 × Hp) := lt (x3 + 1) (fun v1 => r17 x1 x2 v1 h)
set_option maxRecDepth 20000 in
theorem BX12_asksOf_56 {Z : ZT} {G : GT} {r : Int32} {hr : Hp} (X : CX Z G cX12_asksOf RX12 4 0) (E : RX Z G (some .int) (some (.int r)) hr) (hz : HZM Z) (r17 : Int32 → Int32 → Int32 → Hp → Option (Int32 × Hp)) (hr17 : ∀ (x1 : Int32) (x2 : Int32) (x3 : Int32) (h : Hp), r17 x1 x2 x3 h = some (r, hr) → J Z G 4 h 17 [(0, .ref (Z.2.1 0)), (1, .int x1), (2, .int x2), (3, .int x3)] []) (x1 : Int32) (x2 : Int32) (x3 : Int32) (h : Hp) (hF : bX12_asksOf_56  r17 x1 x2 x3 h = some (r, hr)) : J Z G 4 h 56 [(0, .ref (Z.2.1 0)), (1, .int x1), (2, .int x2), (3, .int x3)] [] := by
  unfold bX12_asksOf_56 at hF
  refine j_iinc (pc := 56) 3 (x3 + 1) (fun y => [(3, .int y), (0, .ref (Z.2.1 0)), (1, .int x1), (2, .int x2)]) X dX12_asksOf_56 rfl rfl (by decide) (fun _ => rfl) hF (fun v1 hF => ?_)
  refine j_goto (pc := 59) 17 X dX12_asksOf_59 rfl ?_
  refine j_lv [(0, .ref (Z.2.1 0)), (1, .int x1), (2, .int x2), (3, .int v1)] [1, 2, 3, 0] rfl ?_
  exact hr17 x1 x2 v1 h hF
def bX12_asksOf_17   (r17 : Int32 → Int32 → Int32 → Hp → Option (Int32 × Hp)) (x1 : Int32) (x2 : Int32) (x3 : Int32) (h : Hp) : Option (Int32 × Hp) := ck (inb (((10 : Int32) * (h.1 0 18)) + x1) 20) ((if (h.1 24 (ix (((10 : Int32) * (h.1 0 18)) + x1))) ≤ x3 then some (x2, h) else ck (inb x3 300) ((if (h.1 29 (ix x3)) = 5 then ck (inb x3 300) (lt (x2 ||| ((1 : Int32) <<< ((h.1 32 (ix x3)) &&& 31))) (fun v1 => bX12_asksOf_56 r17 x1 v1 x3 h)) else bX12_asksOf_56 r17 x1 x2 x3 h))))
def lX12_asksOf_17   : Nat → Int32 → Int32 → Int32 → Hp → Option (Int32 × Hp)
  | 0 => fun _ _ _ _ => none
  | n + 1 => bX12_asksOf_17   (lX12_asksOf_17   n)
set_option maxRecDepth 20000 in
theorem BX12_asksOf_17 {Z : ZT} {G : GT} {r : Int32} {hr : Hp} (X : CX Z G cX12_asksOf RX12 4 0) (E : RX Z G (some .int) (some (.int r)) hr) (hz : HZM Z)  (r17 : Int32 → Int32 → Int32 → Hp → Option (Int32 × Hp)) (hr17 : ∀ (x1 : Int32) (x2 : Int32) (x3 : Int32) (h : Hp), r17 x1 x2 x3 h = some (r, hr) → J Z G 4 h 17 [(0, .ref (Z.2.1 0)), (1, .int x1), (2, .int x2), (3, .int x3)] []) (x1 : Int32) (x2 : Int32) (x3 : Int32) (h : Hp) (hF : bX12_asksOf_17   r17 x1 x2 x3 h = some (r, hr)) : J Z G 4 h 17 [(0, .ref (Z.2.1 0)), (1, .int x1), (2, .int x2), (3, .int x3)] [] := by
  unfold bX12_asksOf_17 at hF
  refine j_iload_n (pc := 17) 3 X dX12_asksOf_17 rfl ?_
  refine j_aload_n (pc := 18) 0 X dX12_asksOf_18 rfl ?_
  refine j_getr (pc := 19) X dX12_asksOf_19 (hz _ sh_0) fl_X12_88 rfl ?_
  refine j_bipush (pc := 22) 10 X dX12_asksOf_22 rfl ?_
  refine j_aload_n (pc := 24) 0 X dX12_asksOf_24 rfl ?_
  refine j_geti (pc := 25) X dX12_asksOf_25 (hz _ sh_0) fl_X12_284 rfl ?_
  refine j_imul (pc := 28) X dX12_asksOf_28 ?_
  refine j_iload_n (pc := 29) 1 X dX12_asksOf_29 rfl ?_
  refine j_iadd (pc := 30) X dX12_asksOf_30 ?_
  refine j_iald (pc := 31) X dX12_asksOf_31 (hz _ sh_24) hF (fun hF => ?_)
  refine j_icmp_ge (pc := 32) 62 X dX12_asksOf_32 rfl hF (fun hF => ?_) (fun hF => ?_)
  · refine j_iload_n (pc := 62) 2 X dX12_asksOf_62 rfl ?_
    exact j_iret (pc := 63) X E dX12_asksOf_63 hF
  · refine j_aload_n (pc := 35) 0 X dX12_asksOf_35 rfl ?_
    refine j_getr (pc := 36) X dX12_asksOf_36 (hz _ sh_0) fl_X12_104 rfl ?_
    refine j_iload_n (pc := 39) 3 X dX12_asksOf_39 rfl ?_
    refine j_iald (pc := 40) X dX12_asksOf_40 (hz _ sh_29) hF (fun hF => ?_)
    refine j_iconst (pc := 41) 5 X dX12_asksOf_41 rfl ?_
    refine j_icmp_ne (pc := 42) 56 X dX12_asksOf_42 rfl hF (fun hF => ?_) (fun hF => ?_)
    · exact BX12_asksOf_56 X E hz r17 hr17 x1 x2 x3 h hF
    · refine j_iload_n (pc := 45) 2 X dX12_asksOf_45 rfl ?_
      refine j_iconst (pc := 46) 1 X dX12_asksOf_46 rfl ?_
      refine j_aload_n (pc := 47) 0 X dX12_asksOf_47 rfl ?_
      refine j_getr (pc := 48) X dX12_asksOf_48 (hz _ sh_0) fl_X12_113 rfl ?_
      refine j_iload_n (pc := 51) 3 X dX12_asksOf_51 rfl ?_
      refine j_iald (pc := 52) X dX12_asksOf_52 (hz _ sh_32) hF (fun hF => ?_)
      refine j_ishl (pc := 53) X dX12_asksOf_53 ?_
      refine j_ior (pc := 54) X dX12_asksOf_54 ?_
      refine j_istore_n (pc := 55) (fun y => [(2, .int y), (0, .ref (Z.2.1 0)), (1, .int x1), (3, .int x3)]) X dX12_asksOf_55 (by decide) (fun _ => rfl) hF (fun v1 hF => ?_)
      refine j_lv [(0, .ref (Z.2.1 0)), (1, .int x1), (2, .int v1), (3, .int x3)] [1, 2, 0, 3] rfl ?_
      exact BX12_asksOf_56 X E hz r17 hr17 x1 v1 x3 h hF
theorem LX12_asksOf_17 {Z : ZT} {G : GT} {r : Int32} {hr : Hp} (X : CX Z G cX12_asksOf RX12 4 0) (E : RX Z G (some .int) (some (.int r)) hr) (hz : HZM Z)  : ∀ (n : Nat) (x1 : Int32) (x2 : Int32) (x3 : Int32) (h : Hp), lX12_asksOf_17   n x1 x2 x3 h = some (r, hr) → J Z G 4 h 17 [(0, .ref (Z.2.1 0)), (1, .int x1), (2, .int x2), (3, .int x3)] [] := by
  intro n
  induction n with
  | zero => intro x1 x2 x3 h hF; cases hF
  | succ n ih => intro x1 x2 x3 h hF; exact BX12_asksOf_17 X E hz  (lX12_asksOf_17   n) ih x1 x2 x3 h hF
def fX12_asksOf (a1 : Int32) (h : Hp) : Option (Int32 × Hp) := lt 0 (fun v1 => ck (inb (((10 : Int32) * (h.1 0 18)) + a1) 20) (lt (h.1 23 (ix (((10 : Int32) * (h.1 0 18)) + a1))) (fun v2 => lX12_asksOf_17 FU a1 v1 v2 h)))
set_option maxRecDepth 20000 in
theorem tX12_asksOf (Z : ZT) (a1 : Int32) (hz : HZM Z) (h : Hp) (r : Int32) (hr : Hp) (hF : fX12_asksOf a1 h = some (r, hr)) : MC Z yX12_asksOf cX12_asksOf 4 (some .int) 0 [.ref (Z.2.1 0), .int a1] h (some (.int r)) hr := by
  unfold fX12_asksOf at hF
  refine mc_start (by decide) (Nat.le_of_ble_eq_true rfl) (fun G X E => ?_)
  refine j_iconst (pc := 0) 0 X dX12_asksOf_0 rfl ?_
  refine j_istore_n (pc := 1) (fun y => [(2, .int y), (0, .ref (Z.2.1 0)), (1, .int a1)]) X dX12_asksOf_1 (by decide) (fun _ => rfl) hF (fun v1 hF => ?_)
  refine j_aload_n (pc := 2) 1 X dX12_asksOf_2 rfl ?_
  refine j_getr (pc := 3) X dX12_asksOf_3 (hz _ sh_0) fl_X12_85 rfl ?_
  refine j_bipush (pc := 6) 10 X dX12_asksOf_6 rfl ?_
  refine j_aload_n (pc := 8) 1 X dX12_asksOf_8 rfl ?_
  refine j_geti (pc := 9) X dX12_asksOf_9 (hz _ sh_0) fl_X12_284 rfl ?_
  refine j_imul (pc := 12) X dX12_asksOf_12 ?_
  refine j_iload_n (pc := 13) 2 X dX12_asksOf_13 rfl ?_
  refine j_iadd (pc := 14) X dX12_asksOf_14 ?_
  refine j_iald (pc := 15) X dX12_asksOf_15 (hz _ sh_23) hF (fun hF => ?_)
  refine j_istore_n (pc := 16) (fun y => [(3, .int y), (2, .int v1), (0, .ref (Z.2.1 0)), (1, .int a1)]) X dX12_asksOf_16 (by decide) (fun _ => rfl) hF (fun v2 hF => ?_)
  refine j_lv [(0, .ref (Z.2.1 0)), (1, .int a1), (2, .int v1), (3, .int v2)] [2, 3, 1, 0] rfl ?_
  exact LX12_asksOf_17 X E hz FU a1 v1 v2 h hF
theorem dX12_asks_0 : decode cX12_asks 0 = .ok (.aload_n 0, 1) := by decide +kernel
theorem dX12_asks_1 : decode cX12_asks 1 = .ok (.iload_n 1, 1) := by decide +kernel
theorem dX12_asks_2 : decode cX12_asks 2 = .ok (.invokevirtual 400, 3) := by decide +kernel
theorem dX12_asks_5 : decode cX12_asks 5 = .ok (.ifCond .eq 11, 3) := by decide +kernel
theorem dX12_asks_8 : decode cX12_asks 8 = .ok (.aload_n 0, 1) := by decide +kernel
theorem dX12_asks_9 : decode cX12_asks 9 = .ok (.iload_n 1, 1) := by decide +kernel
theorem dX12_asks_10 : decode cX12_asks 10 = .ok (.invokevirtual 504, 3) := by decide +kernel
theorem dX12_asks_13 : decode cX12_asks 13 = .ok (.goto 4, 3) := by decide +kernel
theorem dX12_asks_16 : decode cX12_asks 16 = .ok (.iconst (-1), 1) := by decide +kernel
theorem dX12_asks_17 : decode cX12_asks 17 = .ok (.ireturn, 1) := by decide +kernel
def fX12_asks (a1 : Int32) (h : Hp) : Option (Int32 × Hp) := bi (fX12_hasLetter a1 h) (fun w2 h1 => (if w2 = 0 then some ((-1), h1) else bi (fX12_asksOf a1 h1) (fun w4 h3 => some (w4, h3))))
set_option maxRecDepth 20000 in
theorem tX12_asks (Z : ZT) (a1 : Int32) (hz : HZM Z) (h : Hp) (r : Int32) (hr : Hp) (hF : fX12_asks a1 h = some (r, hr)) : MC Z yX12_asks cX12_asks 2 (some .int) 2 [.ref (Z.2.1 0), .int a1] h (some (.int r)) hr := by
  unfold fX12_asks at hF
  refine mc_start (by decide) (Nat.le_of_ble_eq_true rfl) (fun G X E => ?_)
  refine j_aload_n (pc := 0) 0 X dX12_asks_0 rfl ?_
  refine j_iload_n (pc := 1) 1 X dX12_asks_1 rfl ?_
  refine j_cVi (pc := 2) (As := [.int a1]) (rest := []) X dX12_asks_2 ml_X12_400 ck_X12_hasLetter cv_X12_hasLetter (hz _ sh_0) rfl (Nat.le_of_ble_eq_true rfl) rfl (Nat.le_of_ble_eq_true rfl) rfl hF (tX12_hasLetter Z a1 hz h) (fun w2 h1 hF => ?_)
  refine j_if_eq (pc := 5) 16 X dX12_asks_5 rfl hF (fun hF => ?_) (fun hF => ?_)
  · refine j_iconst (pc := 16) (-1) X dX12_asks_16 rfl ?_
    exact j_iret (pc := 17) X E dX12_asks_17 hF
  · refine j_aload_n (pc := 8) 0 X dX12_asks_8 rfl ?_
    refine j_iload_n (pc := 9) 1 X dX12_asks_9 rfl ?_
    refine j_cVi (pc := 10) (As := [.int a1]) (rest := []) X dX12_asks_10 ml_X12_504 ck_X12_asksOf cv_X12_asksOf (hz _ sh_0) rfl (Nat.le_of_ble_eq_true rfl) rfl (Nat.le_of_ble_eq_true rfl) rfl hF (tX12_asksOf Z a1 hz h1) (fun w4 h3 hF => ?_)
    refine j_goto (pc := 13) 17 X dX12_asks_13 rfl ?_
    exact j_iret (pc := 17) X E dX12_asks_17 hF
theorem dX12_closes_0 : decode cX12_closes 0 = .ok (.iconst 0, 1) := by decide +kernel
theorem dX12_closes_1 : decode cX12_closes 1 = .ok (.istore_n 2, 1) := by decide +kernel
theorem dX12_closes_2 : decode cX12_closes 2 = .ok (.iload_n 2, 1) := by decide +kernel
theorem dX12_closes_3 : decode cX12_closes 3 = .ok (.aload_n 0, 1) := by decide +kernel
theorem dX12_closes_4 : decode cX12_closes 4 = .ok (.getfield 67, 3) := by decide +kernel
theorem dX12_closes_7 : decode cX12_closes 7 = .ok (.aload_n 0, 1) := by decide +kernel
theorem dX12_closes_8 : decode cX12_closes 8 = .ok (.getfield 284, 3) := by decide +kernel
theorem dX12_closes_11 : decode cX12_closes 11 = .ok (.iaload, 1) := by decide +kernel
theorem dX12_closes_12 : decode cX12_closes 12 = .ok (.if_icmp .ge 37, 3) := by decide +kernel
theorem dX12_closes_15 : decode cX12_closes 15 = .ok (.aload_n 0, 1) := by decide +kernel
theorem dX12_closes_16 : decode cX12_closes 16 = .ok (.getfield 179, 3) := by decide +kernel
theorem dX12_closes_19 : decode cX12_closes 19 = .ok (.iload_n 2, 1) := by decide +kernel
theorem dX12_closes_20 : decode cX12_closes 20 = .ok (.iload_n 1, 1) := by decide +kernel
theorem dX12_closes_21 : decode cX12_closes 21 = .ok (.iload_n 2, 1) := by decide +kernel
theorem dX12_closes_22 : decode cX12_closes 22 = .ok (.ishr, 1) := by decide +kernel
theorem dX12_closes_23 : decode cX12_closes 23 = .ok (.iconst 1, 1) := by decide +kernel
theorem dX12_closes_24 : decode cX12_closes 24 = .ok (.iand, 1) := by decide +kernel
theorem dX12_closes_25 : decode cX12_closes 25 = .ok (.iconst 1, 1) := by decide +kernel
theorem dX12_closes_26 : decode cX12_closes 26 = .ok (.if_icmp .ne 7, 3) := by decide +kernel
theorem dX12_closes_29 : decode cX12_closes 29 = .ok (.iconst 0, 1) := by decide +kernel
theorem dX12_closes_30 : decode cX12_closes 30 = .ok (.goto 12, 3) := by decide +kernel
theorem dX12_closes_33 : decode cX12_closes 33 = .ok (.aload_n 0, 1) := by decide +kernel
theorem dX12_closes_34 : decode cX12_closes 34 = .ok (.iload_n 2, 1) := by decide +kernel
theorem dX12_closes_35 : decode cX12_closes 35 = .ok (.invokevirtual 504, 3) := by decide +kernel
theorem dX12_closes_38 : decode cX12_closes 38 = .ok (.iload_n 1, 1) := by decide +kernel
theorem dX12_closes_39 : decode cX12_closes 39 = .ok (.iconst (-1), 1) := by decide +kernel
theorem dX12_closes_40 : decode cX12_closes 40 = .ok (.ixor, 1) := by decide +kernel
theorem dX12_closes_41 : decode cX12_closes 41 = .ok (.iand, 1) := by decide +kernel
theorem dX12_closes_42 : decode cX12_closes 42 = .ok (.iastore, 1) := by decide +kernel
theorem dX12_closes_43 : decode cX12_closes 43 = .ok (.iinc 2 1, 3) := by decide +kernel
theorem dX12_closes_46 : decode cX12_closes 46 = .ok (.goto (-44), 3) := by decide +kernel
theorem dX12_closes_49 : decode cX12_closes 49 = .ok (.iconst 0, 1) := by decide +kernel
theorem dX12_closes_50 : decode cX12_closes 50 = .ok (.istore_n 2, 1) := by decide +kernel
theorem dX12_closes_51 : decode cX12_closes 51 = .ok (.iload_n 2, 1) := by decide +kernel
theorem dX12_closes_52 : decode cX12_closes 52 = .ok (.aload_n 0, 1) := by decide +kernel
theorem dX12_closes_53 : decode cX12_closes 53 = .ok (.getfield 67, 3) := by decide +kernel
theorem dX12_closes_56 : decode cX12_closes 56 = .ok (.aload_n 0, 1) := by decide +kernel
theorem dX12_closes_57 : decode cX12_closes 57 = .ok (.getfield 284, 3) := by decide +kernel
theorem dX12_closes_60 : decode cX12_closes 60 = .ok (.iaload, 1) := by decide +kernel
theorem dX12_closes_61 : decode cX12_closes 61 = .ok (.if_icmp .ge 59, 3) := by decide +kernel
theorem dX12_closes_64 : decode cX12_closes 64 = .ok (.iconst 0, 1) := by decide +kernel
theorem dX12_closes_65 : decode cX12_closes 65 = .ok (.istore_n 3, 1) := by decide +kernel
theorem dX12_closes_66 : decode cX12_closes 66 = .ok (.iload_n 3, 1) := by decide +kernel
theorem dX12_closes_67 : decode cX12_closes 67 = .ok (.aload_n 0, 1) := by decide +kernel
theorem dX12_closes_68 : decode cX12_closes 68 = .ok (.getfield 67, 3) := by decide +kernel
theorem dX12_closes_71 : decode cX12_closes 71 = .ok (.aload_n 0, 1) := by decide +kernel
theorem dX12_closes_72 : decode cX12_closes 72 = .ok (.getfield 284, 3) := by decide +kernel
theorem dX12_closes_75 : decode cX12_closes 75 = .ok (.iaload, 1) := by decide +kernel
theorem dX12_closes_76 : decode cX12_closes 76 = .ok (.if_icmp .ge 38, 3) := by decide +kernel
theorem dX12_closes_79 : decode cX12_closes 79 = .ok (.aload_n 0, 1) := by decide +kernel
theorem dX12_closes_80 : decode cX12_closes 80 = .ok (.getfield 179, 3) := by decide +kernel
theorem dX12_closes_83 : decode cX12_closes 83 = .ok (.iload_n 3, 1) := by decide +kernel
theorem dX12_closes_84 : decode cX12_closes 84 = .ok (.iaload, 1) := by decide +kernel
theorem dX12_closes_85 : decode cX12_closes 85 = .ok (.iload_n 2, 1) := by decide +kernel
theorem dX12_closes_86 : decode cX12_closes 86 = .ok (.ishr, 1) := by decide +kernel
theorem dX12_closes_87 : decode cX12_closes 87 = .ok (.iconst 1, 1) := by decide +kernel
theorem dX12_closes_88 : decode cX12_closes 88 = .ok (.iand, 1) := by decide +kernel
theorem dX12_closes_89 : decode cX12_closes 89 = .ok (.iconst 1, 1) := by decide +kernel
theorem dX12_closes_90 : decode cX12_closes 90 = .ok (.if_icmp .ne 18, 3) := by decide +kernel
theorem dX12_closes_93 : decode cX12_closes 93 = .ok (.aload_n 0, 1) := by decide +kernel
theorem dX12_closes_94 : decode cX12_closes 94 = .ok (.getfield 179, 3) := by decide +kernel
theorem dX12_closes_97 : decode cX12_closes 97 = .ok (.iload_n 3, 1) := by decide +kernel
theorem dX12_closes_98 : decode cX12_closes 98 = .ok (.dup2, 1) := by decide +kernel
theorem dX12_closes_99 : decode cX12_closes 99 = .ok (.iaload, 1) := by decide +kernel
theorem dX12_closes_100 : decode cX12_closes 100 = .ok (.aload_n 0, 1) := by decide +kernel
theorem dX12_closes_101 : decode cX12_closes 101 = .ok (.getfield 179, 3) := by decide +kernel
theorem dX12_closes_104 : decode cX12_closes 104 = .ok (.iload_n 2, 1) := by decide +kernel
theorem dX12_closes_105 : decode cX12_closes 105 = .ok (.iaload, 1) := by decide +kernel
theorem dX12_closes_106 : decode cX12_closes 106 = .ok (.ior, 1) := by decide +kernel
theorem dX12_closes_107 : decode cX12_closes 107 = .ok (.iastore, 1) := by decide +kernel
theorem dX12_closes_108 : decode cX12_closes 108 = .ok (.iinc 3 1, 3) := by decide +kernel
theorem dX12_closes_111 : decode cX12_closes 111 = .ok (.goto (-45), 3) := by decide +kernel
theorem dX12_closes_114 : decode cX12_closes 114 = .ok (.iinc 2 1, 3) := by decide +kernel
theorem dX12_closes_117 : decode cX12_closes 117 = .ok (.goto (-66), 3) := by decide +kernel
theorem dX12_closes_120 : decode cX12_closes 120 = .ok (.return_, 1) := by decide +kernel
def bX12_closes_42  (r2 : Int32 → Int32 → Hp → Option (Hp)) (x1 : Int32) (x2 : Int32) (s0 : Int32) (s1 : Int32) (h : Hp) : Option (Hp) := ck (inb s1 10) (lt (wI h 54 (ix s1) s0) (fun h1 => lt (x2 + 1) (fun v2 => r2 x1 v2 h1)))
set_option maxRecDepth 20000 in
theorem BX12_closes_42 {Z : ZT} {G : GT} {hr : Hp} (X : CX Z G cX12_closes RX12 4 1) (E : RX Z G none (none) hr) (hz : HZM Z) (r2 : Int32 → Int32 → Hp → Option (Hp)) (hr2 : ∀ (x1 : Int32) (x2 : Int32) (h : Hp), r2 x1 x2 h = some hr → J Z G 4 h 2 [(0, .ref (Z.2.1 0)), (1, .int x1), (2, .int x2)] []) (x1 : Int32) (x2 : Int32) (s0 : Int32) (s1 : Int32) (h : Hp) (hF : bX12_closes_42  r2 x1 x2 s0 s1 h = some hr) : J Z G 4 h 42 [(0, .ref (Z.2.1 0)), (1, .int x1), (2, .int x2)] [.int s0, .int s1, .ref (Z.2.1 54)] := by
  unfold bX12_closes_42 at hF
  refine j_iast (pc := 42) X dX12_closes_42 (hz _ sh_54) hF (fun h1 hF => ?_)
  refine j_iinc (pc := 43) 2 (x2 + 1) (fun y => [(2, .int y), (0, .ref (Z.2.1 0)), (1, .int x1)]) X dX12_closes_43 rfl rfl (by decide) (fun _ => rfl) hF (fun v2 hF => ?_)
  refine j_goto (pc := 46) 2 X dX12_closes_46 rfl ?_
  refine j_lv [(0, .ref (Z.2.1 0)), (1, .int x1), (2, .int v2)] [1, 2, 0] rfl ?_
  exact hr2 x1 v2 h1 hF
def bX12_closes_108  (r51 : Int32 → Hp → Option (Hp)) (r66 : Int32 → Int32 → Hp → Option (Hp)) (x2 : Int32) (x3 : Int32) (h : Hp) : Option (Hp) := lt (x3 + 1) (fun v1 => r66 x2 v1 h)
set_option maxRecDepth 20000 in
theorem BX12_closes_108 {Z : ZT} {G : GT} {hr : Hp} (X : CX Z G cX12_closes RX12 4 1) (E : RX Z G none (none) hr) (hz : HZM Z) (r51 : Int32 → Hp → Option (Hp)) (hr51 : ∀ (x2 : Int32) (h : Hp), r51 x2 h = some hr → J Z G 4 h 51 [(0, .ref (Z.2.1 0)), (2, .int x2)] []) (r66 : Int32 → Int32 → Hp → Option (Hp)) (hr66 : ∀ (x2 : Int32) (x3 : Int32) (h : Hp), r66 x2 x3 h = some hr → J Z G 4 h 66 [(0, .ref (Z.2.1 0)), (2, .int x2), (3, .int x3)] []) (x2 : Int32) (x3 : Int32) (h : Hp) (hF : bX12_closes_108  r51 r66 x2 x3 h = some hr) : J Z G 4 h 108 [(0, .ref (Z.2.1 0)), (2, .int x2), (3, .int x3)] [] := by
  unfold bX12_closes_108 at hF
  refine j_iinc (pc := 108) 2 (x3 + 1) (fun y => [(3, .int y), (0, .ref (Z.2.1 0)), (2, .int x2)]) X dX12_closes_108 rfl rfl (by decide) (fun _ => rfl) hF (fun v1 hF => ?_)
  refine j_goto (pc := 111) 66 X dX12_closes_111 rfl ?_
  refine j_lv [(0, .ref (Z.2.1 0)), (2, .int x2), (3, .int v1)] [1, 2, 0] rfl ?_
  exact hr66 x2 v1 h hF
def bX12_closes_66  (r51 : Int32 → Hp → Option (Hp)) (r66 : Int32 → Int32 → Hp → Option (Hp)) (x2 : Int32) (x3 : Int32) (h : Hp) : Option (Hp) := ck (inb (h.1 0 18) 2) ((if (h.1 17 (ix (h.1 0 18))) ≤ x3 then lt (x2 + 1) (fun v1 => r51 v1 h) else ck (inb x3 10) ((if (((h.1 54 (ix x3)) >>> (x2 &&& 31)) &&& 1) = 1 then ck (inb x3 10) (ck (inb x2 10) (ck (inb x3 10) (lt (wI h 54 (ix x3) ((h.1 54 (ix x3)) ||| (h.1 54 (ix x2)))) (fun h2 => bX12_closes_108 r51 r66 x2 x3 h2)))) else bX12_closes_108 r51 r66 x2 x3 h))))
def lX12_closes_66  (r51 : Int32 → Hp → Option (Hp)) : Nat → Int32 → Int32 → Hp → Option (Hp)
  | 0 => fun _ _ _ => none
  | n + 1 => bX12_closes_66  r51 (lX12_closes_66  r51 n)
set_option maxRecDepth 20000 in
theorem BX12_closes_66 {Z : ZT} {G : GT} {hr : Hp} (X : CX Z G cX12_closes RX12 4 1) (E : RX Z G none (none) hr) (hz : HZM Z) (r51 : Int32 → Hp → Option (Hp)) (hr51 : ∀ (x2 : Int32) (h : Hp), r51 x2 h = some hr → J Z G 4 h 51 [(0, .ref (Z.2.1 0)), (2, .int x2)] []) (r66 : Int32 → Int32 → Hp → Option (Hp)) (hr66 : ∀ (x2 : Int32) (x3 : Int32) (h : Hp), r66 x2 x3 h = some hr → J Z G 4 h 66 [(0, .ref (Z.2.1 0)), (2, .int x2), (3, .int x3)] []) (x2 : Int32) (x3 : Int32) (h : Hp) (hF : bX12_closes_66  r51 r66 x2 x3 h = some hr) : J Z G 4 h 66 [(0, .ref (Z.2.1 0)), (2, .int x2), (3, .int x3)] [] := by
  unfold bX12_closes_66 at hF
  refine j_iload_n (pc := 66) 2 X dX12_closes_66 rfl ?_
  refine j_aload_n (pc := 67) 0 X dX12_closes_67 rfl ?_
  refine j_getr (pc := 68) X dX12_closes_68 (hz _ sh_0) fl_X12_67 rfl ?_
  refine j_aload_n (pc := 71) 0 X dX12_closes_71 rfl ?_
  refine j_geti (pc := 72) X dX12_closes_72 (hz _ sh_0) fl_X12_284 rfl ?_
  refine j_iald (pc := 75) X dX12_closes_75 (hz _ sh_17) hF (fun hF => ?_)
  refine j_icmp_ge (pc := 76) 114 X dX12_closes_76 rfl hF (fun hF => ?_) (fun hF => ?_)
  · refine j_iinc (pc := 114) 1 (x2 + 1) (fun y => [(2, .int y), (0, .ref (Z.2.1 0)), (3, .int x3)]) X dX12_closes_114 rfl rfl (by decide) (fun _ => rfl) hF (fun v1 hF => ?_)
    refine j_goto (pc := 117) 51 X dX12_closes_117 rfl ?_
    refine j_lv [(0, .ref (Z.2.1 0)), (2, .int v1)] [1, 0] rfl ?_
    exact hr51 v1 h hF
  · refine j_aload_n (pc := 79) 0 X dX12_closes_79 rfl ?_
    refine j_getr (pc := 80) X dX12_closes_80 (hz _ sh_0) fl_X12_179 rfl ?_
    refine j_iload_n (pc := 83) 2 X dX12_closes_83 rfl ?_
    refine j_iald (pc := 84) X dX12_closes_84 (hz _ sh_54) hF (fun hF => ?_)
    refine j_iload_n (pc := 85) 1 X dX12_closes_85 rfl ?_
    refine j_ishr (pc := 86) X dX12_closes_86 ?_
    refine j_iconst (pc := 87) 1 X dX12_closes_87 rfl ?_
    refine j_iand (pc := 88) X dX12_closes_88 ?_
    refine j_iconst (pc := 89) 1 X dX12_closes_89 rfl ?_
    refine j_icmp_ne (pc := 90) 108 X dX12_closes_90 rfl hF (fun hF => ?_) (fun hF => ?_)
    · exact BX12_closes_108 X E hz r51 hr51 r66 hr66 x2 x3 h hF
    · refine j_aload_n (pc := 93) 0 X dX12_closes_93 rfl ?_
      refine j_getr (pc := 94) X dX12_closes_94 (hz _ sh_0) fl_X12_179 rfl ?_
      refine j_iload_n (pc := 97) 2 X dX12_closes_97 rfl ?_
      refine j_dup2 (pc := 98) X dX12_closes_98 rfl rfl ?_
      refine j_iald (pc := 99) X dX12_closes_99 (hz _ sh_54) hF (fun hF => ?_)
      refine j_aload_n (pc := 100) 0 X dX12_closes_100 rfl ?_
      refine j_getr (pc := 101) X dX12_closes_101 (hz _ sh_0) fl_X12_179 rfl ?_
      refine j_iload_n (pc := 104) 1 X dX12_closes_104 rfl ?_
      refine j_iald (pc := 105) X dX12_closes_105 (hz _ sh_54) hF (fun hF => ?_)
      refine j_ior (pc := 106) X dX12_closes_106 ?_
      refine j_iast (pc := 107) X dX12_closes_107 (hz _ sh_54) hF (fun h2 hF => ?_)
      exact BX12_closes_108 X E hz r51 hr51 r66 hr66 x2 x3 h2 hF
theorem LX12_closes_66 {Z : ZT} {G : GT} {hr : Hp} (X : CX Z G cX12_closes RX12 4 1) (E : RX Z G none (none) hr) (hz : HZM Z) (r51 : Int32 → Hp → Option (Hp)) (hr51 : ∀ (x2 : Int32) (h : Hp), r51 x2 h = some hr → J Z G 4 h 51 [(0, .ref (Z.2.1 0)), (2, .int x2)] []) : ∀ (n : Nat) (x2 : Int32) (x3 : Int32) (h : Hp), lX12_closes_66  r51 n x2 x3 h = some hr → J Z G 4 h 66 [(0, .ref (Z.2.1 0)), (2, .int x2), (3, .int x3)] [] := by
  intro n
  induction n with
  | zero => intro x2 x3 h hF; cases hF
  | succ n ih => intro x2 x3 h hF; exact BX12_closes_66 X E hz r51 hr51 (lX12_closes_66  r51 n) ih x2 x3 h hF
def bX12_closes_51   (r51 : Int32 → Hp → Option (Hp)) (x2 : Int32) (h : Hp) : Option (Hp) := ck (inb (h.1 0 18) 2) ((if (h.1 17 (ix (h.1 0 18))) ≤ x2 then some h else lt 0 (fun v1 => lX12_closes_66 r51 FU x2 v1 h)))
def lX12_closes_51   : Nat → Int32 → Hp → Option (Hp)
  | 0 => fun _ _ => none
  | n + 1 => bX12_closes_51   (lX12_closes_51   n)
set_option maxRecDepth 20000 in
theorem BX12_closes_51 {Z : ZT} {G : GT} {hr : Hp} (X : CX Z G cX12_closes RX12 4 1) (E : RX Z G none (none) hr) (hz : HZM Z)  (r51 : Int32 → Hp → Option (Hp)) (hr51 : ∀ (x2 : Int32) (h : Hp), r51 x2 h = some hr → J Z G 4 h 51 [(0, .ref (Z.2.1 0)), (2, .int x2)] []) (x2 : Int32) (h : Hp) (hF : bX12_closes_51   r51 x2 h = some hr) : J Z G 4 h 51 [(0, .ref (Z.2.1 0)), (2, .int x2)] [] := by
  unfold bX12_closes_51 at hF
  refine j_iload_n (pc := 51) 1 X dX12_closes_51 rfl ?_
  refine j_aload_n (pc := 52) 0 X dX12_closes_52 rfl ?_
  refine j_getr (pc := 53) X dX12_closes_53 (hz _ sh_0) fl_X12_67 rfl ?_
  refine j_aload_n (pc := 56) 0 X dX12_closes_56 rfl ?_
  refine j_geti (pc := 57) X dX12_closes_57 (hz _ sh_0) fl_X12_284 rfl ?_
  refine j_iald (pc := 60) X dX12_closes_60 (hz _ sh_17) hF (fun hF => ?_)
  refine j_icmp_ge (pc := 61) 120 X dX12_closes_61 rfl hF (fun hF => ?_) (fun hF => ?_)
  · exact j_vret (pc := 120) X E dX12_closes_120 hF
  · refine j_iconst (pc := 64) 0 X dX12_closes_64 rfl ?_
    refine j_istore_n (pc := 65) (fun y => [(3, .int y), (0, .ref (Z.2.1 0)), (2, .int x2)]) X dX12_closes_65 (by decide) (fun _ => rfl) hF (fun v1 hF => ?_)
    refine j_lv [(0, .ref (Z.2.1 0)), (2, .int x2), (3, .int v1)] [1, 2, 0] rfl ?_
    exact LX12_closes_66 X E hz r51 hr51 FU x2 v1 h hF
theorem LX12_closes_51 {Z : ZT} {G : GT} {hr : Hp} (X : CX Z G cX12_closes RX12 4 1) (E : RX Z G none (none) hr) (hz : HZM Z)  : ∀ (n : Nat) (x2 : Int32) (h : Hp), lX12_closes_51   n x2 h = some hr → J Z G 4 h 51 [(0, .ref (Z.2.1 0)), (2, .int x2)] [] := by
  intro n
  induction n with
  | zero => intro x2 h hF; cases hF
  | succ n ih => intro x2 h hF; exact BX12_closes_51 X E hz  (lX12_closes_51   n) ih x2 h hF
def bX12_closes_2   (r2 : Int32 → Int32 → Hp → Option (Hp)) (x1 : Int32) (x2 : Int32) (h : Hp) : Option (Hp) := ck (inb (h.1 0 18) 2) ((if (h.1 17 (ix (h.1 0 18))) ≤ x2 then lt 0 (fun v1 => lX12_closes_51 FU v1 h) else (if ((x1 >>> (x2 &&& 31)) &&& 1) = 1 then bX12_closes_42 r2 x1 x2 0 x2 h else bi (fX12_asksOf x2 h) (fun w3 h2 => bX12_closes_42 r2 x1 x2 (w3 &&& (x1 ^^^ (-1))) x2 h2))))
def lX12_closes_2   : Nat → Int32 → Int32 → Hp → Option (Hp)
  | 0 => fun _ _ _ => none
  | n + 1 => bX12_closes_2   (lX12_closes_2   n)
set_option maxRecDepth 20000 in
theorem BX12_closes_2 {Z : ZT} {G : GT} {hr : Hp} (X : CX Z G cX12_closes RX12 4 1) (E : RX Z G none (none) hr) (hz : HZM Z)  (r2 : Int32 → Int32 → Hp → Option (Hp)) (hr2 : ∀ (x1 : Int32) (x2 : Int32) (h : Hp), r2 x1 x2 h = some hr → J Z G 4 h 2 [(0, .ref (Z.2.1 0)), (1, .int x1), (2, .int x2)] []) (x1 : Int32) (x2 : Int32) (h : Hp) (hF : bX12_closes_2   r2 x1 x2 h = some hr) : J Z G 4 h 2 [(0, .ref (Z.2.1 0)), (1, .int x1), (2, .int x2)] [] := by
  unfold bX12_closes_2 at hF
  refine j_iload_n (pc := 2) 2 X dX12_closes_2 rfl ?_
  refine j_aload_n (pc := 3) 0 X dX12_closes_3 rfl ?_
  refine j_getr (pc := 4) X dX12_closes_4 (hz _ sh_0) fl_X12_67 rfl ?_
  refine j_aload_n (pc := 7) 0 X dX12_closes_7 rfl ?_
  refine j_geti (pc := 8) X dX12_closes_8 (hz _ sh_0) fl_X12_284 rfl ?_
  refine j_iald (pc := 11) X dX12_closes_11 (hz _ sh_17) hF (fun hF => ?_)
  refine j_icmp_ge (pc := 12) 49 X dX12_closes_12 rfl hF (fun hF => ?_) (fun hF => ?_)
  · refine j_iconst (pc := 49) 0 X dX12_closes_49 rfl ?_
    refine j_istore_n (pc := 50) (fun y => [(2, .int y), (0, .ref (Z.2.1 0)), (1, .int x1)]) X dX12_closes_50 (by decide) (fun _ => rfl) hF (fun v1 hF => ?_)
    refine j_lv [(0, .ref (Z.2.1 0)), (2, .int v1)] [1, 0] rfl ?_
    exact LX12_closes_51 X E hz FU v1 h hF
  · refine j_aload_n (pc := 15) 0 X dX12_closes_15 rfl ?_
    refine j_getr (pc := 16) X dX12_closes_16 (hz _ sh_0) fl_X12_179 rfl ?_
    refine j_iload_n (pc := 19) 2 X dX12_closes_19 rfl ?_
    refine j_iload_n (pc := 20) 1 X dX12_closes_20 rfl ?_
    refine j_iload_n (pc := 21) 2 X dX12_closes_21 rfl ?_
    refine j_ishr (pc := 22) X dX12_closes_22 ?_
    refine j_iconst (pc := 23) 1 X dX12_closes_23 rfl ?_
    refine j_iand (pc := 24) X dX12_closes_24 ?_
    refine j_iconst (pc := 25) 1 X dX12_closes_25 rfl ?_
    refine j_icmp_ne (pc := 26) 33 X dX12_closes_26 rfl hF (fun hF => ?_) (fun hF => ?_)
    · refine j_aload_n (pc := 33) 0 X dX12_closes_33 rfl ?_
      refine j_iload_n (pc := 34) 2 X dX12_closes_34 rfl ?_
      refine j_cVi (pc := 35) (As := [.int x2]) (rest := [.int x2, .ref (Z.2.1 54)]) X dX12_closes_35 ml_X12_504 ck_X12_asksOf cv_X12_asksOf (hz _ sh_0) rfl (Nat.le_of_ble_eq_true rfl) rfl (Nat.le_of_ble_eq_true rfl) rfl hF (tX12_asksOf Z x2 hz h) (fun w3 h2 hF => ?_)
      refine j_iload_n (pc := 38) 1 X dX12_closes_38 rfl ?_
      refine j_iconst (pc := 39) (-1) X dX12_closes_39 rfl ?_
      refine j_ixor (pc := 40) X dX12_closes_40 ?_
      refine j_iand (pc := 41) X dX12_closes_41 ?_
      exact BX12_closes_42 X E hz r2 hr2 x1 x2 (w3 &&& (x1 ^^^ (-1))) x2 h2 hF
    · refine j_iconst (pc := 29) 0 X dX12_closes_29 rfl ?_
      refine j_goto (pc := 30) 42 X dX12_closes_30 rfl ?_
      exact BX12_closes_42 X E hz r2 hr2 x1 x2 0 x2 h hF
theorem LX12_closes_2 {Z : ZT} {G : GT} {hr : Hp} (X : CX Z G cX12_closes RX12 4 1) (E : RX Z G none (none) hr) (hz : HZM Z)  : ∀ (n : Nat) (x1 : Int32) (x2 : Int32) (h : Hp), lX12_closes_2   n x1 x2 h = some hr → J Z G 4 h 2 [(0, .ref (Z.2.1 0)), (1, .int x1), (2, .int x2)] [] := by
  intro n
  induction n with
  | zero => intro x1 x2 h hF; cases hF
  | succ n ih => intro x1 x2 h hF; exact BX12_closes_2 X E hz  (lX12_closes_2   n) ih x1 x2 h hF
def fX12_closes (a1 : Int32) (h : Hp) : Option (Hp) := lt 0 (fun v1 => lX12_closes_2 FU a1 v1 h)
set_option maxRecDepth 20000 in
theorem tX12_closes (Z : ZT) (a1 : Int32) (hz : HZM Z) (h : Hp) (hr : Hp) (hF : fX12_closes a1 h = some hr) : MC Z yX12_closes cX12_closes 4 none 1 [.ref (Z.2.1 0), .int a1] h (none) hr := by
  unfold fX12_closes at hF
  refine mc_start (by decide) (Nat.le_of_ble_eq_true rfl) (fun G X E => ?_)
  refine j_iconst (pc := 0) 0 X dX12_closes_0 rfl ?_
  refine j_istore_n (pc := 1) (fun y => [(2, .int y), (0, .ref (Z.2.1 0)), (1, .int a1)]) X dX12_closes_1 (by decide) (fun _ => rfl) hF (fun v1 hF => ?_)
  refine j_lv [(0, .ref (Z.2.1 0)), (1, .int a1), (2, .int v1)] [1, 2, 0] rfl ?_
  exact LX12_closes_2 X E hz FU a1 v1 h hF
theorem dX12_ringOf_0 : decode cX12_ringOf 0 = .ok (.iconst 0, 1) := by decide +kernel
theorem dX12_ringOf_1 : decode cX12_ringOf 1 = .ok (.istore_n 2, 1) := by decide +kernel
theorem dX12_ringOf_2 : decode cX12_ringOf 2 = .ok (.iconst 0, 1) := by decide +kernel
theorem dX12_ringOf_3 : decode cX12_ringOf 3 = .ok (.istore_n 3, 1) := by decide +kernel
theorem dX12_ringOf_4 : decode cX12_ringOf 4 = .ok (.iload_n 3, 1) := by decide +kernel
theorem dX12_ringOf_5 : decode cX12_ringOf 5 = .ok (.aload_n 0, 1) := by decide +kernel
theorem dX12_ringOf_6 : decode cX12_ringOf 6 = .ok (.getfield 67, 3) := by decide +kernel
theorem dX12_ringOf_9 : decode cX12_ringOf 9 = .ok (.aload_n 0, 1) := by decide +kernel
theorem dX12_ringOf_10 : decode cX12_ringOf 10 = .ok (.getfield 284, 3) := by decide +kernel
theorem dX12_ringOf_13 : decode cX12_ringOf 13 = .ok (.iaload, 1) := by decide +kernel
theorem dX12_ringOf_14 : decode cX12_ringOf 14 = .ok (.if_icmp .ge 43, 3) := by decide +kernel
theorem dX12_ringOf_17 : decode cX12_ringOf 17 = .ok (.aload_n 0, 1) := by decide +kernel
theorem dX12_ringOf_18 : decode cX12_ringOf 18 = .ok (.getfield 179, 3) := by decide +kernel
theorem dX12_ringOf_21 : decode cX12_ringOf 21 = .ok (.iload_n 1, 1) := by decide +kernel
theorem dX12_ringOf_22 : decode cX12_ringOf 22 = .ok (.iaload, 1) := by decide +kernel
theorem dX12_ringOf_23 : decode cX12_ringOf 23 = .ok (.iload_n 3, 1) := by decide +kernel
theorem dX12_ringOf_24 : decode cX12_ringOf 24 = .ok (.ishr, 1) := by decide +kernel
theorem dX12_ringOf_25 : decode cX12_ringOf 25 = .ok (.iconst 1, 1) := by decide +kernel
theorem dX12_ringOf_26 : decode cX12_ringOf 26 = .ok (.iand, 1) := by decide +kernel
theorem dX12_ringOf_27 : decode cX12_ringOf 27 = .ok (.iconst 1, 1) := by decide +kernel
theorem dX12_ringOf_28 : decode cX12_ringOf 28 = .ok (.if_icmp .ne 23, 3) := by decide +kernel
theorem dX12_ringOf_31 : decode cX12_ringOf 31 = .ok (.aload_n 0, 1) := by decide +kernel
theorem dX12_ringOf_32 : decode cX12_ringOf 32 = .ok (.getfield 179, 3) := by decide +kernel
theorem dX12_ringOf_35 : decode cX12_ringOf 35 = .ok (.iload_n 3, 1) := by decide +kernel
theorem dX12_ringOf_36 : decode cX12_ringOf 36 = .ok (.iaload, 1) := by decide +kernel
theorem dX12_ringOf_37 : decode cX12_ringOf 37 = .ok (.iload_n 1, 1) := by decide +kernel
theorem dX12_ringOf_38 : decode cX12_ringOf 38 = .ok (.ishr, 1) := by decide +kernel
theorem dX12_ringOf_39 : decode cX12_ringOf 39 = .ok (.iconst 1, 1) := by decide +kernel
theorem dX12_ringOf_40 : decode cX12_ringOf 40 = .ok (.iand, 1) := by decide +kernel
theorem dX12_ringOf_41 : decode cX12_ringOf 41 = .ok (.iconst 1, 1) := by decide +kernel
theorem dX12_ringOf_42 : decode cX12_ringOf 42 = .ok (.if_icmp .ne 9, 3) := by decide +kernel
theorem dX12_ringOf_45 : decode cX12_ringOf 45 = .ok (.iload_n 2, 1) := by decide +kernel
theorem dX12_ringOf_46 : decode cX12_ringOf 46 = .ok (.iconst 1, 1) := by decide +kernel
theorem dX12_ringOf_47 : decode cX12_ringOf 47 = .ok (.iload_n 3, 1) := by decide +kernel
theorem dX12_ringOf_48 : decode cX12_ringOf 48 = .ok (.ishl, 1) := by decide +kernel
theorem dX12_ringOf_49 : decode cX12_ringOf 49 = .ok (.ior, 1) := by decide +kernel
theorem dX12_ringOf_50 : decode cX12_ringOf 50 = .ok (.istore_n 2, 1) := by decide +kernel
theorem dX12_ringOf_51 : decode cX12_ringOf 51 = .ok (.iinc 3 1, 3) := by decide +kernel
theorem dX12_ringOf_54 : decode cX12_ringOf 54 = .ok (.goto (-50), 3) := by decide +kernel
theorem dX12_ringOf_57 : decode cX12_ringOf 57 = .ok (.iload_n 2, 1) := by decide +kernel
theorem dX12_ringOf_58 : decode cX12_ringOf 58 = .ok (.ireturn, 1) := by decide +kernel
def bX12_ringOf_51  (r4 : Int32 → Int32 → Int32 → Hp → Option (Int32 × Hp)) (x1 : Int32) (x2 : Int32) (x3 : Int32) (h : Hp) : Option (Int32 × Hp) := lt (x3 + 1) (fun v1 => r4 x1 x2 v1 h)
set_option maxRecDepth 20000 in
theorem BX12_ringOf_51 {Z : ZT} {G : GT} {r : Int32} {hr : Hp} (X : CX Z G cX12_ringOf RX12 4 0) (E : RX Z G (some .int) (some (.int r)) hr) (hz : HZM Z) (r4 : Int32 → Int32 → Int32 → Hp → Option (Int32 × Hp)) (hr4 : ∀ (x1 : Int32) (x2 : Int32) (x3 : Int32) (h : Hp), r4 x1 x2 x3 h = some (r, hr) → J Z G 4 h 4 [(0, .ref (Z.2.1 0)), (1, .int x1), (2, .int x2), (3, .int x3)] []) (x1 : Int32) (x2 : Int32) (x3 : Int32) (h : Hp) (hF : bX12_ringOf_51  r4 x1 x2 x3 h = some (r, hr)) : J Z G 4 h 51 [(0, .ref (Z.2.1 0)), (1, .int x1), (2, .int x2), (3, .int x3)] [] := by
  unfold bX12_ringOf_51 at hF
  refine j_iinc (pc := 51) 3 (x3 + 1) (fun y => [(3, .int y), (0, .ref (Z.2.1 0)), (1, .int x1), (2, .int x2)]) X dX12_ringOf_51 rfl rfl (by decide) (fun _ => rfl) hF (fun v1 hF => ?_)
  refine j_goto (pc := 54) 4 X dX12_ringOf_54 rfl ?_
  refine j_lv [(0, .ref (Z.2.1 0)), (1, .int x1), (2, .int x2), (3, .int v1)] [1, 2, 3, 0] rfl ?_
  exact hr4 x1 x2 v1 h hF
def bX12_ringOf_4   (r4 : Int32 → Int32 → Int32 → Hp → Option (Int32 × Hp)) (x1 : Int32) (x2 : Int32) (x3 : Int32) (h : Hp) : Option (Int32 × Hp) := ck (inb (h.1 0 18) 2) ((if (h.1 17 (ix (h.1 0 18))) ≤ x3 then some (x2, h) else ck (inb x1 10) ((if (((h.1 54 (ix x1)) >>> (x3 &&& 31)) &&& 1) = 1 then ck (inb x3 10) ((if (((h.1 54 (ix x3)) >>> (x1 &&& 31)) &&& 1) = 1 then lt (x2 ||| ((1 : Int32) <<< (x3 &&& 31))) (fun v1 => bX12_ringOf_51 r4 x1 v1 x3 h) else bX12_ringOf_51 r4 x1 x2 x3 h)) else bX12_ringOf_51 r4 x1 x2 x3 h))))
def lX12_ringOf_4   : Nat → Int32 → Int32 → Int32 → Hp → Option (Int32 × Hp)
  | 0 => fun _ _ _ _ => none
  | n + 1 => bX12_ringOf_4   (lX12_ringOf_4   n)
set_option maxRecDepth 20000 in
theorem BX12_ringOf_4 {Z : ZT} {G : GT} {r : Int32} {hr : Hp} (X : CX Z G cX12_ringOf RX12 4 0) (E : RX Z G (some .int) (some (.int r)) hr) (hz : HZM Z)  (r4 : Int32 → Int32 → Int32 → Hp → Option (Int32 × Hp)) (hr4 : ∀ (x1 : Int32) (x2 : Int32) (x3 : Int32) (h : Hp), r4 x1 x2 x3 h = some (r, hr) → J Z G 4 h 4 [(0, .ref (Z.2.1 0)), (1, .int x1), (2, .int x2), (3, .int x3)] []) (x1 : Int32) (x2 : Int32) (x3 : Int32) (h : Hp) (hF : bX12_ringOf_4   r4 x1 x2 x3 h = some (r, hr)) : J Z G 4 h 4 [(0, .ref (Z.2.1 0)), (1, .int x1), (2, .int x2), (3, .int x3)] [] := by
  unfold bX12_ringOf_4 at hF
  refine j_iload_n (pc := 4) 3 X dX12_ringOf_4 rfl ?_
  refine j_aload_n (pc := 5) 0 X dX12_ringOf_5 rfl ?_
  refine j_getr (pc := 6) X dX12_ringOf_6 (hz _ sh_0) fl_X12_67 rfl ?_
  refine j_aload_n (pc := 9) 0 X dX12_ringOf_9 rfl ?_
  refine j_geti (pc := 10) X dX12_ringOf_10 (hz _ sh_0) fl_X12_284 rfl ?_
  refine j_iald (pc := 13) X dX12_ringOf_13 (hz _ sh_17) hF (fun hF => ?_)
  refine j_icmp_ge (pc := 14) 57 X dX12_ringOf_14 rfl hF (fun hF => ?_) (fun hF => ?_)
  · refine j_iload_n (pc := 57) 2 X dX12_ringOf_57 rfl ?_
    exact j_iret (pc := 58) X E dX12_ringOf_58 hF
  · refine j_aload_n (pc := 17) 0 X dX12_ringOf_17 rfl ?_
    refine j_getr (pc := 18) X dX12_ringOf_18 (hz _ sh_0) fl_X12_179 rfl ?_
    refine j_iload_n (pc := 21) 1 X dX12_ringOf_21 rfl ?_
    refine j_iald (pc := 22) X dX12_ringOf_22 (hz _ sh_54) hF (fun hF => ?_)
    refine j_iload_n (pc := 23) 3 X dX12_ringOf_23 rfl ?_
    refine j_ishr (pc := 24) X dX12_ringOf_24 ?_
    refine j_iconst (pc := 25) 1 X dX12_ringOf_25 rfl ?_
    refine j_iand (pc := 26) X dX12_ringOf_26 ?_
    refine j_iconst (pc := 27) 1 X dX12_ringOf_27 rfl ?_
    refine j_icmp_ne (pc := 28) 51 X dX12_ringOf_28 rfl hF (fun hF => ?_) (fun hF => ?_)
    · exact BX12_ringOf_51 X E hz r4 hr4 x1 x2 x3 h hF
    · refine j_aload_n (pc := 31) 0 X dX12_ringOf_31 rfl ?_
      refine j_getr (pc := 32) X dX12_ringOf_32 (hz _ sh_0) fl_X12_179 rfl ?_
      refine j_iload_n (pc := 35) 3 X dX12_ringOf_35 rfl ?_
      refine j_iald (pc := 36) X dX12_ringOf_36 (hz _ sh_54) hF (fun hF => ?_)
      refine j_iload_n (pc := 37) 1 X dX12_ringOf_37 rfl ?_
      refine j_ishr (pc := 38) X dX12_ringOf_38 ?_
      refine j_iconst (pc := 39) 1 X dX12_ringOf_39 rfl ?_
      refine j_iand (pc := 40) X dX12_ringOf_40 ?_
      refine j_iconst (pc := 41) 1 X dX12_ringOf_41 rfl ?_
      refine j_icmp_ne (pc := 42) 51 X dX12_ringOf_42 rfl hF (fun hF => ?_) (fun hF => ?_)
      · exact BX12_ringOf_51 X E hz r4 hr4 x1 x2 x3 h hF
      · refine j_iload_n (pc := 45) 2 X dX12_ringOf_45 rfl ?_
        refine j_iconst (pc := 46) 1 X dX12_ringOf_46 rfl ?_
        refine j_iload_n (pc := 47) 3 X dX12_ringOf_47 rfl ?_
        refine j_ishl (pc := 48) X dX12_ringOf_48 ?_
        refine j_ior (pc := 49) X dX12_ringOf_49 ?_
        refine j_istore_n (pc := 50) (fun y => [(2, .int y), (0, .ref (Z.2.1 0)), (1, .int x1), (3, .int x3)]) X dX12_ringOf_50 (by decide) (fun _ => rfl) hF (fun v1 hF => ?_)
        refine j_lv [(0, .ref (Z.2.1 0)), (1, .int x1), (2, .int v1), (3, .int x3)] [1, 2, 0, 3] rfl ?_
        exact BX12_ringOf_51 X E hz r4 hr4 x1 v1 x3 h hF
theorem LX12_ringOf_4 {Z : ZT} {G : GT} {r : Int32} {hr : Hp} (X : CX Z G cX12_ringOf RX12 4 0) (E : RX Z G (some .int) (some (.int r)) hr) (hz : HZM Z)  : ∀ (n : Nat) (x1 : Int32) (x2 : Int32) (x3 : Int32) (h : Hp), lX12_ringOf_4   n x1 x2 x3 h = some (r, hr) → J Z G 4 h 4 [(0, .ref (Z.2.1 0)), (1, .int x1), (2, .int x2), (3, .int x3)] [] := by
  intro n
  induction n with
  | zero => intro x1 x2 x3 h hF; cases hF
  | succ n ih => intro x1 x2 x3 h hF; exact BX12_ringOf_4 X E hz  (lX12_ringOf_4   n) ih x1 x2 x3 h hF
def fX12_ringOf (a1 : Int32) (h : Hp) : Option (Int32 × Hp) := lt 0 (fun v1 => lt 0 (fun v2 => lX12_ringOf_4 FU a1 v1 v2 h))
set_option maxRecDepth 20000 in
theorem tX12_ringOf (Z : ZT) (a1 : Int32) (hz : HZM Z) (h : Hp) (r : Int32) (hr : Hp) (hF : fX12_ringOf a1 h = some (r, hr)) : MC Z yX12_ringOf cX12_ringOf 4 (some .int) 0 [.ref (Z.2.1 0), .int a1] h (some (.int r)) hr := by
  unfold fX12_ringOf at hF
  refine mc_start (by decide) (Nat.le_of_ble_eq_true rfl) (fun G X E => ?_)
  refine j_iconst (pc := 0) 0 X dX12_ringOf_0 rfl ?_
  refine j_istore_n (pc := 1) (fun y => [(2, .int y), (0, .ref (Z.2.1 0)), (1, .int a1)]) X dX12_ringOf_1 (by decide) (fun _ => rfl) hF (fun v1 hF => ?_)
  refine j_iconst (pc := 2) 0 X dX12_ringOf_2 rfl ?_
  refine j_istore_n (pc := 3) (fun y => [(3, .int y), (2, .int v1), (0, .ref (Z.2.1 0)), (1, .int a1)]) X dX12_ringOf_3 (by decide) (fun _ => rfl) hF (fun v2 hF => ?_)
  refine j_lv [(0, .ref (Z.2.1 0)), (1, .int a1), (2, .int v1), (3, .int v2)] [2, 3, 1, 0] rfl ?_
  exact LX12_ringOf_4 X E hz FU a1 v1 v2 h hF
