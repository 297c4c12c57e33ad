theorem dX12_find_0 : decode cX12_find 0 = .ok (.iconst 0, 1) := by decide +kernel
theorem dX12_find_1 : decode cX12_find 1 = .ok (.istore_n 3, 1) := by decide +kernel
theorem dX12_find_2 : decode cX12_find 2 = .ok (.iload_n 3, 1) := by decide +kernel
theorem dX12_find_3 : decode cX12_find 3 = .ok (.aload_n 0, 1) := by decide +kernel
theorem dX12_find_4 : decode cX12_find 4 = .ok (.getfield 290, 3) := by decide +kernel
theorem dX12_find_7 : decode cX12_find 7 = .ok (.if_icmp .ge 42, 3) := by decide +kernel
theorem dX12_find_10 : decode cX12_find 10 = .ok (.aload_n 0, 1) := by decide +kernel
theorem dX12_find_11 : decode cX12_find 11 = .ok (.getfield 40, 3) := by decide +kernel
theorem dX12_find_14 : decode cX12_find 14 = .ok (.iload_n 3, 1) := by decide +kernel
theorem dX12_find_15 : decode cX12_find 15 = .ok (.laload, 1) := by decide +kernel
theorem dX12_find_16 : decode cX12_find 16 = .ok (.aload_n 0, 1) := by decide +kernel
theorem dX12_find_17 : decode cX12_find 17 = .ok (.getfield 30, 3) := by decide +kernel
theorem dX12_find_20 : decode cX12_find 20 = .ok (.iload_n 1, 1) := by decide +kernel
theorem dX12_find_21 : decode cX12_find 21 = .ok (.laload, 1) := by decide +kernel
theorem dX12_find_22 : decode cX12_find 22 = .ok (.lcmp, 1) := by decide +kernel
theorem dX12_find_23 : decode cX12_find 23 = .ok (.ifCond .ne 20, 3) := by decide +kernel
theorem dX12_find_26 : decode cX12_find 26 = .ok (.aload_n 0, 1) := by decide +kernel
theorem dX12_find_27 : decode cX12_find 27 = .ok (.getfield 43, 3) := by decide +kernel
theorem dX12_find_30 : decode cX12_find 30 = .ok (.iload_n 3, 1) := by decide +kernel
theorem dX12_find_31 : decode cX12_find 31 = .ok (.iaload, 1) := by decide +kernel
theorem dX12_find_32 : decode cX12_find 32 = .ok (.iload_n 2, 1) := by decide +kernel
theorem dX12_find_33 : decode cX12_find 33 = .ok (.if_icmp .ne 10, 3) := by decide +kernel
theorem dX12_find_36 : decode cX12_find 36 = .ok (.aload_n 0, 1) := by decide +kernel
theorem dX12_find_37 : decode cX12_find 37 = .ok (.getfield 46, 3) := by decide +kernel
theorem dX12_find_40 : decode cX12_find 40 = .ok (.iload_n 3, 1) := by decide +kernel
theorem dX12_find_41 : decode cX12_find 41 = .ok (.iaload, 1) := by decide +kernel
theorem dX12_find_42 : decode cX12_find 42 = .ok (.ireturn, 1) := by decide +kernel
theorem dX12_find_43 : decode cX12_find 43 = .ok (.iinc 3 1, 3) := by decide +kernel
theorem dX12_find_46 : decode cX12_find 46 = .ok (.goto (-44), 3) := by decide +kernel
theorem dX12_find_49 : decode cX12_find 49 = .ok (.iconst (-1), 1) := by decide +kernel
theorem dX12_find_50 : decode cX12_find 50 = .ok (.ireturn, 1) := by decide +kernel
def bX12_find_43  (r2 : Int32 → Int32 → Int32 → Hp → Option (Int32 × Hp)) (x1 : Int32) (x2 : Int32) (x3 : Int32) (h : Hp) : Option (Int32 × Hp) := lt (x3 + 1) (fun v1 => r2 x1 x2 v1 h)
set_option maxRecDepth 20000 in
theorem BX12_find_43 {Z : ZT} {G : GT} {r : Int32} {hr : Hp} (X : CX Z G cX12_find RX12 4 0) (E : RX Z G (some .int) (some (.int r)) hr) (hz : HZM Z) (r2 : Int32 → Int32 → Int32 → Hp → Option (Int32 × Hp)) (hr2 : ∀ (x1 : Int32) (x2 : Int32) (x3 : Int32) (h : Hp), r2 x1 x2 x3 h = some (r, hr) → J Z G 4 h 2 [(0, .ref (Z.2.1 0)), (1, .int x1), (2, .int x2), (3, .int x3)] []) (x1 : Int32) (x2 : Int32) (x3 : Int32) (h : Hp) (hF : bX12_find_43  r2 x1 x2 x3 h = some (r, hr)) : J Z G 4 h 43 [(0, .ref (Z.2.1 0)), (1, .int x1), (2, .int x2), (3, .int x3)] [] := by
  unfold bX12_find_43 at hF
  refine j_iinc (pc := 43) 3 (x3 + 1) (fun y => [(3, .int y), (0, .ref (Z.2.1 0)), (1, .int x1), (2, .int x2)]) X dX12_find_43 rfl rfl (by decide) (fun _ => rfl) hF (fun v1 hF => ?_)
  refine j_goto (pc := 46) 2 X dX12_find_46 rfl ?_
  refine j_lv [(0, .ref (Z.2.1 0)), (1, .int x1), (2, .int x2), (3, .int v1)] [1, 2, 3, 0] rfl ?_
  exact hr2 x1 x2 v1 h hF
def bX12_find_2   (r2 : Int32 → Int32 → Int32 → Hp → Option (Int32 × Hp)) (x1 : Int32) (x2 : Int32) (x3 : Int32) (h : Hp) : Option (Int32 × Hp) := (if (h.1 0 20) ≤ x3 then some ((-1), h) else ck (inb x3 24) (ck (inb x1 403) ((if (lg_cmp (h.2 8 (ix x3)) (h.2 6 (ix x1))) = 0 then ck (inb x3 24) ((if (h.1 9 (ix x3)) = x2 then ck (inb x3 24) (some ((h.1 10 (ix x3)), h)) else bX12_find_43 r2 x1 x2 x3 h)) else bX12_find_43 r2 x1 x2 x3 h))))
def lX12_find_2   : Nat → Int32 → Int32 → Int32 → Hp → Option (Int32 × Hp)
  | 0 => fun _ _ _ _ => none
  | n + 1 => bX12_find_2   (lX12_find_2   n)
set_option maxRecDepth 20000 in
theorem BX12_find_2 {Z : ZT} {G : GT} {r : Int32} {hr : Hp} (X : CX Z G cX12_find RX12 4 0) (E : RX Z G (some .int) (some (.int r)) hr) (hz : HZM Z)  (r2 : Int32 → Int32 → Int32 → Hp → Option (Int32 × Hp)) (hr2 : ∀ (x1 : Int32) (x2 : Int32) (x3 : Int32) (h : Hp), r2 x1 x2 x3 h = some (r, hr) → J Z G 4 h 2 [(0, .ref (Z.2.1 0)), (1, .int x1), (2, .int x2), (3, .int x3)] []) (x1 : Int32) (x2 : Int32) (x3 : Int32) (h : Hp) (hF : bX12_find_2   r2 x1 x2 x3 h = some (r, hr)) : J Z G 4 h 2 [(0, .ref (Z.2.1 0)), (1, .int x1), (2, .int x2), (3, .int x3)] [] := by
  unfold bX12_find_2 at hF
  refine j_iload_n (pc := 2) 3 X dX12_find_2 rfl ?_
  refine j_aload_n (pc := 3) 0 X dX12_find_3 rfl ?_
  refine j_geti (pc := 4) X dX12_find_4 (hz _ sh_0) fl_X12_290 rfl ?_
  refine j_icmp_ge (pc := 7) 49 X dX12_find_7 rfl hF (fun hF => ?_) (fun hF => ?_)
  · refine j_iconst (pc := 49) (-1) X dX12_find_49 rfl ?_
    exact j_iret (pc := 50) X E dX12_find_50 hF
  · refine j_aload_n (pc := 10) 0 X dX12_find_10 rfl ?_
    refine j_getr (pc := 11) X dX12_find_11 (hz _ sh_0) fl_X12_40 rfl ?_
    refine j_iload_n (pc := 14) 3 X dX12_find_14 rfl ?_
    refine j_lald (pc := 15) X dX12_find_15 (hz _ sh_8) hF (fun hF => ?_)
    refine j_aload_n (pc := 16) 0 X dX12_find_16 rfl ?_
    refine j_getr (pc := 17) X dX12_find_17 (hz _ sh_0) fl_X12_30 rfl ?_
    refine j_iload_n (pc := 20) 1 X dX12_find_20 rfl ?_
    refine j_lald (pc := 21) X dX12_find_21 (hz _ sh_6) hF (fun hF => ?_)
    refine j_lcmp (pc := 22) X dX12_find_22 ?_
    refine j_if_ne (pc := 23) 43 X dX12_find_23 rfl hF (fun hF => ?_) (fun hF => ?_)
    · exact BX12_find_43 X E hz r2 hr2 x1 x2 x3 h hF
    · refine j_aload_n (pc := 26) 0 X dX12_find_26 rfl ?_
      refine j_getr (pc := 27) X dX12_find_27 (hz _ sh_0) fl_X12_43 rfl ?_
      refine j_iload_n (pc := 30) 3 X dX12_find_30 rfl ?_
      refine j_iald (pc := 31) X dX12_find_31 (hz _ sh_9) hF (fun hF => ?_)
      refine j_iload_n (pc := 32) 2 X dX12_find_32 rfl ?_
      refine j_icmp_ne (pc := 33) 43 X dX12_find_33 rfl hF (fun hF => ?_) (fun hF => ?_)
      · exact BX12_find_43 X E hz r2 hr2 x1 x2 x3 h hF
      · refine j_aload_n (pc := 36) 0 X dX12_find_36 rfl ?_
        refine j_getr (pc := 37) X dX12_find_37 (hz _ sh_0) fl_X12_46 rfl ?_
        refine j_iload_n (pc := 40) 3 X dX12_find_40 rfl ?_
        refine j_iald (pc := 41) X dX12_find_41 (hz _ sh_10) hF (fun hF => ?_)
        exact j_iret (pc := 42) X E dX12_find_42 hF
theorem LX12_find_2 {Z : ZT} {G : GT} {r : Int32} {hr : Hp} (X : CX Z G cX12_find RX12 4 0) (E : RX Z G (some .int) (some (.int r)) hr) (hz : HZM Z)  : ∀ (n : Nat) (x1 : Int32) (x2 : Int32) (x3 : Int32) (h : Hp), lX12_find_2   n x1 x2 x3 h = some (r, hr) → J Z G 4 h 2 [(0, .ref (Z.2.1 0)), (1, .int x1), (2, .int x2), (3, .int x3)] [] := by
  intro n
  induction n with
  | zero => intro x1 x2 x3 h hF; cases hF
  | succ n ih => intro x1 x2 x3 h hF; exact BX12_find_2 X E hz  (lX12_find_2   n) ih x1 x2 x3 h hF
def fX12_find (a1 : Int32) (a2 : Int32) (h : Hp) : Option (Int32 × Hp) := lt 0 (fun v1 => lX12_find_2 FU a1 a2 v1 h)
set_option maxRecDepth 20000 in
theorem tX12_find (Z : ZT) (a1 : Int32) (a2 : Int32) (hz : HZM Z) (h : Hp) (r : Int32) (hr : Hp) (hF : fX12_find a1 a2 h = some (r, hr)) : MC Z yX12_find cX12_find 4 (some .int) 0 [.ref (Z.2.1 0), .int a1, .int a2] h (some (.int r)) hr := by
  unfold fX12_find at hF
  refine mc_start (by decide) (Nat.le_of_ble_eq_true rfl) (fun G X E => ?_)
  refine j_iconst (pc := 0) 0 X dX12_find_0 rfl ?_
  refine j_istore_n (pc := 1) (fun y => [(3, .int y), (0, .ref (Z.2.1 0)), (1, .int a1), (2, .int a2)]) X dX12_find_1 (by decide) (fun _ => rfl) hF (fun v1 hF => ?_)
  refine j_lv [(0, .ref (Z.2.1 0)), (1, .int a1), (2, .int a2), (3, .int v1)] [1, 2, 3, 0] rfl ?_
  exact LX12_find_2 X E hz FU a1 a2 v1 h hF
theorem dX12_known_0 : decode cX12_known 0 = .ok (.aload_n 0, 1) := by decide +kernel
theorem dX12_known_1 : decode cX12_known 1 = .ok (.getfield 257, 3) := by decide +kernel
theorem dX12_known_4 : decode cX12_known 4 = .ok (.istore_n 2, 1) := by decide +kernel
theorem dX12_known_5 : decode cX12_known 5 = .ok (.aload_n 0, 1) := by decide +kernel
theorem dX12_known_6 : decode cX12_known 6 = .ok (.iconst 1, 1) := by decide +kernel
theorem dX12_known_7 : decode cX12_known 7 = .ok (.invokevirtual 331, 3) := by decide +kernel
theorem dX12_known_10 : decode cX12_known 10 = .ok (.aload_n 0, 1) := by decide +kernel
theorem dX12_known_11 : decode cX12_known 11 = .ok (.getfield 254, 3) := by decide +kernel
theorem dX12_known_14 : decode cX12_known 14 = .ok (.ifCond .le 5, 3) := by decide +kernel
theorem dX12_known_17 : decode cX12_known 17 = .ok (.iconst (-1), 1) := by decide +kernel
theorem dX12_known_18 : decode cX12_known 18 = .ok (.ireturn, 1) := by decide +kernel
theorem dX12_known_19 : decode cX12_known 19 = .ok (.aload_n 0, 1) := by decide +kernel
theorem dX12_known_20 : decode cX12_known 20 = .ok (.iload_n 2, 1) := by decide +kernel
theorem dX12_known_21 : decode cX12_known 21 = .ok (.iload_n 1, 1) := by decide +kernel
theorem dX12_known_22 : decode cX12_known 22 = .ok (.invokevirtual 308, 3) := by decide +kernel
theorem dX12_known_25 : decode cX12_known 25 = .ok (.istore_n 3, 1) := by decide +kernel
theorem dX12_known_26 : decode cX12_known 26 = .ok (.iload_n 3, 1) := by decide +kernel
theorem dX12_known_27 : decode cX12_known 27 = .ok (.iconst (-1), 1) := by decide +kernel
theorem dX12_known_28 : decode cX12_known 28 = .ok (.if_icmp .ne 9, 3) := by decide +kernel
theorem dX12_known_31 : decode cX12_known 31 = .ok (.aload_n 0, 1) := by decide +kernel
theorem dX12_known_32 : decode cX12_known 32 = .ok (.iconst 4, 1) := by decide +kernel
theorem dX12_known_33 : decode cX12_known 33 = .ok (.iload_n 2, 1) := by decide +kernel
theorem dX12_known_34 : decode cX12_known 34 = .ok (.invokevirtual 312, 3) := by decide +kernel
theorem dX12_known_37 : decode cX12_known 37 = .ok (.iload_n 3, 1) := by decide +kernel
theorem dX12_known_38 : decode cX12_known 38 = .ok (.ireturn, 1) := by decide +kernel
def fX12_known (a1 : Int32) (h : Hp) : Option (Int32 × Hp) := lt (h.1 0 11) (fun v1 => bv (fX12_must 1 h) (fun h2 => (if (h2.1 0 13) ≤ 0 then bi (fX12_find v1 a1 h2) (fun w4 h3 => lt w4 (fun v5 => (if v5 = (-1) then bv (fX12_amiss 4 v1 h3) (fun h6 => some (v5, h6)) else some (v5, h3)))) else some ((-1), h2))))
set_option maxRecDepth 20000 in
theorem tX12_known (Z : ZT) (a1 : Int32) (hz : HZM Z) (h : Hp) (r : Int32) (hr : Hp) (hF : fX12_known a1 h = some (r, hr)) : MC Z yX12_known cX12_known 4 (some .int) 3 [.ref (Z.2.1 0), .int a1] h (some (.int r)) hr := by
  unfold fX12_known at hF
  refine mc_start (by decide) (Nat.le_of_ble_eq_true rfl) (fun G X E => ?_)
  refine j_aload_n (pc := 0) 0 X dX12_known_0 rfl ?_
  refine j_geti (pc := 1) X dX12_known_1 (hz _ sh_0) fl_X12_257 rfl ?_
  refine j_istore_n (pc := 4) (fun y => [(2, .int y), (0, .ref (Z.2.1 0)), (1, .int a1)]) X dX12_known_4 (by decide) (fun _ => rfl) hF (fun v1 hF => ?_)
  refine j_aload_n (pc := 5) 1 X dX12_known_5 rfl ?_
  refine j_iconst (pc := 6) 1 X dX12_known_6 rfl ?_
  refine j_cVv (pc := 7) (As := [.int 1]) (rest := []) X dX12_known_7 ml_X12_331 ck_X12_must cv_X12_must (hz _ sh_0) rfl (Nat.le_of_ble_eq_true rfl) rfl (Nat.le_of_ble_eq_true rfl) rfl hF (tX12_must Z 1 hz h) (fun h2 hF => ?_)
  refine j_aload_n (pc := 10) 1 X dX12_known_10 rfl ?_
  refine j_geti (pc := 11) X dX12_known_11 (hz _ sh_0) fl_X12_254 rfl ?_
  refine j_if_le (pc := 14) 19 X dX12_known_14 rfl hF (fun hF => ?_) (fun hF => ?_)
  · refine j_aload_n (pc := 19) 1 X dX12_known_19 rfl ?_
    refine j_iload_n (pc := 20) 0 X dX12_known_20 rfl ?_
    refine j_iload_n (pc := 21) 2 X dX12_known_21 rfl ?_
    refine j_cVi (pc := 22) (As := [.int v1, .int a1]) (rest := []) X dX12_known_22 ml_X12_308 ck_X12_find cv_X12_find (hz _ sh_0) rfl (Nat.le_of_ble_eq_true rfl) rfl (Nat.le_of_ble_eq_true rfl) rfl hF (tX12_find Z v1 a1 hz h2) (fun w4 h3 hF => ?_)
    refine j_istore_n (pc := 25) (fun y => [(3, .int y), (2, .int v1), (0, .ref (Z.2.1 0)), (1, .int a1)]) X dX12_known_25 (by decide) (fun _ => rfl) hF (fun v5 hF => ?_)
    refine j_iload_n (pc := 26) 0 X dX12_known_26 rfl ?_
    refine j_iconst (pc := 27) (-1) X dX12_known_27 rfl ?_
    refine j_icmp_ne (pc := 28) 37 X dX12_known_28 rfl hF (fun hF => ?_) (fun hF => ?_)
    · refine j_iload_n (pc := 37) 0 X dX12_known_37 rfl ?_
      exact j_iret (pc := 38) X E dX12_known_38 hF
    · refine j_aload_n (pc := 31) 2 X dX12_known_31 rfl ?_
      refine j_iconst (pc := 32) 4 X dX12_known_32 rfl ?_
      refine j_iload_n (pc := 33) 1 X dX12_known_33 rfl ?_
      refine j_cVv (pc := 34) (As := [.int 4, .int v1]) (rest := []) X dX12_known_34 ml_X12_312 ck_X12_amiss cv_X12_amiss (hz _ sh_0) rfl (Nat.le_of_ble_eq_true rfl) rfl (Nat.le_of_ble_eq_true rfl) rfl hF (tX12_amiss Z 4 v1 hz h3) (fun h6 hF => ?_)
      refine j_iload_n (pc := 37) 0 X dX12_known_37 rfl ?_
      exact j_iret (pc := 38) X E dX12_known_38 hF
  · refine j_iconst (pc := 17) (-1) X dX12_known_17 rfl ?_
    exact j_iret (pc := 18) X E dX12_known_18 hF
theorem dX12_tellBar_0 : decode cX12_tellBar 0 = .ok (.aload_n 0, 1) := by decide +kernel
theorem dX12_tellBar_1 : decode cX12_tellBar 1 = .ok (.invokevirtual 275, 3) := by decide +kernel
theorem dX12_tellBar_4 : decode cX12_tellBar 4 = .ok (.aload_n 0, 1) := by decide +kernel
theorem dX12_tellBar_5 : decode cX12_tellBar 5 = .ok (.iconst 1, 1) := by decide +kernel
theorem dX12_tellBar_6 : decode cX12_tellBar 6 = .ok (.invokevirtual 345, 3) := by decide +kernel
theorem dX12_tellBar_9 : decode cX12_tellBar 9 = .ok (.istore_n 1, 1) := by decide +kernel
theorem dX12_tellBar_10 : decode cX12_tellBar 10 = .ok (.aload_n 0, 1) := by decide +kernel
theorem dX12_tellBar_11 : decode cX12_tellBar 11 = .ok (.iconst 0, 1) := by decide +kernel
theorem dX12_tellBar_12 : decode cX12_tellBar 12 = .ok (.invokevirtual 345, 3) := by decide +kernel
theorem dX12_tellBar_15 : decode cX12_tellBar 15 = .ok (.istore_n 2, 1) := by decide +kernel
theorem dX12_tellBar_16 : decode cX12_tellBar 16 = .ok (.aload_n 0, 1) := by decide +kernel
theorem dX12_tellBar_17 : decode cX12_tellBar 17 = .ok (.iconst 4, 1) := by decide +kernel
theorem dX12_tellBar_18 : decode cX12_tellBar 18 = .ok (.invokevirtual 331, 3) := by decide +kernel
theorem dX12_tellBar_21 : decode cX12_tellBar 21 = .ok (.aload_n 0, 1) := by decide +kernel
theorem dX12_tellBar_22 : decode cX12_tellBar 22 = .ok (.getfield 254, 3) := by decide +kernel
theorem dX12_tellBar_25 : decode cX12_tellBar 25 = .ok (.ifCond .le 4, 3) := by decide +kernel
theorem dX12_tellBar_28 : decode cX12_tellBar 28 = .ok (.return_, 1) := by decide +kernel
theorem dX12_tellBar_29 : decode cX12_tellBar 29 = .ok (.aload_n 0, 1) := by decide +kernel
theorem dX12_tellBar_30 : decode cX12_tellBar 30 = .ok (.getfield 61, 3) := by decide +kernel
theorem dX12_tellBar_33 : decode cX12_tellBar 33 = .ok (.bipush 12, 2) := by decide +kernel
theorem dX12_tellBar_35 : decode cX12_tellBar 35 = .ok (.aload_n 0, 1) := by decide +kernel
theorem dX12_tellBar_36 : decode cX12_tellBar 36 = .ok (.getfield 287, 3) := by decide +kernel
theorem dX12_tellBar_39 : decode cX12_tellBar 39 = .ok (.imul, 1) := by decide +kernel
theorem dX12_tellBar_40 : decode cX12_tellBar 40 = .ok (.aload_n 0, 1) := by decide +kernel
theorem dX12_tellBar_41 : decode cX12_tellBar 41 = .ok (.getfield 58, 3) := by decide +kernel
theorem dX12_tellBar_44 : decode cX12_tellBar 44 = .ok (.aload_n 0, 1) := by decide +kernel
theorem dX12_tellBar_45 : decode cX12_tellBar 45 = .ok (.getfield 287, 3) := by decide +kernel
theorem dX12_tellBar_48 : decode cX12_tellBar 48 = .ok (.iaload, 1) := by decide +kernel
theorem dX12_tellBar_49 : decode cX12_tellBar 49 = .ok (.iadd, 1) := by decide +kernel
theorem dX12_tellBar_50 : decode cX12_tellBar 50 = .ok (.iload_n 1, 1) := by decide +kernel
theorem dX12_tellBar_51 : decode cX12_tellBar 51 = .ok (.iastore, 1) := by decide +kernel
theorem dX12_tellBar_52 : decode cX12_tellBar 52 = .ok (.aload_n 0, 1) := by decide +kernel
theorem dX12_tellBar_53 : decode cX12_tellBar 53 = .ok (.getfield 64, 3) := by decide +kernel
theorem dX12_tellBar_56 : decode cX12_tellBar 56 = .ok (.bipush 12, 2) := by decide +kernel
theorem dX12_tellBar_58 : decode cX12_tellBar 58 = .ok (.aload_n 0, 1) := by decide +kernel
theorem dX12_tellBar_59 : decode cX12_tellBar 59 = .ok (.getfield 287, 3) := by decide +kernel
theorem dX12_tellBar_62 : decode cX12_tellBar 62 = .ok (.imul, 1) := by decide +kernel
theorem dX12_tellBar_63 : decode cX12_tellBar 63 = .ok (.aload_n 0, 1) := by decide +kernel
theorem dX12_tellBar_64 : decode cX12_tellBar 64 = .ok (.getfield 58, 3) := by decide +kernel
theorem dX12_tellBar_67 : decode cX12_tellBar 67 = .ok (.aload_n 0, 1) := by decide +kernel
theorem dX12_tellBar_68 : decode cX12_tellBar 68 = .ok (.getfield 287, 3) := by decide +kernel
theorem dX12_tellBar_71 : decode cX12_tellBar 71 = .ok (.iaload, 1) := by decide +kernel
theorem dX12_tellBar_72 : decode cX12_tellBar 72 = .ok (.iadd, 1) := by decide +kernel
theorem dX12_tellBar_73 : decode cX12_tellBar 73 = .ok (.iload_n 2, 1) := by decide +kernel
theorem dX12_tellBar_74 : decode cX12_tellBar 74 = .ok (.iastore, 1) := by decide +kernel
theorem dX12_tellBar_75 : decode cX12_tellBar 75 = .ok (.aload_n 0, 1) := by decide +kernel
theorem dX12_tellBar_76 : decode cX12_tellBar 76 = .ok (.getfield 58, 3) := by decide +kernel
theorem dX12_tellBar_79 : decode cX12_tellBar 79 = .ok (.aload_n 0, 1) := by decide +kernel
theorem dX12_tellBar_80 : decode cX12_tellBar 80 = .ok (.getfield 287, 3) := by decide +kernel
theorem dX12_tellBar_83 : decode cX12_tellBar 83 = .ok (.dup2, 1) := by decide +kernel
theorem dX12_tellBar_84 : decode cX12_tellBar 84 = .ok (.iaload, 1) := by decide +kernel
theorem dX12_tellBar_85 : decode cX12_tellBar 85 = .ok (.iconst 1, 1) := by decide +kernel
theorem dX12_tellBar_86 : decode cX12_tellBar 86 = .ok (.iadd, 1) := by decide +kernel
theorem dX12_tellBar_87 : decode cX12_tellBar 87 = .ok (.iastore, 1) := by decide +kernel
theorem dX12_tellBar_88 : decode cX12_tellBar 88 = .ok (.return_, 1) := by decide +kernel
def fX12_tellBar  (h : Hp) : Option (Hp) := bv (fX12_goesOn h) (fun h1 => bi (fX12_known 1 h1) (fun w3 h2 => lt w3 (fun v4 => bi (fX12_known 0 h2) (fun w6 h5 => lt w6 (fun v7 => bv (fX12_must 4 h5) (fun h8 => (if (h8.1 0 13) ≤ 0 then ck (inb (h8.1 0 19) 2) (ck (inb (((12 : Int32) * (h8.1 0 19)) + (h8.1 14 (ix (h8.1 0 19)))) 24) (lt (wI h8 15 (ix (((12 : Int32) * (h8.1 0 19)) + (h8.1 14 (ix (h8.1 0 19))))) v4) (fun h9 => ck (inb (h9.1 0 19) 2) (ck (inb (((12 : Int32) * (h9.1 0 19)) + (h9.1 14 (ix (h9.1 0 19)))) 24) (lt (wI h9 16 (ix (((12 : Int32) * (h9.1 0 19)) + (h9.1 14 (ix (h9.1 0 19))))) v7) (fun h10 => ck (inb (h10.1 0 19) 2) (ck (inb (h10.1 0 19) 2) (lt (wI h10 14 (ix (h10.1 0 19)) ((h10.1 14 (ix (h10.1 0 19))) + 1)) (fun h11 => some h11))))))))) else some h8)))))))
set_option maxRecDepth 20000 in
theorem tX12_tellBar (Z : ZT)  (hz : HZM Z) (h : Hp) (hr : Hp) (hF : fX12_tellBar  h = some hr) : MC Z yX12_tellBar cX12_tellBar 3 none 4 [.ref (Z.2.1 0)] h (none) hr := by
  unfold fX12_tellBar at hF
  refine mc_start (by decide) (Nat.le_of_ble_eq_true rfl) (fun G X E => ?_)
  refine j_aload_n (pc := 0) 0 X dX12_tellBar_0 rfl ?_
  refine j_cVv (pc := 1) (As := []) (rest := []) X dX12_tellBar_1 ml_X12_275 ck_X12_goesOn cv_X12_goesOn (hz _ sh_0) rfl (Nat.le_of_ble_eq_true rfl) rfl (Nat.le_of_ble_eq_true rfl) rfl hF (tX12_goesOn Z hz h) (fun h1 hF => ?_)
  refine j_aload_n (pc := 4) 0 X dX12_tellBar_4 rfl ?_
  refine j_iconst (pc := 5) 1 X dX12_tellBar_5 rfl ?_
  refine j_cVi (pc := 6) (As := [.int 1]) (rest := []) X dX12_tellBar_6 ml_X12_345 ck_X12_known cv_X12_known (hz _ sh_0) rfl (Nat.le_of_ble_eq_true rfl) rfl (Nat.le_of_ble_eq_true rfl) rfl hF (tX12_known Z 1 hz h1) (fun w3 h2 hF => ?_)
  refine j_istore_n (pc := 9) (fun y => [(1, .int y), (0, .ref (Z.2.1 0))]) X dX12_tellBar_9 (by decide) (fun _ => rfl) hF (fun v4 hF => ?_)
  refine j_aload_n (pc := 10) 1 X dX12_tellBar_10 rfl ?_
  refine j_iconst (pc := 11) 0 X dX12_tellBar_11 rfl ?_
  refine j_cVi (pc := 12) (As := [.int 0]) (rest := []) X dX12_tellBar_12 ml_X12_345 ck_X12_known cv_X12_known (hz _ sh_0) rfl (Nat.le_of_ble_eq_true rfl) rfl (Nat.le_of_ble_eq_true rfl) rfl hF (tX12_known Z 0 hz h2) (fun w6 h5 hF => ?_)
  refine j_istore_n (pc := 15) (fun y => [(2, .int y), (1, .int v4), (0, .ref (Z.2.1 0))]) X dX12_tellBar_15 (by decide) (fun _ => rfl) hF (fun v7 hF => ?_)
  refine j_aload_n (pc := 16) 2 X dX12_tellBar_16 rfl ?_
  refine j_iconst (pc := 17) 4 X dX12_tellBar_17 rfl ?_
  refine j_cVv (pc := 18) (As := [.int 4]) (rest := []) X dX12_tellBar_18 ml_X12_331 ck_X12_must cv_X12_must (hz _ sh_0) rfl (Nat.le_of_ble_eq_true rfl) rfl (Nat.le_of_ble_eq_true rfl) rfl hF (tX12_must Z 4 hz h5) (fun h8 hF => ?_)
  refine j_aload_n (pc := 21) 2 X dX12_tellBar_21 rfl ?_
  refine j_geti (pc := 22) X dX12_tellBar_22 (hz _ sh_0) fl_X12_254 rfl ?_
  refine j_if_le (pc := 25) 29 X dX12_tellBar_25 rfl hF (fun hF => ?_) (fun hF => ?_)
  · refine j_aload_n (pc := 29) 2 X dX12_tellBar_29 rfl ?_
    refine j_getr (pc := 30) X dX12_tellBar_30 (hz _ sh_0) fl_X12_61 rfl ?_
    refine j_bipush (pc := 33) 12 X dX12_tellBar_33 rfl ?_
    refine j_aload_n (pc := 35) 2 X dX12_tellBar_35 rfl ?_
    refine j_geti (pc := 36) X dX12_tellBar_36 (hz _ sh_0) fl_X12_287 rfl ?_
    refine j_imul (pc := 39) X dX12_tellBar_39 ?_
    refine j_aload_n (pc := 40) 2 X dX12_tellBar_40 rfl ?_
    refine j_getr (pc := 41) X dX12_tellBar_41 (hz _ sh_0) fl_X12_58 rfl ?_
    refine j_aload_n (pc := 44) 2 X dX12_tellBar_44 rfl ?_
    refine j_geti (pc := 45) X dX12_tellBar_45 (hz _ sh_0) fl_X12_287 rfl ?_
    refine j_iald (pc := 48) X dX12_tellBar_48 (hz _ sh_14) hF (fun hF => ?_)
    refine j_iadd (pc := 49) X dX12_tellBar_49 ?_
    refine j_iload_n (pc := 50) 1 X dX12_tellBar_50 rfl ?_
    refine j_iast (pc := 51) X dX12_tellBar_51 (hz _ sh_15) hF (fun h9 hF => ?_)
    refine j_aload_n (pc := 52) 2 X dX12_tellBar_52 rfl ?_
    refine j_getr (pc := 53) X dX12_tellBar_53 (hz _ sh_0) fl_X12_64 rfl ?_
    refine j_bipush (pc := 56) 12 X dX12_tellBar_56 rfl ?_
    refine j_aload_n (pc := 58) 2 X dX12_tellBar_58 rfl ?_
    refine j_geti (pc := 59) X dX12_tellBar_59 (hz _ sh_0) fl_X12_287 rfl ?_
    refine j_imul (pc := 62) X dX12_tellBar_62 ?_
    refine j_aload_n (pc := 63) 2 X dX12_tellBar_63 rfl ?_
    refine j_getr (pc := 64) X dX12_tellBar_64 (hz _ sh_0) fl_X12_58 rfl ?_
    refine j_aload_n (pc := 67) 2 X dX12_tellBar_67 rfl ?_
    refine j_geti (pc := 68) X dX12_tellBar_68 (hz _ sh_0) fl_X12_287 rfl ?_
    refine j_iald (pc := 71) X dX12_tellBar_71 (hz _ sh_14) hF (fun hF => ?_)
    refine j_iadd (pc := 72) X dX12_tellBar_72 ?_
    refine j_iload_n (pc := 73) 0 X dX12_tellBar_73 rfl ?_
    refine j_iast (pc := 74) X dX12_tellBar_74 (hz _ sh_16) hF (fun h10 hF => ?_)
    refine j_aload_n (pc := 75) 2 X dX12_tellBar_75 rfl ?_
    refine j_getr (pc := 76) X dX12_tellBar_76 (hz _ sh_0) fl_X12_58 rfl ?_
    refine j_aload_n (pc := 79) 2 X dX12_tellBar_79 rfl ?_
    refine j_geti (pc := 80) X dX12_tellBar_80 (hz _ sh_0) fl_X12_287 rfl ?_
    refine j_dup2 (pc := 83) X dX12_tellBar_83 rfl rfl ?_
    refine j_iald (pc := 84) X dX12_tellBar_84 (hz _ sh_14) hF (fun hF => ?_)
    refine j_iconst (pc := 85) 1 X dX12_tellBar_85 rfl ?_
    refine j_iadd (pc := 86) X dX12_tellBar_86 ?_
    refine j_iast (pc := 87) X dX12_tellBar_87 (hz _ sh_14) hF (fun h11 hF => ?_)
    exact j_vret (pc := 88) X E dX12_tellBar_88 hF
  · exact j_vret (pc := 28) X E dX12_tellBar_28 hF
theorem dX12_emit_0 : decode cX12_emit 0 = .ok (.aload_n 0, 1) := by decide +kernel
theorem dX12_emit_1 : decode cX12_emit 1 = .ok (.getfield 122, 3) := by decide +kernel
theorem dX12_emit_4 : decode cX12_emit 4 = .ok (.aload_n 0, 1) := by decide +kernel
theorem dX12_emit_5 : decode cX12_emit 5 = .ok (.getfield 296, 3) := by decide +kernel
theorem dX12_emit_8 : decode cX12_emit 8 = .ok (.iload_n 1, 1) := by decide +kernel
theorem dX12_emit_9 : decode cX12_emit 9 = .ok (.iastore, 1) := by decide +kernel
theorem dX12_emit_10 : decode cX12_emit 10 = .ok (.aload_n 0, 1) := by decide +kernel
theorem dX12_emit_11 : decode cX12_emit 11 = .ok (.getfield 125, 3) := by decide +kernel
theorem dX12_emit_14 : decode cX12_emit 14 = .ok (.aload_n 0, 1) := by decide +kernel
theorem dX12_emit_15 : decode cX12_emit 15 = .ok (.getfield 296, 3) := by decide +kernel
theorem dX12_emit_18 : decode cX12_emit 18 = .ok (.iload_n 2, 1) := by decide +kernel
theorem dX12_emit_19 : decode cX12_emit 19 = .ok (.iastore, 1) := by decide +kernel
theorem dX12_emit_20 : decode cX12_emit 20 = .ok (.aload_n 0, 1) := by decide +kernel
theorem dX12_emit_21 : decode cX12_emit 21 = .ok (.dup, 1) := by decide +kernel
theorem dX12_emit_22 : decode cX12_emit 22 = .ok (.getfield 296, 3) := by decide +kernel
theorem dX12_emit_25 : decode cX12_emit 25 = .ok (.iconst 1, 1) := by decide +kernel
theorem dX12_emit_26 : decode cX12_emit 26 = .ok (.iadd, 1) := by decide +kernel
theorem dX12_emit_27 : decode cX12_emit 27 = .ok (.putfield 296, 3) := by decide +kernel
theorem dX12_emit_30 : decode cX12_emit 30 = .ok (.return_, 1) := by decide +kernel
def fX12_emit (a1 : Int32) (a2 : Int32) (h : Hp) : Option (Hp) := ck (inb (h.1 0 49) 840) (lt (wI h 35 (ix (h.1 0 49)) a1) (fun h1 => ck (inb (h1.1 0 49) 840) (lt (wI h1 36 (ix (h1.1 0 49)) a2) (fun h2 => lt (wI h2 0 49 ((h2.1 0 49) + 1)) (fun h3 => some h3)))))
set_option maxRecDepth 20000 in
theorem tX12_emit (Z : ZT) (a1 : Int32) (a2 : Int32) (hz : HZM Z) (h : Hp) (hr : Hp) (hF : fX12_emit a1 a2 h = some hr) : MC Z yX12_emit cX12_emit 3 none 0 [.ref (Z.2.1 0), .int a1, .int a2] h (none) hr := by
  unfold fX12_emit at hF
  refine mc_start (by decide) (Nat.le_of_ble_eq_true rfl) (fun G X E => ?_)
  refine j_aload_n (pc := 0) 0 X dX12_emit_0 rfl ?_
  refine j_getr (pc := 1) X dX12_emit_1 (hz _ sh_0) fl_X12_122 rfl ?_
  refine j_aload_n (pc := 4) 0 X dX12_emit_4 rfl ?_
  refine j_geti (pc := 5) X dX12_emit_5 (hz _ sh_0) fl_X12_296 rfl ?_
  refine j_iload_n (pc := 8) 1 X dX12_emit_8 rfl ?_
  refine j_iast (pc := 9) X dX12_emit_9 (hz _ sh_35) hF (fun h1 hF => ?_)
  refine j_aload_n (pc := 10) 0 X dX12_emit_10 rfl ?_
  refine j_getr (pc := 11) X dX12_emit_11 (hz _ sh_0) fl_X12_125 rfl ?_
  refine j_aload_n (pc := 14) 0 X dX12_emit_14 rfl ?_
  refine j_geti (pc := 15) X dX12_emit_15 (hz _ sh_0) fl_X12_296 rfl ?_
  refine j_iload_n (pc := 18) 2 X dX12_emit_18 rfl ?_
  refine j_iast (pc := 19) X dX12_emit_19 (hz _ sh_36) hF (fun h2 hF => ?_)
  refine j_aload_n (pc := 20) 0 X dX12_emit_20 rfl ?_
  refine j_dup (pc := 21) X dX12_emit_21 rfl ?_
  refine j_geti (pc := 22) X dX12_emit_22 (hz _ sh_0) fl_X12_296 rfl ?_
  refine j_iconst (pc := 25) 1 X dX12_emit_25 rfl ?_
  refine j_iadd (pc := 26) X dX12_emit_26 ?_
  refine j_puti (pc := 27) X dX12_emit_27 (hz _ sh_0) fp_X12_296 rfl hF (fun h3 hF => ?_)
  exact j_vret (pc := 30) X E dX12_emit_30 hF
theorem dX12_unit_0 : decode cX12_unit 0 = .ok (.aload_n 0, 1) := by decide +kernel
theorem dX12_unit_1 : decode cX12_unit 1 = .ok (.iconst 2, 1) := by decide +kernel
theorem dX12_unit_2 : decode cX12_unit 2 = .ok (.invokevirtual 272, 3) := by decide +kernel
theorem dX12_unit_5 : decode cX12_unit 5 = .ok (.ifCond .eq 24, 3) := by decide +kernel
theorem dX12_unit_8 : decode cX12_unit 8 = .ok (.aload_n 0, 1) := by decide +kernel
theorem dX12_unit_9 : decode cX12_unit 9 = .ok (.iconst 0, 1) := by decide +kernel
theorem dX12_unit_10 : decode cX12_unit 10 = .ok (.aload_n 0, 1) := by decide +kernel
theorem dX12_unit_11 : decode cX12_unit 11 = .ok (.getfield 27, 3) := by decide +kernel
theorem dX12_unit_14 : decode cX12_unit 14 = .ok (.aload_n 0, 1) := by decide +kernel
theorem dX12_unit_15 : decode cX12_unit 15 = .ok (.getfield 257, 3) := by decide +kernel
theorem dX12_unit_18 : decode cX12_unit 18 = .ok (.iaload, 1) := by decide +kernel
theorem dX12_unit_19 : decode cX12_unit 19 = .ok (.invokevirtual 358, 3) := by decide +kernel
theorem dX12_unit_22 : decode cX12_unit 22 = .ok (.aload_n 0, 1) := by decide +kernel
theorem dX12_unit_23 : decode cX12_unit 23 = .ok (.invokevirtual 275, 3) := by decide +kernel
theorem dX12_unit_26 : decode cX12_unit 26 = .ok (.goto 67, 3) := by decide +kernel
theorem dX12_unit_29 : decode cX12_unit 29 = .ok (.aload_n 0, 1) := by decide +kernel
theorem dX12_unit_30 : decode cX12_unit 30 = .ok (.getfield 254, 3) := by decide +kernel
theorem dX12_unit_33 : decode cX12_unit 33 = .ok (.ifCond .ne 55, 3) := by decide +kernel
theorem dX12_unit_36 : decode cX12_unit 36 = .ok (.aload_n 0, 1) := by decide +kernel
theorem dX12_unit_37 : decode cX12_unit 37 = .ok (.getfield 20, 3) := by decide +kernel
theorem dX12_unit_40 : decode cX12_unit 40 = .ok (.aload_n 0, 1) := by decide +kernel
theorem dX12_unit_41 : decode cX12_unit 41 = .ok (.getfield 257, 3) := by decide +kernel
theorem dX12_unit_44 : decode cX12_unit 44 = .ok (.iaload, 1) := by decide +kernel
theorem dX12_unit_45 : decode cX12_unit 45 = .ok (.bipush 34, 2) := by decide +kernel
theorem dX12_unit_47 : decode cX12_unit 47 = .ok (.if_icmp .lt 41, 3) := by decide +kernel
theorem dX12_unit_50 : decode cX12_unit 50 = .ok (.aload_n 0, 1) := by decide +kernel
theorem dX12_unit_51 : decode cX12_unit 51 = .ok (.getfield 20, 3) := by decide +kernel
theorem dX12_unit_54 : decode cX12_unit 54 = .ok (.aload_n 0, 1) := by decide +kernel
theorem dX12_unit_55 : decode cX12_unit 55 = .ok (.getfield 257, 3) := by decide +kernel
theorem dX12_unit_58 : decode cX12_unit 58 = .ok (.iaload, 1) := by decide +kernel
theorem dX12_unit_59 : decode cX12_unit 59 = .ok (.bipush 37, 2) := by decide +kernel
theorem dX12_unit_61 : decode cX12_unit 61 = .ok (.if_icmp .gt 27, 3) := by decide +kernel
theorem dX12_unit_64 : decode cX12_unit 64 = .ok (.aload_n 0, 1) := by decide +kernel
theorem dX12_unit_65 : decode cX12_unit 65 = .ok (.iconst 1, 1) := by decide +kernel
theorem dX12_unit_66 : decode cX12_unit 66 = .ok (.aload_n 0, 1) := by decide +kernel
theorem dX12_unit_67 : decode cX12_unit 67 = .ok (.getfield 20, 3) := by decide +kernel
theorem dX12_unit_70 : decode cX12_unit 70 = .ok (.aload_n 0, 1) := by decide +kernel
theorem dX12_unit_71 : decode cX12_unit 71 = .ok (.getfield 257, 3) := by decide +kernel
theorem dX12_unit_74 : decode cX12_unit 74 = .ok (.iaload, 1) := by decide +kernel
theorem dX12_unit_75 : decode cX12_unit 75 = .ok (.bipush 34, 2) := by decide +kernel
theorem dX12_unit_77 : decode cX12_unit 77 = .ok (.isub, 1) := by decide +kernel
theorem dX12_unit_78 : decode cX12_unit 78 = .ok (.invokevirtual 358, 3) := by decide +kernel
theorem dX12_unit_81 : decode cX12_unit 81 = .ok (.aload_n 0, 1) := by decide +kernel
theorem dX12_unit_82 : decode cX12_unit 82 = .ok (.invokevirtual 275, 3) := by decide +kernel
theorem dX12_unit_85 : decode cX12_unit 85 = .ok (.goto 8, 3) := by decide +kernel
theorem dX12_unit_88 : decode cX12_unit 88 = .ok (.aload_n 0, 1) := by decide +kernel
theorem dX12_unit_89 : decode cX12_unit 89 = .ok (.iconst 1, 1) := by decide +kernel
theorem dX12_unit_90 : decode cX12_unit 90 = .ok (.invokevirtual 269, 3) := by decide +kernel
theorem dX12_unit_93 : decode cX12_unit 93 = .ok (.return_, 1) := by decide +kernel
def bX12_unit_88    (h : Hp) : Option (Hp) := bv (fX12_fail 1 h) (fun h1 => some h1)
set_option maxRecDepth 20000 in
theorem BX12_unit_88 {Z : ZT} {G : GT} {hr : Hp} (X : CX Z G cX12_unit RX12 1 2) (E : RX Z G none (none) hr) (hz : HZM Z)   (h : Hp) (hF : bX12_unit_88    h = some hr) : J Z G 1 h 88 [(0, .ref (Z.2.1 0))] [] := by
  unfold bX12_unit_88 at hF
  refine j_aload_n (pc := 88) 0 X dX12_unit_88 rfl ?_
  refine j_iconst (pc := 89) 1 X dX12_unit_89 rfl ?_
  refine j_cVv (pc := 90) (As := [.int 1]) (rest := []) X dX12_unit_90 ml_X12_269 ck_X12_fail cv_X12_fail (hz _ sh_0) rfl (Nat.le_of_ble_eq_true rfl) rfl (Nat.le_of_ble_eq_true rfl) rfl hF (tX12_fail Z 1 hz h) (fun h1 hF => ?_)
  exact j_vret (pc := 93) X E dX12_unit_93 hF
def fX12_unit  (h : Hp) : Option (Hp) := bi (fX12_is 2 h) (fun w2 h1 => (if w2 = 0 then (if (h1.1 0 13) = 0 then ck (inb (h1.1 0 11) 403) ((if (h1.1 3 (ix (h1.1 0 11))) < 34 then bX12_unit_88 h1 else ck (inb (h1.1 0 11) 403) ((if 37 < (h1.1 3 (ix (h1.1 0 11))) then bX12_unit_88 h1 else ck (inb (h1.1 0 11) 403) (bv (fX12_emit 1 ((h1.1 3 (ix (h1.1 0 11))) - 34) h1) (fun h3 => bv (fX12_goesOn h3) (fun h4 => some h4))))))) else bX12_unit_88 h1) else ck (inb (h1.1 0 11) 403) (bv (fX12_emit 0 (h1.1 5 (ix (h1.1 0 11))) h1) (fun h5 => bv (fX12_goesOn h5) (fun h6 => some h6)))))
set_option maxRecDepth 20000 in
theorem tX12_unit (Z : ZT)  (hz : HZM Z) (h : Hp) (hr : Hp) (hF : fX12_unit  h = some hr) : MC Z yX12_unit cX12_unit 1 none 2 [.ref (Z.2.1 0)] h (none) hr := by
  unfold fX12_unit at hF
  refine mc_start (by decide) (Nat.le_of_ble_eq_true rfl) (fun G X E => ?_)
  refine j_aload_n (pc := 0) 0 X dX12_unit_0 rfl ?_
  refine j_iconst (pc := 1) 2 X dX12_unit_1 rfl ?_
  refine j_cVi (pc := 2) (As := [.int 2]) (rest := []) X dX12_unit_2 ml_X12_272 ck_X12_is cv_X12_is (hz _ sh_0) rfl (Nat.le_of_ble_eq_true rfl) rfl (Nat.le_of_ble_eq_true rfl) rfl hF (tX12_is Z 2 hz h) (fun w2 h1 hF => ?_)
  refine j_if_eq (pc := 5) 29 X dX12_unit_5 rfl hF (fun hF => ?_) (fun hF => ?_)
  · refine j_aload_n (pc := 29) 0 X dX12_unit_29 rfl ?_
    refine j_geti (pc := 30) X dX12_unit_30 (hz _ sh_0) fl_X12_254 rfl ?_
    refine j_if_ne (pc := 33) 88 X dX12_unit_33 rfl hF (fun hF => ?_) (fun hF => ?_)
    · exact BX12_unit_88 X E hz h1 hF
    · refine j_aload_n (pc := 36) 0 X dX12_unit_36 rfl ?_
      refine j_getr (pc := 37) X dX12_unit_37 (hz _ sh_0) fl_X12_20 rfl ?_
      refine j_aload_n (pc := 40) 0 X dX12_unit_40 rfl ?_
      refine j_geti (pc := 41) X dX12_unit_41 (hz _ sh_0) fl_X12_257 rfl ?_
      refine j_iald (pc := 44) X dX12_unit_44 (hz _ sh_3) hF (fun hF => ?_)
      refine j_bipush (pc := 45) 34 X dX12_unit_45 rfl ?_
      refine j_icmp_lt (pc := 47) 88 X dX12_unit_47 rfl hF (fun hF => ?_) (fun hF => ?_)
      · exact BX12_unit_88 X E hz h1 hF
      · refine j_aload_n (pc := 50) 0 X dX12_unit_50 rfl ?_
        refine j_getr (pc := 51) X dX12_unit_51 (hz _ sh_0) fl_X12_20 rfl ?_
        refine j_aload_n (pc := 54) 0 X dX12_unit_54 rfl ?_
        refine j_geti (pc := 55) X dX12_unit_55 (hz _ sh_0) fl_X12_257 rfl ?_
        refine j_iald (pc := 58) X dX12_unit_58 (hz _ sh_3) hF (fun hF => ?_)
        refine j_bipush (pc := 59) 37 X dX12_unit_59 rfl ?_
        refine j_icmp_gt (pc := 61) 88 X dX12_unit_61 rfl hF (fun hF => ?_) (fun hF => ?_)
        · exact BX12_unit_88 X E hz h1 hF
        · refine j_aload_n (pc := 64) 0 X dX12_unit_64 rfl ?_
          refine j_iconst (pc := 65) 1 X dX12_unit_65 rfl ?_
          refine j_aload_n (pc := 66) 0 X dX12_unit_66 rfl ?_
          refine j_getr (pc := 67) X dX12_unit_67 (hz _ sh_0) fl_X12_20 rfl ?_
          refine j_aload_n (pc := 70) 0 X dX12_unit_70 rfl ?_
          refine j_geti (pc := 71) X dX12_unit_71 (hz _ sh_0) fl_X12_257 rfl ?_
          refine j_iald (pc := 74) X dX12_unit_74 (hz _ sh_3) hF (fun hF => ?_)
          refine j_bipush (pc := 75) 34 X dX12_unit_75 rfl ?_
          refine j_isub (pc := 77) X dX12_unit_77 ?_
          refine j_cVv (pc := 78) (As := [.int 1, .int ((h1.1 3 (ix (h1.1 0 11))) - 34)]) (rest := []) X dX12_unit_78 ml_X12_358 ck_X12_emit cv_X12_emit (hz _ sh_0) rfl (Nat.le_of_ble_eq_true rfl) rfl (Nat.le_of_ble_eq_true rfl) rfl hF (tX12_emit Z 1 ((h1.1 3 (ix (h1.1 0 11))) - 34) hz h1) (fun h3 hF => ?_)
          refine j_aload_n (pc := 81) 0 X dX12_unit_81 rfl ?_
          refine j_cVv (pc := 82) (As := []) (rest := []) X dX12_unit_82 ml_X12_275 ck_X12_goesOn cv_X12_goesOn (hz _ sh_0) rfl (Nat.le_of_ble_eq_true rfl) rfl (Nat.le_of_ble_eq_true rfl) rfl hF (tX12_goesOn Z hz h3) (fun h4 hF => ?_)
          refine j_goto (pc := 85) 93 X dX12_unit_85 rfl ?_
          exact j_vret (pc := 93) X E dX12_unit_93 hF
  · refine j_aload_n (pc := 8) 0 X dX12_unit_8 rfl ?_
    refine j_iconst (pc := 9) 0 X dX12_unit_9 rfl ?_
    refine j_aload_n (pc := 10) 0 X dX12_unit_10 rfl ?_
    refine j_getr (pc := 11) X dX12_unit_11 (hz _ sh_0) fl_X12_27 rfl ?_
    refine j_aload_n (pc := 14) 0 X dX12_unit_14 rfl ?_
    refine j_geti (pc := 15) X dX12_unit_15 (hz _ sh_0) fl_X12_257 rfl ?_
    refine j_iald (pc := 18) X dX12_unit_18 (hz _ sh_5) hF (fun hF => ?_)
    refine j_cVv (pc := 19) (As := [.int 0, .int (h1.1 5 (ix (h1.1 0 11)))]) (rest := []) X dX12_unit_19 ml_X12_358 ck_X12_emit cv_X12_emit (hz _ sh_0) rfl (Nat.le_of_ble_eq_true rfl) rfl (Nat.le_of_ble_eq_true rfl) rfl hF (tX12_emit Z 0 (h1.1 5 (ix (h1.1 0 11))) hz h1) (fun h5 hF => ?_)
    refine j_aload_n (pc := 22) 0 X dX12_unit_22 rfl ?_
    refine j_cVv (pc := 23) (As := []) (rest := []) X dX12_unit_23 ml_X12_275 ck_X12_goesOn cv_X12_goesOn (hz _ sh_0) rfl (Nat.le_of_ble_eq_true rfl) rfl (Nat.le_of_ble_eq_true rfl) rfl hF (tX12_goesOn Z hz h5) (fun h6 hF => ?_)
    refine j_goto (pc := 26) 93 X dX12_unit_26 rfl ?_
    exact j_vret (pc := 93) X E dX12_unit_93 hF
theorem dX12_comesOut_0 : decode cX12_comesOut 0 = .ok (.aload_n 0, 1) := by decide +kernel
theorem dX12_comesOut_1 : decode cX12_comesOut 1 = .ok (.getfield 355, 3) := by decide +kernel
theorem dX12_comesOut_4 : decode cX12_comesOut 4 = .ok (.ifCond .le 87, 3) := by decide +kernel
theorem dX12_comesOut_7 : decode cX12_comesOut 7 = .ok (.aload_n 0, 1) := by decide +kernel
theorem dX12_comesOut_8 : decode cX12_comesOut 8 = .ok (.getfield 128, 3) := by decide +kernel
theorem dX12_comesOut_11 : decode cX12_comesOut 11 = .ok (.aload_n 0, 1) := by decide +kernel
theorem dX12_comesOut_12 : decode cX12_comesOut 12 = .ok (.getfield 355, 3) := by decide +kernel
theorem dX12_comesOut_15 : decode cX12_comesOut 15 = .ok (.iconst 1, 1) := by decide +kernel
theorem dX12_comesOut_16 : decode cX12_comesOut 16 = .ok (.isub, 1) := by decide +kernel
theorem dX12_comesOut_17 : decode cX12_comesOut 17 = .ok (.iaload, 1) := by decide +kernel
theorem dX12_comesOut_18 : decode cX12_comesOut 18 = .ok (.istore_n 2, 1) := by decide +kernel
theorem dX12_comesOut_19 : decode cX12_comesOut 19 = .ok (.iload_n 2, 1) := by decide +kernel
theorem dX12_comesOut_20 : decode cX12_comesOut 20 = .ok (.bipush 6, 2) := by decide +kernel
theorem dX12_comesOut_22 : decode cX12_comesOut 22 = .ok (.if_icmp .eq 19, 3) := by decide +kernel
theorem dX12_comesOut_25 : decode cX12_comesOut 25 = .ok (.iload_n 1, 1) := by decide +kernel
theorem dX12_comesOut_26 : decode cX12_comesOut 26 = .ok (.ifCond .eq 16, 3) := by decide +kernel
theorem dX12_comesOut_29 : decode cX12_comesOut 29 = .ok (.iload_n 2, 1) := by decide +kernel
theorem dX12_comesOut_30 : decode cX12_comesOut 30 = .ok (.bipush 8, 2) := by decide +kernel
theorem dX12_comesOut_32 : decode cX12_comesOut 32 = .ok (.if_icmp .eq 9, 3) := by decide +kernel
theorem dX12_comesOut_35 : decode cX12_comesOut 35 = .ok (.iload_n 2, 1) := by decide +kernel
theorem dX12_comesOut_36 : decode cX12_comesOut 36 = .ok (.bipush 9, 2) := by decide +kernel
theorem dX12_comesOut_38 : decode cX12_comesOut 38 = .ok (.if_icmp .ne 4, 3) := by decide +kernel
theorem dX12_comesOut_41 : decode cX12_comesOut 41 = .ok (.return_, 1) := by decide +kernel
theorem dX12_comesOut_42 : decode cX12_comesOut 42 = .ok (.aload_n 0, 1) := by decide +kernel
theorem dX12_comesOut_43 : decode cX12_comesOut 43 = .ok (.dup, 1) := by decide +kernel
theorem dX12_comesOut_44 : decode cX12_comesOut 44 = .ok (.getfield 355, 3) := by decide +kernel
theorem dX12_comesOut_47 : decode cX12_comesOut 47 = .ok (.iconst 1, 1) := by decide +kernel
theorem dX12_comesOut_48 : decode cX12_comesOut 48 = .ok (.isub, 1) := by decide +kernel
theorem dX12_comesOut_49 : decode cX12_comesOut 49 = .ok (.putfield 355, 3) := by decide +kernel
theorem dX12_comesOut_52 : decode cX12_comesOut 52 = .ok (.aload_n 0, 1) := by decide +kernel
theorem dX12_comesOut_53 : decode cX12_comesOut 53 = .ok (.iload_n 2, 1) := by decide +kernel
theorem dX12_comesOut_54 : decode cX12_comesOut 54 = .ok (.bipush 8, 2) := by decide +kernel
theorem dX12_comesOut_56 : decode cX12_comesOut 56 = .ok (.if_icmp .ne 7, 3) := by decide +kernel
theorem dX12_comesOut_59 : decode cX12_comesOut 59 = .ok (.iconst 2, 1) := by decide +kernel
theorem dX12_comesOut_60 : decode cX12_comesOut 60 = .ok (.goto 24, 3) := by decide +kernel
theorem dX12_comesOut_63 : decode cX12_comesOut 63 = .ok (.iload_n 2, 1) := by decide +kernel
theorem dX12_comesOut_64 : decode cX12_comesOut 64 = .ok (.bipush 9, 2) := by decide +kernel
theorem dX12_comesOut_66 : decode cX12_comesOut 66 = .ok (.if_icmp .ne 7, 3) := by decide +kernel
theorem dX12_comesOut_69 : decode cX12_comesOut 69 = .ok (.iconst 3, 1) := by decide +kernel
theorem dX12_comesOut_70 : decode cX12_comesOut 70 = .ok (.goto 14, 3) := by decide +kernel
theorem dX12_comesOut_73 : decode cX12_comesOut 73 = .ok (.iload_n 2, 1) := by decide +kernel
theorem dX12_comesOut_74 : decode cX12_comesOut 74 = .ok (.bipush 10, 2) := by decide +kernel
theorem dX12_comesOut_76 : decode cX12_comesOut 76 = .ok (.if_icmp .ne 7, 3) := by decide +kernel
theorem dX12_comesOut_79 : decode cX12_comesOut 79 = .ok (.iconst 4, 1) := by decide +kernel
theorem dX12_comesOut_80 : decode cX12_comesOut 80 = .ok (.goto 4, 3) := by decide +kernel
theorem dX12_comesOut_83 : decode cX12_comesOut 83 = .ok (.iconst 5, 1) := by decide +kernel
theorem dX12_comesOut_84 : decode cX12_comesOut 84 = .ok (.iconst 0, 1) := by decide +kernel
theorem dX12_comesOut_85 : decode cX12_comesOut 85 = .ok (.invokevirtual 358, 3) := by decide +kernel
theorem dX12_comesOut_88 : decode cX12_comesOut 88 = .ok (.goto (-88), 3) := by decide +kernel
theorem dX12_comesOut_91 : decode cX12_comesOut 91 = .ok (.return_, 1) := by decide +kernel
def bX12_comesOut_84  (r0 : Int32 → Hp → Option (Hp)) (x1 : Int32) (s0 : Int32) (h : Hp) : Option (Hp) := bv (fX12_emit s0 0 h) (fun h1 => r0 x1 h1)
set_option maxRecDepth 20000 in
theorem BX12_comesOut_84 {Z : ZT} {G : GT} {hr : Hp} (X : CX Z G cX12_comesOut RX12 3 1) (E : RX Z G none (none) hr) (hz : HZM Z) (r0 : Int32 → Hp → Option (Hp)) (hr0 : ∀ (x1 : Int32) (h : Hp), r0 x1 h = some hr → J Z G 3 h 0 [(0, .ref (Z.2.1 0)), (1, .int x1)] []) (x1 : Int32) (s0 : Int32) (h : Hp) (hF : bX12_comesOut_84  r0 x1 s0 h = some hr) : J Z G 3 h 84 [(0, .ref (Z.2.1 0)), (1, .int x1)] [.int s0, .ref (Z.2.1 0)] := by
  unfold bX12_comesOut_84 at hF
  refine j_iconst (pc := 84) 0 X dX12_comesOut_84 rfl ?_
  refine j_cVv (pc := 85) (As := [.int s0, .int 0]) (rest := []) X dX12_comesOut_85 ml_X12_358 ck_X12_emit cv_X12_emit (hz _ sh_0) rfl (Nat.le_of_ble_eq_true rfl) rfl (Nat.le_of_ble_eq_true rfl) rfl hF (tX12_emit Z s0 0 hz h) (fun h1 hF => ?_)
  refine j_goto (pc := 88) 0 X dX12_comesOut_88 rfl ?_
  exact hr0 x1 h1 hF
def bX12_comesOut_42  (r0 : Int32 → Hp → Option (Hp)) (x1 : Int32) (x2 : Int32) (h : Hp) : Option (Hp) := lt (wI h 0 53 ((h.1 0 53) - 1)) (fun h1 => (if x2 = 8 then bX12_comesOut_84 r0 x1 2 h1 else (if x2 = 9 then bX12_comesOut_84 r0 x1 3 h1 else (if x2 = 10 then bX12_comesOut_84 r0 x1 4 h1 else bX12_comesOut_84 r0 x1 5 h1))))
set_option maxRecDepth 20000 in
theorem BX12_comesOut_42 {Z : ZT} {G : GT} {hr : Hp} (X : CX Z G cX12_comesOut RX12 3 1) (E : RX Z G none (none) hr) (hz : HZM Z) (r0 : Int32 → Hp → Option (Hp)) (hr0 : ∀ (x1 : Int32) (h : Hp), r0 x1 h = some hr → J Z G 3 h 0 [(0, .ref (Z.2.1 0)), (1, .int x1)] []) (x1 : Int32) (x2 : Int32) (h : Hp) (hF : bX12_comesOut_42  r0 x1 x2 h = some hr) : J Z G 3 h 42 [(0, .ref (Z.2.1 0)), (1, .int x1), (2, .int x2)] [] := by
  unfold bX12_comesOut_42 at hF
  refine j_aload_n (pc := 42) 0 X dX12_comesOut_42 rfl ?_
  refine j_dup (pc := 43) X dX12_comesOut_43 rfl ?_
  refine j_geti (pc := 44) X dX12_comesOut_44 (hz _ sh_0) fl_X12_355 rfl ?_
  refine j_iconst (pc := 47) 1 X dX12_comesOut_47 rfl ?_
  refine j_isub (pc := 48) X dX12_comesOut_48 ?_
  refine j_puti (pc := 49) X dX12_comesOut_49 (hz _ sh_0) fp_X12_355 rfl hF (fun h1 hF => ?_)
  refine j_aload_n (pc := 52) 0 X dX12_comesOut_52 rfl ?_
  refine j_iload_n (pc := 53) 2 X dX12_comesOut_53 rfl ?_
  refine j_bipush (pc := 54) 8 X dX12_comesOut_54 rfl ?_
  refine j_icmp_ne (pc := 56) 63 X dX12_comesOut_56 rfl hF (fun hF => ?_) (fun hF => ?_)
  · refine j_iload_n (pc := 63) 2 X dX12_comesOut_63 rfl ?_
    refine j_bipush (pc := 64) 9 X dX12_comesOut_64 rfl ?_
    refine j_icmp_ne (pc := 66) 73 X dX12_comesOut_66 rfl hF (fun hF => ?_) (fun hF => ?_)
    · refine j_iload_n (pc := 73) 2 X dX12_comesOut_73 rfl ?_
      refine j_bipush (pc := 74) 10 X dX12_comesOut_74 rfl ?_
      refine j_icmp_ne (pc := 76) 83 X dX12_comesOut_76 rfl hF (fun hF => ?_) (fun hF => ?_)
      · refine j_iconst (pc := 83) 5 X dX12_comesOut_83 rfl ?_
        refine j_lv [(0, .ref (Z.2.1 0)), (1, .int x1)] [0, 1] rfl ?_
        exact BX12_comesOut_84 X E hz r0 hr0 x1 5 h1 hF
      · refine j_iconst (pc := 79) 4 X dX12_comesOut_79 rfl ?_
        refine j_goto (pc := 80) 84 X dX12_comesOut_80 rfl ?_
        refine j_lv [(0, .ref (Z.2.1 0)), (1, .int x1)] [0, 1] rfl ?_
        exact BX12_comesOut_84 X E hz r0 hr0 x1 4 h1 hF
    · refine j_iconst (pc := 69) 3 X dX12_comesOut_69 rfl ?_
      refine j_goto (pc := 70) 84 X dX12_comesOut_70 rfl ?_
      refine j_lv [(0, .ref (Z.2.1 0)), (1, .int x1)] [0, 1] rfl ?_
      exact BX12_comesOut_84 X E hz r0 hr0 x1 3 h1 hF
  · refine j_iconst (pc := 59) 2 X dX12_comesOut_59 rfl ?_
    refine j_goto (pc := 60) 84 X dX12_comesOut_60 rfl ?_
    refine j_lv [(0, .ref (Z.2.1 0)), (1, .int x1)] [0, 1] rfl ?_
    exact BX12_comesOut_84 X E hz r0 hr0 x1 2 h1 hF
def bX12_comesOut_0   (r0 : Int32 → Hp → Option (Hp)) (x1 : Int32) (h : Hp) : Option (Hp) := (if (h.1 0 53) ≤ 0 then some h else ck (inb ((h.1 0 53) - 1) 64) (lt (h.1 37 (ix ((h.1 0 53) - 1))) (fun v1 => (if v1 = 6 then some h else (if x1 = 0 then bX12_comesOut_42 r0 x1 v1 h else (if v1 = 8 then some h else (if v1 = 9 then some h else bX12_comesOut_42 r0 x1 v1 h)))))))
def lX12_comesOut_0   : Nat → Int32 → Hp → Option (Hp)
  | 0 => fun _ _ => none
  | n + 1 => bX12_comesOut_0   (lX12_comesOut_0   n)
set_option maxRecDepth 20000 in
theorem BX12_comesOut_0 {Z : ZT} {G : GT} {hr : Hp} (X : CX Z G cX12_comesOut RX12 3 1) (E : RX Z G none (none) hr) (hz : HZM Z)  (r0 : Int32 → Hp → Option (Hp)) (hr0 : ∀ (x1 : Int32) (h : Hp), r0 x1 h = some hr → J Z G 3 h 0 [(0, .ref (Z.2.1 0)), (1, .int x1)] []) (x1 : Int32) (h : Hp) (hF : bX12_comesOut_0   r0 x1 h = some hr) : J Z G 3 h 0 [(0, .ref (Z.2.1 0)), (1, .int x1)] [] := by
  unfold bX12_comesOut_0 at hF
  refine j_aload_n (pc := 0) 0 X dX12_comesOut_0 rfl ?_
  refine j_geti (pc := 1) X dX12_comesOut_1 (hz _ sh_0) fl_X12_355 rfl ?_
  refine j_if_le (pc := 4) 91 X dX12_comesOut_4 rfl hF (fun hF => ?_) (fun hF => ?_)
  · exact j_vret (pc := 91) X E dX12_comesOut_91 hF
  · refine j_aload_n (pc := 7) 0 X dX12_comesOut_7 rfl ?_
    refine j_getr (pc := 8) X dX12_comesOut_8 (hz _ sh_0) fl_X12_128 rfl ?_
    refine j_aload_n (pc := 11) 0 X dX12_comesOut_11 rfl ?_
    refine j_geti (pc := 12) X dX12_comesOut_12 (hz _ sh_0) fl_X12_355 rfl ?_
    refine j_iconst (pc := 15) 1 X dX12_comesOut_15 rfl ?_
    refine j_isub (pc := 16) X dX12_comesOut_16 ?_
    refine j_iald (pc := 17) X dX12_comesOut_17 (hz _ sh_37) hF (fun hF => ?_)
    refine j_istore_n (pc := 18) (fun y => [(2, .int y), (0, .ref (Z.2.1 0)), (1, .int x1)]) X dX12_comesOut_18 (by decide) (fun _ => rfl) hF (fun v1 hF => ?_)
    refine j_iload_n (pc := 19) 0 X dX12_comesOut_19 rfl ?_
    refine j_bipush (pc := 20) 6 X dX12_comesOut_20 rfl ?_
    refine j_icmp_eq (pc := 22) 41 X dX12_comesOut_22 rfl hF (fun hF => ?_) (fun hF => ?_)
    · exact j_vret (pc := 41) X E dX12_comesOut_41 hF
    · refine j_iload_n (pc := 25) 2 X dX12_comesOut_25 rfl ?_
      refine j_if_eq (pc := 26) 42 X dX12_comesOut_26 rfl hF (fun hF => ?_) (fun hF => ?_)
      · refine j_lv [(0, .ref (Z.2.1 0)), (1, .int x1), (2, .int v1)] [1, 2, 0] rfl ?_
        exact BX12_comesOut_42 X E hz r0 hr0 x1 v1 h hF
      · refine j_iload_n (pc := 29) 0 X dX12_comesOut_29 rfl ?_
        refine j_bipush (pc := 30) 8 X dX12_comesOut_30 rfl ?_
        refine j_icmp_eq (pc := 32) 41 X dX12_comesOut_32 rfl hF (fun hF => ?_) (fun hF => ?_)
        · exact j_vret (pc := 41) X E dX12_comesOut_41 hF
        · refine j_iload_n (pc := 35) 0 X dX12_comesOut_35 rfl ?_
          refine j_bipush (pc := 36) 9 X dX12_comesOut_36 rfl ?_
          refine j_icmp_ne (pc := 38) 42 X dX12_comesOut_38 rfl hF (fun hF => ?_) (fun hF => ?_)
          · refine j_lv [(0, .ref (Z.2.1 0)), (1, .int x1), (2, .int v1)] [1, 2, 0] rfl ?_
            exact BX12_comesOut_42 X E hz r0 hr0 x1 v1 h hF
          · exact j_vret (pc := 41) X E dX12_comesOut_41 hF
theorem LX12_comesOut_0 {Z : ZT} {G : GT} {hr : Hp} (X : CX Z G cX12_comesOut RX12 3 1) (E : RX Z G none (none) hr) (hz : HZM Z)  : ∀ (n : Nat) (x1 : Int32) (h : Hp), lX12_comesOut_0   n x1 h = some hr → J Z G 3 h 0 [(0, .ref (Z.2.1 0)), (1, .int x1)] [] := by
  intro n
  induction n with
  | zero => intro x1 h hF; cases hF
  | succ n ih => intro x1 h hF; exact BX12_comesOut_0 X E hz  (lX12_comesOut_0   n) ih x1 h hF
def fX12_comesOut (a1 : Int32) (h : Hp) : Option (Hp) := lX12_comesOut_0 FU a1 h
set_option maxRecDepth 20000 in
theorem tX12_comesOut (Z : ZT) (a1 : Int32) (hz : HZM Z) (h : Hp) (hr : Hp) (hF : fX12_comesOut a1 h = some hr) : MC Z yX12_comesOut cX12_comesOut 3 none 1 [.ref (Z.2.1 0), .int a1] h (none) hr := by
  unfold fX12_comesOut at hF
  refine mc_start (by decide) (Nat.le_of_ble_eq_true rfl) (fun G X E => ?_)
  exact LX12_comesOut_0 X E hz FU a1 h hF
theorem dX12_expression_0 : decode cX12_expression 0 = .ok (.aload_n 0, 1) := by decide +kernel
theorem dX12_expression_1 : decode cX12_expression 1 = .ok (.iconst 0, 1) := by decide +kernel
theorem dX12_expression_2 : decode cX12_expression 2 = .ok (.putfield 355, 3) := by decide +kernel
theorem dX12_expression_5 : decode cX12_expression 5 = .ok (.aload_n 0, 1) := by decide +kernel
theorem dX12_expression_6 : decode cX12_expression 6 = .ok (.getfield 281, 3) := by decide +kernel
theorem dX12_expression_9 : decode cX12_expression 9 = .ok (.istore_n 1, 1) := by decide +kernel
theorem dX12_expression_10 : decode cX12_expression 10 = .ok (.iconst 1, 1) := by decide +kernel
theorem dX12_expression_11 : decode cX12_expression 11 = .ok (.istore_n 2, 1) := by decide +kernel
theorem dX12_expression_12 : decode cX12_expression 12 = .ok (.iload_n 2, 1) := by decide +kernel
theorem dX12_expression_13 : decode cX12_expression 13 = .ok (.ifCond .eq 259, 3) := by decide +kernel
theorem dX12_expression_16 : decode cX12_expression 16 = .ok (.aload_n 0, 1) := by decide +kernel
theorem dX12_expression_17 : decode cX12_expression 17 = .ok (.getfield 254, 3) := by decide +kernel
theorem dX12_expression_20 : decode cX12_expression 20 = .ok (.ifCond .ne 252, 3) := by decide +kernel
theorem dX12_expression_23 : decode cX12_expression 23 = .ok (.aload_n 0, 1) := by decide +kernel
theorem dX12_expression_24 : decode cX12_expression 24 = .ok (.bipush 6, 2) := by decide +kernel
theorem dX12_expression_26 : decode cX12_expression 26 = .ok (.invokevirtual 272, 3) := by decide +kernel
theorem dX12_expression_29 : decode cX12_expression 29 = .ok (.ifCond .eq 55, 3) := by decide +kernel
theorem dX12_expression_32 : decode cX12_expression 32 = .ok (.aload_n 0, 1) := by decide +kernel
theorem dX12_expression_33 : decode cX12_expression 33 = .ok (.getfield 281, 3) := by decide +kernel
theorem dX12_expression_36 : decode cX12_expression 36 = .ok (.bipush 6, 2) := by decide +kernel
theorem dX12_expression_38 : decode cX12_expression 38 = .ok (.if_icmp .ne 8, 3) := by decide +kernel
theorem dX12_expression_41 : decode cX12_expression 41 = .ok (.aload_n 0, 1) := by decide +kernel
theorem dX12_expression_42 : decode cX12_expression 42 = .ok (.iconst 2, 1) := by decide +kernel
theorem dX12_expression_43 : decode cX12_expression 43 = .ok (.invokevirtual 269, 3) := by decide +kernel
theorem dX12_expression_46 : decode cX12_expression 46 = .ok (.aload_n 0, 1) := by decide +kernel
theorem dX12_expression_47 : decode cX12_expression 47 = .ok (.dup, 1) := by decide +kernel
theorem dX12_expression_48 : decode cX12_expression 48 = .ok (.getfield 281, 3) := by decide +kernel
theorem dX12_expression_51 : decode cX12_expression 51 = .ok (.iconst 1, 1) := by decide +kernel
theorem dX12_expression_52 : decode cX12_expression 52 = .ok (.iadd, 1) := by decide +kernel
theorem dX12_expression_53 : decode cX12_expression 53 = .ok (.putfield 281, 3) := by decide +kernel
theorem dX12_expression_56 : decode cX12_expression 56 = .ok (.aload_n 0, 1) := by decide +kernel
theorem dX12_expression_57 : decode cX12_expression 57 = .ok (.invokevirtual 275, 3) := by decide +kernel
theorem dX12_expression_60 : decode cX12_expression 60 = .ok (.aload_n 0, 1) := by decide +kernel
theorem dX12_expression_61 : decode cX12_expression 61 = .ok (.getfield 128, 3) := by decide +kernel
theorem dX12_expression_64 : decode cX12_expression 64 = .ok (.aload_n 0, 1) := by decide +kernel
theorem dX12_expression_65 : decode cX12_expression 65 = .ok (.getfield 355, 3) := by decide +kernel
theorem dX12_expression_68 : decode cX12_expression 68 = .ok (.bipush 6, 2) := by decide +kernel
theorem dX12_expression_70 : decode cX12_expression 70 = .ok (.iastore, 1) := by decide +kernel
theorem dX12_expression_71 : decode cX12_expression 71 = .ok (.aload_n 0, 1) := by decide +kernel
theorem dX12_expression_72 : decode cX12_expression 72 = .ok (.dup, 1) := by decide +kernel
theorem dX12_expression_73 : decode cX12_expression 73 = .ok (.getfield 355, 3) := by decide +kernel
theorem dX12_expression_76 : decode cX12_expression 76 = .ok (.iconst 1, 1) := by decide +kernel
theorem dX12_expression_77 : decode cX12_expression 77 = .ok (.iadd, 1) := by decide +kernel
theorem dX12_expression_78 : decode cX12_expression 78 = .ok (.putfield 355, 3) := by decide +kernel
theorem dX12_expression_81 : decode cX12_expression 81 = .ok (.goto (-58), 3) := by decide +kernel
theorem dX12_expression_84 : decode cX12_expression 84 = .ok (.aload_n 0, 1) := by decide +kernel
theorem dX12_expression_85 : decode cX12_expression 85 = .ok (.invokevirtual 361, 3) := by decide +kernel
theorem dX12_expression_88 : decode cX12_expression 88 = .ok (.aload_n 0, 1) := by decide +kernel
theorem dX12_expression_89 : decode cX12_expression 89 = .ok (.getfield 254, 3) := by decide +kernel
theorem dX12_expression_92 : decode cX12_expression 92 = .ok (.ifCond .le 4, 3) := by decide +kernel
theorem dX12_expression_95 : decode cX12_expression 95 = .ok (.return_, 1) := by decide +kernel
theorem dX12_expression_96 : decode cX12_expression 96 = .ok (.aload_n 0, 1) := by decide +kernel
theorem dX12_expression_97 : decode cX12_expression 97 = .ok (.bipush 7, 2) := by decide +kernel
theorem dX12_expression_99 : decode cX12_expression 99 = .ok (.invokevirtual 272, 3) := by decide +kernel
theorem dX12_expression_102 : decode cX12_expression 102 = .ok (.ifCond .eq 43, 3) := by decide +kernel
theorem dX12_expression_105 : decode cX12_expression 105 = .ok (.aload_n 0, 1) := by decide +kernel
theorem dX12_expression_106 : decode cX12_expression 106 = .ok (.getfield 281, 3) := by decide +kernel
theorem dX12_expression_109 : decode cX12_expression 109 = .ok (.iload_n 1, 1) := by decide +kernel
theorem dX12_expression_110 : decode cX12_expression 110 = .ok (.if_icmp .le 35, 3) := by decide +kernel
theorem dX12_expression_113 : decode cX12_expression 113 = .ok (.aload_n 0, 1) := by decide +kernel
theorem dX12_expression_114 : decode cX12_expression 114 = .ok (.iconst 0, 1) := by decide +kernel
theorem dX12_expression_115 : decode cX12_expression 115 = .ok (.invokevirtual 364, 3) := by decide +kernel
theorem dX12_expression_118 : decode cX12_expression 118 = .ok (.aload_n 0, 1) := by decide +kernel
theorem dX12_expression_119 : decode cX12_expression 119 = .ok (.dup, 1) := by decide +kernel
theorem dX12_expression_120 : decode cX12_expression 120 = .ok (.getfield 355, 3) := by decide +kernel
theorem dX12_expression_123 : decode cX12_expression 123 = .ok (.iconst 1, 1) := by decide +kernel
theorem dX12_expression_124 : decode cX12_expression 124 = .ok (.isub, 1) := by decide +kernel
theorem dX12_expression_125 : decode cX12_expression 125 = .ok (.putfield 355, 3) := by decide +kernel
theorem dX12_expression_128 : decode cX12_expression 128 = .ok (.aload_n 0, 1) := by decide +kernel
theorem dX12_expression_129 : decode cX12_expression 129 = .ok (.dup, 1) := by decide +kernel
theorem dX12_expression_130 : decode cX12_expression 130 = .ok (.getfield 281, 3) := by decide +kernel
theorem dX12_expression_133 : decode cX12_expression 133 = .ok (.iconst 1, 1) := by decide +kernel
theorem dX12_expression_134 : decode cX12_expression 134 = .ok (.isub, 1) := by decide +kernel
theorem dX12_expression_135 : decode cX12_expression 135 = .ok (.putfield 281, 3) := by decide +kernel
theorem dX12_expression_138 : decode cX12_expression 138 = .ok (.aload_n 0, 1) := by decide +kernel
theorem dX12_expression_139 : decode cX12_expression 139 = .ok (.invokevirtual 275, 3) := by decide +kernel
theorem dX12_expression_142 : decode cX12_expression 142 = .ok (.goto (-46), 3) := by decide +kernel
theorem dX12_expression_145 : decode cX12_expression 145 = .ok (.aload_n 0, 1) := by decide +kernel
theorem dX12_expression_146 : decode cX12_expression 146 = .ok (.bipush 8, 2) := by decide +kernel
theorem dX12_expression_148 : decode cX12_expression 148 = .ok (.invokevirtual 272, 3) := by decide +kernel
theorem dX12_expression_151 : decode cX12_expression 151 = .ok (.ifCond .ne 30, 3) := by decide +kernel
theorem dX12_expression_154 : decode cX12_expression 154 = .ok (.aload_n 0, 1) := by decide +kernel
theorem dX12_expression_155 : decode cX12_expression 155 = .ok (.bipush 9, 2) := by decide +kernel
theorem dX12_expression_157 : decode cX12_expression 157 = .ok (.invokevirtual 272, 3) := by decide +kernel
theorem dX12_expression_160 : decode cX12_expression 160 = .ok (.ifCond .ne 21, 3) := by decide +kernel
theorem dX12_expression_163 : decode cX12_expression 163 = .ok (.aload_n 0, 1) := by decide +kernel
theorem dX12_expression_164 : decode cX12_expression 164 = .ok (.bipush 10, 2) := by decide +kernel
theorem dX12_expression_166 : decode cX12_expression 166 = .ok (.invokevirtual 272, 3) := by decide +kernel
theorem dX12_expression_169 : decode cX12_expression 169 = .ok (.ifCond .ne 12, 3) := by decide +kernel
theorem dX12_expression_172 : decode cX12_expression 172 = .ok (.aload_n 0, 1) := by decide +kernel
theorem dX12_expression_173 : decode cX12_expression 173 = .ok (.bipush 15, 2) := by decide +kernel
theorem dX12_expression_175 : decode cX12_expression 175 = .ok (.invokevirtual 272, 3) := by decide +kernel
theorem dX12_expression_178 : decode cX12_expression 178 = .ok (.ifCond .eq 7, 3) := by decide +kernel
theorem dX12_expression_181 : decode cX12_expression 181 = .ok (.iconst 1, 1) := by decide +kernel
theorem dX12_expression_182 : decode cX12_expression 182 = .ok (.goto 4, 3) := by decide +kernel
theorem dX12_expression_185 : decode cX12_expression 185 = .ok (.iconst 0, 1) := by decide +kernel
theorem dX12_expression_186 : decode cX12_expression 186 = .ok (.istore_n 2, 1) := by decide +kernel
theorem dX12_expression_187 : decode cX12_expression 187 = .ok (.iload_n 2, 1) := by decide +kernel
theorem dX12_expression_188 : decode cX12_expression 188 = .ok (.ifCond .ne 22, 3) := by decide +kernel
theorem dX12_expression_191 : decode cX12_expression 191 = .ok (.aload_n 0, 1) := by decide +kernel
theorem dX12_expression_192 : decode cX12_expression 192 = .ok (.getfield 281, 3) := by decide +kernel
theorem dX12_expression_195 : decode cX12_expression 195 = .ok (.iload_n 1, 1) := by decide +kernel
theorem dX12_expression_196 : decode cX12_expression 196 = .ok (.if_icmp .le 8, 3) := by decide +kernel
theorem dX12_expression_199 : decode cX12_expression 199 = .ok (.aload_n 0, 1) := by decide +kernel
theorem dX12_expression_200 : decode cX12_expression 200 = .ok (.iconst 1, 1) := by decide +kernel
theorem dX12_expression_201 : decode cX12_expression 201 = .ok (.invokevirtual 269, 3) := by decide +kernel
theorem dX12_expression_204 : decode cX12_expression 204 = .ok (.aload_n 0, 1) := by decide +kernel
theorem dX12_expression_205 : decode cX12_expression 205 = .ok (.iconst 0, 1) := by decide +kernel
theorem dX12_expression_206 : decode cX12_expression 206 = .ok (.invokevirtual 364, 3) := by decide +kernel
theorem dX12_expression_209 : decode cX12_expression 209 = .ok (.return_, 1) := by decide +kernel
theorem dX12_expression_210 : decode cX12_expression 210 = .ok (.aload_n 0, 1) := by decide +kernel
theorem dX12_expression_211 : decode cX12_expression 211 = .ok (.aload_n 0, 1) := by decide +kernel
theorem dX12_expression_212 : decode cX12_expression 212 = .ok (.bipush 10, 2) := by decide +kernel
theorem dX12_expression_214 : decode cX12_expression 214 = .ok (.invokevirtual 272, 3) := by decide +kernel
theorem dX12_expression_217 : decode cX12_expression 217 = .ok (.ifCond .ne 12, 3) := by decide +kernel
theorem dX12_expression_220 : decode cX12_expression 220 = .ok (.aload_n 0, 1) := by decide +kernel
theorem dX12_expression_221 : decode cX12_expression 221 = .ok (.bipush 15, 2) := by decide +kernel
theorem dX12_expression_223 : decode cX12_expression 223 = .ok (.invokevirtual 272, 3) := by decide +kernel
theorem dX12_expression_226 : decode cX12_expression 226 = .ok (.ifCond .eq 7, 3) := by decide +kernel
theorem dX12_expression_229 : decode cX12_expression 229 = .ok (.iconst 1, 1) := by decide +kernel
theorem dX12_expression_230 : decode cX12_expression 230 = .ok (.goto 4, 3) := by decide +kernel
theorem dX12_expression_233 : decode cX12_expression 233 = .ok (.iconst 0, 1) := by decide +kernel
theorem dX12_expression_234 : decode cX12_expression 234 = .ok (.invokevirtual 364, 3) := by decide +kernel
theorem dX12_expression_237 : decode cX12_expression 237 = .ok (.aload_n 0, 1) := by decide +kernel
theorem dX12_expression_238 : decode cX12_expression 238 = .ok (.getfield 128, 3) := by decide +kernel
theorem dX12_expression_241 : decode cX12_expression 241 = .ok (.aload_n 0, 1) := by decide +kernel
theorem dX12_expression_242 : decode cX12_expression 242 = .ok (.getfield 355, 3) := by decide +kernel
theorem dX12_expression_245 : decode cX12_expression 245 = .ok (.aload_n 0, 1) := by decide +kernel
theorem dX12_expression_246 : decode cX12_expression 246 = .ok (.getfield 20, 3) := by decide +kernel
theorem dX12_expression_249 : decode cX12_expression 249 = .ok (.aload_n 0, 1) := by decide +kernel
theorem dX12_expression_250 : decode cX12_expression 250 = .ok (.getfield 257, 3) := by decide +kernel
theorem dX12_expression_253 : decode cX12_expression 253 = .ok (.iaload, 1) := by decide +kernel
theorem dX12_expression_254 : decode cX12_expression 254 = .ok (.iastore, 1) := by decide +kernel
theorem dX12_expression_255 : decode cX12_expression 255 = .ok (.aload_n 0, 1) := by decide +kernel
theorem dX12_expression_256 : decode cX12_expression 256 = .ok (.dup, 1) := by decide +kernel
theorem dX12_expression_257 : decode cX12_expression 257 = .ok (.getfield 355, 3) := by decide +kernel
theorem dX12_expression_260 : decode cX12_expression 260 = .ok (.iconst 1, 1) := by decide +kernel
theorem dX12_expression_261 : decode cX12_expression 261 = .ok (.iadd, 1) := by decide +kernel
theorem dX12_expression_262 : decode cX12_expression 262 = .ok (.putfield 355, 3) := by decide +kernel
theorem dX12_expression_265 : decode cX12_expression 265 = .ok (.aload_n 0, 1) := by decide +kernel
theorem dX12_expression_266 : decode cX12_expression 266 = .ok (.invokevirtual 275, 3) := by decide +kernel
theorem dX12_expression_269 : decode cX12_expression 269 = .ok (.goto (-257), 3) := by decide +kernel
theorem dX12_expression_272 : decode cX12_expression 272 = .ok (.return_, 1) := by decide +kernel
def bX12_expression_46  (r12 : Int32 → Int32 → Hp → Option (Hp)) (r23 : Int32 → Hp → Option (Hp)) (x1 : Int32) (h : Hp) : Option (Hp) := lt (wI h 0 12 ((h.1 0 12) + 1)) (fun h1 => bv (fX12_goesOn h1) (fun h2 => ck (inb (h2.1 0 53) 64) (lt (wI h2 37 (ix (h2.1 0 53)) 6) (fun h3 => lt (wI h3 0 53 ((h3.1 0 53) + 1)) (fun h4 => r23 x1 h4)))))
set_option maxRecDepth 20000 in
theorem BX12_expression_46 {Z : ZT} {G : GT} {hr : Hp} (X : CX Z G cX12_expression RX12 3 3) (E : RX Z G none (none) hr) (hz : HZM Z) (r12 : Int32 → Int32 → Hp → Option (Hp)) (hr12 : ∀ (x1 : Int32) (x2 : Int32) (h : Hp), r12 x1 x2 h = some hr → J Z G 3 h 12 [(0, .ref (Z.2.1 0)), (1, .int x1), (2, .int x2)] []) (r23 : Int32 → Hp → Option (Hp)) (hr23 : ∀ (x1 : Int32) (h : Hp), r23 x1 h = some hr → J Z G 3 h 23 [(0, .ref (Z.2.1 0)), (1, .int x1)] []) (x1 : Int32) (h : Hp) (hF : bX12_expression_46  r12 r23 x1 h = some hr) : J Z G 3 h 46 [(0, .ref (Z.2.1 0)), (1, .int x1)] [] := by
  unfold bX12_expression_46 at hF
  refine j_aload_n (pc := 46) 0 X dX12_expression_46 rfl ?_
  refine j_dup (pc := 47) X dX12_expression_47 rfl ?_
  refine j_geti (pc := 48) X dX12_expression_48 (hz _ sh_0) fl_X12_281 rfl ?_
  refine j_iconst (pc := 51) 1 X dX12_expression_51 rfl ?_
  refine j_iadd (pc := 52) X dX12_expression_52 ?_
  refine j_puti (pc := 53) X dX12_expression_53 (hz _ sh_0) fp_X12_281 rfl hF (fun h1 hF => ?_)
  refine j_aload_n (pc := 56) 0 X dX12_expression_56 rfl ?_
  refine j_cVv (pc := 57) (As := []) (rest := []) X dX12_expression_57 ml_X12_275 ck_X12_goesOn cv_X12_goesOn (hz _ sh_0) rfl (Nat.le_of_ble_eq_true rfl) rfl (Nat.le_of_ble_eq_true rfl) rfl hF (tX12_goesOn Z hz h1) (fun h2 hF => ?_)
  refine j_aload_n (pc := 60) 0 X dX12_expression_60 rfl ?_
  refine j_getr (pc := 61) X dX12_expression_61 (hz _ sh_0) fl_X12_128 rfl ?_
  refine j_aload_n (pc := 64) 0 X dX12_expression_64 rfl ?_
  refine j_geti (pc := 65) X dX12_expression_65 (hz _ sh_0) fl_X12_355 rfl ?_
  refine j_bipush (pc := 68) 6 X dX12_expression_68 rfl ?_
  refine j_iast (pc := 70) X dX12_expression_70 (hz _ sh_37) hF (fun h3 hF => ?_)
  refine j_aload_n (pc := 71) 0 X dX12_expression_71 rfl ?_
  refine j_dup (pc := 72) X dX12_expression_72 rfl ?_
  refine j_geti (pc := 73) X dX12_expression_73 (hz _ sh_0) fl_X12_355 rfl ?_
  refine j_iconst (pc := 76) 1 X dX12_expression_76 rfl ?_
  refine j_iadd (pc := 77) X dX12_expression_77 ?_
  refine j_puti (pc := 78) X dX12_expression_78 (hz _ sh_0) fp_X12_355 rfl hF (fun h4 hF => ?_)
  refine j_goto (pc := 81) 23 X dX12_expression_81 rfl ?_
  exact hr23 x1 h4 hF
def bX12_expression_204    (h : Hp) : Option (Hp) := bv (fX12_comesOut 0 h) (fun h1 => some h1)
set_option maxRecDepth 20000 in
theorem BX12_expression_204 {Z : ZT} {G : GT} {hr : Hp} (X : CX Z G cX12_expression RX12 3 3) (E : RX Z G none (none) hr) (hz : HZM Z)   (h : Hp) (hF : bX12_expression_204    h = some hr) : J Z G 3 h 204 [(0, .ref (Z.2.1 0))] [] := by
  unfold bX12_expression_204 at hF
  refine j_aload_n (pc := 204) 0 X dX12_expression_204 rfl ?_
  refine j_iconst (pc := 205) 0 X dX12_expression_205 rfl ?_
  refine j_cVv (pc := 206) (As := [.int 0]) (rest := []) X dX12_expression_206 ml_X12_364 ck_X12_comesOut cv_X12_comesOut (hz _ sh_0) rfl (Nat.le_of_ble_eq_true rfl) rfl (Nat.le_of_ble_eq_true rfl) rfl hF (tX12_comesOut Z 0 hz h) (fun h1 hF => ?_)
  exact j_vret (pc := 209) X E dX12_expression_209 hF
def bX12_expression_234  (r12 : Int32 → Int32 → Hp → Option (Hp)) (x1 : Int32) (x2 : Int32) (s0 : Int32) (h : Hp) : Option (Hp) := bv (fX12_comesOut s0 h) (fun h1 => ck (inb (h1.1 0 11) 403) (ck (inb (h1.1 0 53) 64) (lt (wI h1 37 (ix (h1.1 0 53)) (h1.1 3 (ix (h1.1 0 11)))) (fun h2 => lt (wI h2 0 53 ((h2.1 0 53) + 1)) (fun h3 => bv (fX12_goesOn h3) (fun h4 => r12 x1 x2 h4))))))
set_option maxRecDepth 20000 in
theorem BX12_expression_234 {Z : ZT} {G : GT} {hr : Hp} (X : CX Z G cX12_expression RX12 3 3) (E : RX Z G none (none) hr) (hz : HZM Z) (r12 : Int32 → Int32 → Hp → Option (Hp)) (hr12 : ∀ (x1 : Int32) (x2 : Int32) (h : Hp), r12 x1 x2 h = some hr → J Z G 3 h 12 [(0, .ref (Z.2.1 0)), (1, .int x1), (2, .int x2)] []) (x1 : Int32) (x2 : Int32) (s0 : Int32) (h : Hp) (hF : bX12_expression_234  r12 x1 x2 s0 h = some hr) : J Z G 3 h 234 [(0, .ref (Z.2.1 0)), (1, .int x1), (2, .int x2)] [.int s0, .ref (Z.2.1 0)] := by
  unfold bX12_expression_234 at hF
  refine j_cVv (pc := 234) (As := [.int s0]) (rest := []) X dX12_expression_234 ml_X12_364 ck_X12_comesOut cv_X12_comesOut (hz _ sh_0) rfl (Nat.le_of_ble_eq_true rfl) rfl (Nat.le_of_ble_eq_true rfl) rfl hF (tX12_comesOut Z s0 hz h) (fun h1 hF => ?_)
  refine j_aload_n (pc := 237) 0 X dX12_expression_237 rfl ?_
  refine j_getr (pc := 238) X dX12_expression_238 (hz _ sh_0) fl_X12_128 rfl ?_
  refine j_aload_n (pc := 241) 0 X dX12_expression_241 rfl ?_
  refine j_geti (pc := 242) X dX12_expression_242 (hz _ sh_0) fl_X12_355 rfl ?_
  refine j_aload_n (pc := 245) 0 X dX12_expression_245 rfl ?_
  refine j_getr (pc := 246) X dX12_expression_246 (hz _ sh_0) fl_X12_20 rfl ?_
  refine j_aload_n (pc := 249) 0 X dX12_expression_249 rfl ?_
  refine j_geti (pc := 250) X dX12_expression_250 (hz _ sh_0) fl_X12_257 rfl ?_
  refine j_iald (pc := 253) X dX12_expression_253 (hz _ sh_3) hF (fun hF => ?_)
  refine j_iast (pc := 254) X dX12_expression_254 (hz _ sh_37) hF (fun h2 hF => ?_)
  refine j_aload_n (pc := 255) 0 X dX12_expression_255 rfl ?_
  refine j_dup (pc := 256) X dX12_expression_256 rfl ?_
  refine j_geti (pc := 257) X dX12_expression_257 (hz _ sh_0) fl_X12_355 rfl ?_
  refine j_iconst (pc := 260) 1 X dX12_expression_260 rfl ?_
  refine j_iadd (pc := 261) X dX12_expression_261 ?_
  refine j_puti (pc := 262) X dX12_expression_262 (hz _ sh_0) fp_X12_355 rfl hF (fun h3 hF => ?_)
  refine j_aload_n (pc := 265) 0 X dX12_expression_265 rfl ?_
  refine j_cVv (pc := 266) (As := []) (rest := []) X dX12_expression_266 ml_X12_275 ck_X12_goesOn cv_X12_goesOn (hz _ sh_0) rfl (Nat.le_of_ble_eq_true rfl) rfl (Nat.le_of_ble_eq_true rfl) rfl hF (tX12_goesOn Z hz h3) (fun h4 hF => ?_)
  refine j_goto (pc := 269) 12 X dX12_expression_269 rfl ?_
  exact hr12 x1 x2 h4 hF
def bX12_expression_229  (r12 : Int32 → Int32 → Hp → Option (Hp)) (x1 : Int32) (x2 : Int32) (h : Hp) : Option (Hp) := bX12_expression_234 r12 x1 x2 1 h
set_option maxRecDepth 20000 in
theorem BX12_expression_229 {Z : ZT} {G : GT} {hr : Hp} (X : CX Z G cX12_expression RX12 3 3) (E : RX Z G none (none) hr) (hz : HZM Z) (r12 : Int32 → Int32 → Hp → Option (Hp)) (hr12 : ∀ (x1 : Int32) (x2 : Int32) (h : Hp), r12 x1 x2 h = some hr → J Z G 3 h 12 [(0, .ref (Z.2.1 0)), (1, .int x1), (2, .int x2)] []) (x1 : Int32) (x2 : Int32) (h : Hp) (hF : bX12_expression_229  r12 x1 x2 h = some hr) : J Z G 3 h 229 [(0, .ref (Z.2.1 0)), (1, .int x1), (2, .int x2)] [.ref (Z.2.1 0)] := by
  unfold bX12_expression_229 at hF
  refine j_iconst (pc := 229) 1 X dX12_expression_229 rfl ?_
  refine j_goto (pc := 230) 234 X dX12_expression_230 rfl ?_
  exact BX12_expression_234 X E hz r12 hr12 x1 x2 1 h hF
def bX12_expression_186  (r12 : Int32 → Int32 → Hp → Option (Hp)) (x1 : Int32) (s0 : Int32) (h : Hp) : Option (Hp) := lt s0 (fun v1 => (if v1 = 0 then (if (h.1 0 12) ≤ x1 then bX12_expression_204 h else bv (fX12_fail 1 h) (fun h6 => bX12_expression_204 h6)) else bi (fX12_is 10 h) (fun w3 h2 => (if w3 = 0 then bi (fX12_is 15 h2) (fun w5 h4 => (if w5 = 0 then bX12_expression_234 r12 x1 v1 0 h4 else bX12_expression_229 r12 x1 v1 h4)) else bX12_expression_229 r12 x1 v1 h2))))
set_option maxRecDepth 20000 in
theorem BX12_expression_186 {Z : ZT} {G : GT} {hr : Hp} (X : CX Z G cX12_expression RX12 3 3) (E : RX Z G none (none) hr) (hz : HZM Z) (r12 : Int32 → Int32 → Hp → Option (Hp)) (hr12 : ∀ (x1 : Int32) (x2 : Int32) (h : Hp), r12 x1 x2 h = some hr → J Z G 3 h 12 [(0, .ref (Z.2.1 0)), (1, .int x1), (2, .int x2)] []) (x1 : Int32) (s0 : Int32) (h : Hp) (hF : bX12_expression_186  r12 x1 s0 h = some hr) : J Z G 3 h 186 [(0, .ref (Z.2.1 0)), (1, .int x1)] [.int s0] := by
  unfold bX12_expression_186 at hF
  refine j_istore_n (pc := 186) (fun y => [(2, .int y), (0, .ref (Z.2.1 0)), (1, .int x1)]) X dX12_expression_186 (by decide) (fun _ => rfl) hF (fun v1 hF => ?_)
  refine j_iload_n (pc := 187) 0 X dX12_expression_187 rfl ?_
  refine j_if_ne (pc := 188) 210 X dX12_expression_188 rfl hF (fun hF => ?_) (fun hF => ?_)
  · refine j_aload_n (pc := 210) 1 X dX12_expression_210 rfl ?_
    refine j_aload_n (pc := 211) 1 X dX12_expression_211 rfl ?_
    refine j_bipush (pc := 212) 10 X dX12_expression_212 rfl ?_
    refine j_cVi (pc := 214) (As := [.int 10]) (rest := [.ref (Z.2.1 0)]) X dX12_expression_214 ml_X12_272 ck_X12_is cv_X12_is (hz _ sh_0) rfl (Nat.le_of_ble_eq_true rfl) rfl (Nat.le_of_ble_eq_true rfl) rfl hF (tX12_is Z 10 hz h) (fun w3 h2 hF => ?_)
    refine j_if_ne (pc := 217) 229 X dX12_expression_217 rfl hF (fun hF => ?_) (fun hF => ?_)
    · refine j_lv [(0, .ref (Z.2.1 0)), (1, .int x1), (2, .int v1)] [1, 2, 0] rfl ?_
      exact BX12_expression_229 X E hz r12 hr12 x1 v1 h2 hF
    · refine j_aload_n (pc := 220) 1 X dX12_expression_220 rfl ?_
      refine j_bipush (pc := 221) 15 X dX12_expression_221 rfl ?_
      refine j_cVi (pc := 223) (As := [.int 15]) (rest := [.ref (Z.2.1 0)]) X dX12_expression_223 ml_X12_272 ck_X12_is cv_X12_is (hz _ sh_0) rfl (Nat.le_of_ble_eq_true rfl) rfl (Nat.le_of_ble_eq_true rfl) rfl hF (tX12_is Z 15 hz h2) (fun w5 h4 hF => ?_)
      refine j_if_eq (pc := 226) 233 X dX12_expression_226 rfl hF (fun hF => ?_) (fun hF => ?_)
      · refine j_iconst (pc := 233) 0 X dX12_expression_233 rfl ?_
        refine j_lv [(0, .ref (Z.2.1 0)), (1, .int x1), (2, .int v1)] [1, 2, 0] rfl ?_
        exact BX12_expression_234 X E hz r12 hr12 x1 v1 0 h4 hF
      · refine j_lv [(0, .ref (Z.2.1 0)), (1, .int x1), (2, .int v1)] [1, 2, 0] rfl ?_
        exact BX12_expression_229 X E hz r12 hr12 x1 v1 h4 hF
  · refine j_aload_n (pc := 191) 1 X dX12_expression_191 rfl ?_
    refine j_geti (pc := 192) X dX12_expression_192 (hz _ sh_0) fl_X12_281 rfl ?_
    refine j_iload_n (pc := 195) 2 X dX12_expression_195 rfl ?_
    refine j_icmp_le (pc := 196) 204 X dX12_expression_196 rfl hF (fun hF => ?_) (fun hF => ?_)
    · refine j_lv [(0, .ref (Z.2.1 0))] [1] rfl ?_
      exact BX12_expression_204 X E hz h hF
    · refine j_aload_n (pc := 199) 1 X dX12_expression_199 rfl ?_
      refine j_iconst (pc := 200) 1 X dX12_expression_200 rfl ?_
      refine j_cVv (pc := 201) (As := [.int 1]) (rest := []) X dX12_expression_201 ml_X12_269 ck_X12_fail cv_X12_fail (hz _ sh_0) rfl (Nat.le_of_ble_eq_true rfl) rfl (Nat.le_of_ble_eq_true rfl) rfl hF (tX12_fail Z 1 hz h) (fun h6 hF => ?_)
      refine j_lv [(0, .ref (Z.2.1 0))] [1] rfl ?_
      exact BX12_expression_204 X E hz h6 hF
def bX12_expression_181  (r12 : Int32 → Int32 → Hp → Option (Hp)) (x1 : Int32) (h : Hp) : Option (Hp) := bX12_expression_186 r12 x1 1 h
set_option maxRecDepth 20000 in
theorem BX12_expression_181 {Z : ZT} {G : GT} {hr : Hp} (X : CX Z G cX12_expression RX12 3 3) (E : RX Z G none (none) hr) (hz : HZM Z) (r12 : Int32 → Int32 → Hp → Option (Hp)) (hr12 : ∀ (x1 : Int32) (x2 : Int32) (h : Hp), r12 x1 x2 h = some hr → J Z G 3 h 12 [(0, .ref (Z.2.1 0)), (1, .int x1), (2, .int x2)] []) (x1 : Int32) (h : Hp) (hF : bX12_expression_181  r12 x1 h = some hr) : J Z G 3 h 181 [(0, .ref (Z.2.1 0)), (1, .int x1)] [] := by
  unfold bX12_expression_181 at hF
  refine j_iconst (pc := 181) 1 X dX12_expression_181 rfl ?_
  refine j_goto (pc := 182) 186 X dX12_expression_182 rfl ?_
  exact BX12_expression_186 X E hz r12 hr12 x1 1 h hF
def bX12_expression_145  (r12 : Int32 → Int32 → Hp → Option (Hp)) (x1 : Int32) (h : Hp) : Option (Hp) := bi (fX12_is 8 h) (fun w2 h1 => (if w2 = 0 then bi (fX12_is 9 h1) (fun w4 h3 => (if w4 = 0 then bi (fX12_is 10 h3) (fun w6 h5 => (if w6 = 0 then bi (fX12_is 15 h5) (fun w8 h7 => (if w8 = 0 then bX12_expression_186 r12 x1 0 h7 else bX12_expression_181 r12 x1 h7)) else bX12_expression_181 r12 x1 h5)) else bX12_expression_181 r12 x1 h3)) else bX12_expression_181 r12 x1 h1))
set_option maxRecDepth 20000 in
theorem BX12_expression_145 {Z : ZT} {G : GT} {hr : Hp} (X : CX Z G cX12_expression RX12 3 3) (E : RX Z G none (none) hr) (hz : HZM Z) (r12 : Int32 → Int32 → Hp → Option (Hp)) (hr12 : ∀ (x1 : Int32) (x2 : Int32) (h : Hp), r12 x1 x2 h = some hr → J Z G 3 h 12 [(0, .ref (Z.2.1 0)), (1, .int x1), (2, .int x2)] []) (x1 : Int32) (h : Hp) (hF : bX12_expression_145  r12 x1 h = some hr) : J Z G 3 h 145 [(0, .ref (Z.2.1 0)), (1, .int x1)] [] := by
  unfold bX12_expression_145 at hF
  refine j_aload_n (pc := 145) 0 X dX12_expression_145 rfl ?_
  refine j_bipush (pc := 146) 8 X dX12_expression_146 rfl ?_
  refine j_cVi (pc := 148) (As := [.int 8]) (rest := []) X dX12_expression_148 ml_X12_272 ck_X12_is cv_X12_is (hz _ sh_0) rfl (Nat.le_of_ble_eq_true rfl) rfl (Nat.le_of_ble_eq_true rfl) rfl hF (tX12_is Z 8 hz h) (fun w2 h1 hF => ?_)
  refine j_if_ne (pc := 151) 181 X dX12_expression_151 rfl hF (fun hF => ?_) (fun hF => ?_)
  · exact BX12_expression_181 X E hz r12 hr12 x1 h1 hF
  · refine j_aload_n (pc := 154) 0 X dX12_expression_154 rfl ?_
    refine j_bipush (pc := 155) 9 X dX12_expression_155 rfl ?_
    refine j_cVi (pc := 157) (As := [.int 9]) (rest := []) X dX12_expression_157 ml_X12_272 ck_X12_is cv_X12_is (hz _ sh_0) rfl (Nat.le_of_ble_eq_true rfl) rfl (Nat.le_of_ble_eq_true rfl) rfl hF (tX12_is Z 9 hz h1) (fun w4 h3 hF => ?_)
    refine j_if_ne (pc := 160) 181 X dX12_expression_160 rfl hF (fun hF => ?_) (fun hF => ?_)
    · exact BX12_expression_181 X E hz r12 hr12 x1 h3 hF
    · refine j_aload_n (pc := 163) 0 X dX12_expression_163 rfl ?_
      refine j_bipush (pc := 164) 10 X dX12_expression_164 rfl ?_
      refine j_cVi (pc := 166) (As := [.int 10]) (rest := []) X dX12_expression_166 ml_X12_272 ck_X12_is cv_X12_is (hz _ sh_0) rfl (Nat.le_of_ble_eq_true rfl) rfl (Nat.le_of_ble_eq_true rfl) rfl hF (tX12_is Z 10 hz h3) (fun w6 h5 hF => ?_)
      refine j_if_ne (pc := 169) 181 X dX12_expression_169 rfl hF (fun hF => ?_) (fun hF => ?_)
      · exact BX12_expression_181 X E hz r12 hr12 x1 h5 hF
      · refine j_aload_n (pc := 172) 0 X dX12_expression_172 rfl ?_
        refine j_bipush (pc := 173) 15 X dX12_expression_173 rfl ?_
        refine j_cVi (pc := 175) (As := [.int 15]) (rest := []) X dX12_expression_175 ml_X12_272 ck_X12_is cv_X12_is (hz _ sh_0) rfl (Nat.le_of_ble_eq_true rfl) rfl (Nat.le_of_ble_eq_true rfl) rfl hF (tX12_is Z 15 hz h5) (fun w8 h7 hF => ?_)
        refine j_if_eq (pc := 178) 185 X dX12_expression_178 rfl hF (fun hF => ?_) (fun hF => ?_)
        · refine j_iconst (pc := 185) 0 X dX12_expression_185 rfl ?_
          exact BX12_expression_186 X E hz r12 hr12 x1 0 h7 hF
        · exact BX12_expression_181 X E hz r12 hr12 x1 h7 hF
def bX12_expression_96  (r12 : Int32 → Int32 → Hp → Option (Hp)) (r96 : Int32 → Hp → Option (Hp)) (x1 : Int32) (h : Hp) : Option (Hp) := bi (fX12_is 7 h) (fun w2 h1 => (if w2 = 0 then bX12_expression_145 r12 x1 h1 else (if (h1.1 0 12) ≤ x1 then bX12_expression_145 r12 x1 h1 else bv (fX12_comesOut 0 h1) (fun h3 => lt (wI h3 0 53 ((h3.1 0 53) - 1)) (fun h4 => lt (wI h4 0 12 ((h4.1 0 12) - 1)) (fun h5 => bv (fX12_goesOn h5) (fun h6 => r96 x1 h6)))))))
def lX12_expression_96  (r12 : Int32 → Int32 → Hp → Option (Hp)) : Nat → Int32 → Hp → Option (Hp)
  | 0 => fun _ _ => none
  | n + 1 => bX12_expression_96  r12 (lX12_expression_96  r12 n)
set_option maxRecDepth 20000 in
theorem BX12_expression_96 {Z : ZT} {G : GT} {hr : Hp} (X : CX Z G cX12_expression RX12 3 3) (E : RX Z G none (none) hr) (hz : HZM Z) (r12 : Int32 → Int32 → Hp → Option (Hp)) (hr12 : ∀ (x1 : Int32) (x2 : Int32) (h : Hp), r12 x1 x2 h = some hr → J Z G 3 h 12 [(0, .ref (Z.2.1 0)), (1, .int x1), (2, .int x2)] []) (r96 : Int32 → Hp → Option (Hp)) (hr96 : ∀ (x1 : Int32) (h : Hp), r96 x1 h = some hr → J Z G 3 h 96 [(0, .ref (Z.2.1 0)), (1, .int x1)] []) (x1 : Int32) (h : Hp) (hF : bX12_expression_96  r12 r96 x1 h = some hr) : J Z G 3 h 96 [(0, .ref (Z.2.1 0)), (1, .int x1)] [] := by
  unfold bX12_expression_96 at hF
  refine j_aload_n (pc := 96) 0 X dX12_expression_96 rfl ?_
  refine j_bipush (pc := 97) 7 X dX12_expression_97 rfl ?_
  refine j_cVi (pc := 99) (As := [.int 7]) (rest := []) X dX12_expression_99 ml_X12_272 ck_X12_is cv_X12_is (hz _ sh_0) rfl (Nat.le_of_ble_eq_true rfl) rfl (Nat.le_of_ble_eq_true rfl) rfl hF (tX12_is Z 7 hz h) (fun w2 h1 hF => ?_)
  refine j_if_eq (pc := 102) 145 X dX12_expression_102 rfl hF (fun hF => ?_) (fun hF => ?_)
  · exact BX12_expression_145 X E hz r12 hr12 x1 h1 hF
  · refine j_aload_n (pc := 105) 0 X dX12_expression_105 rfl ?_
    refine j_geti (pc := 106) X dX12_expression_106 (hz _ sh_0) fl_X12_281 rfl ?_
    refine j_iload_n (pc := 109) 1 X dX12_expression_109 rfl ?_
    refine j_icmp_le (pc := 110) 145 X dX12_expression_110 rfl hF (fun hF => ?_) (fun hF => ?_)
    · exact BX12_expression_145 X E hz r12 hr12 x1 h1 hF
    · refine j_aload_n (pc := 113) 0 X dX12_expression_113 rfl ?_
      refine j_iconst (pc := 114) 0 X dX12_expression_114 rfl ?_
      refine j_cVv (pc := 115) (As := [.int 0]) (rest := []) X dX12_expression_115 ml_X12_364 ck_X12_comesOut cv_X12_comesOut (hz _ sh_0) rfl (Nat.le_of_ble_eq_true rfl) rfl (Nat.le_of_ble_eq_true rfl) rfl hF (tX12_comesOut Z 0 hz h1) (fun h3 hF => ?_)
      refine j_aload_n (pc := 118) 0 X dX12_expression_118 rfl ?_
      refine j_dup (pc := 119) X dX12_expression_119 rfl ?_
      refine j_geti (pc := 120) X dX12_expression_120 (hz _ sh_0) fl_X12_355 rfl ?_
      refine j_iconst (pc := 123) 1 X dX12_expression_123 rfl ?_
      refine j_isub (pc := 124) X dX12_expression_124 ?_
      refine j_puti (pc := 125) X dX12_expression_125 (hz _ sh_0) fp_X12_355 rfl hF (fun h4 hF => ?_)
      refine j_aload_n (pc := 128) 0 X dX12_expression_128 rfl ?_
      refine j_dup (pc := 129) X dX12_expression_129 rfl ?_
      refine j_geti (pc := 130) X dX12_expression_130 (hz _ sh_0) fl_X12_281 rfl ?_
      refine j_iconst (pc := 133) 1 X dX12_expression_133 rfl ?_
      refine j_isub (pc := 134) X dX12_expression_134 ?_
      refine j_puti (pc := 135) X dX12_expression_135 (hz _ sh_0) fp_X12_281 rfl hF (fun h5 hF => ?_)
      refine j_aload_n (pc := 138) 0 X dX12_expression_138 rfl ?_
      refine j_cVv (pc := 139) (As := []) (rest := []) X dX12_expression_139 ml_X12_275 ck_X12_goesOn cv_X12_goesOn (hz _ sh_0) rfl (Nat.le_of_ble_eq_true rfl) rfl (Nat.le_of_ble_eq_true rfl) rfl hF (tX12_goesOn Z hz h5) (fun h6 hF => ?_)
      refine j_goto (pc := 142) 96 X dX12_expression_142 rfl ?_
      exact hr96 x1 h6 hF
theorem LX12_expression_96 {Z : ZT} {G : GT} {hr : Hp} (X : CX Z G cX12_expression RX12 3 3) (E : RX Z G none (none) hr) (hz : HZM Z) (r12 : Int32 → Int32 → Hp → Option (Hp)) (hr12 : ∀ (x1 : Int32) (x2 : Int32) (h : Hp), r12 x1 x2 h = some hr → J Z G 3 h 12 [(0, .ref (Z.2.1 0)), (1, .int x1), (2, .int x2)] []) : ∀ (n : Nat) (x1 : Int32) (h : Hp), lX12_expression_96  r12 n x1 h = some hr → J Z G 3 h 96 [(0, .ref (Z.2.1 0)), (1, .int x1)] [] := by
  intro n
  induction n with
  | zero => intro x1 h hF; cases hF
  | succ n ih => intro x1 h hF; exact BX12_expression_96 X E hz r12 hr12 (lX12_expression_96  r12 n) ih x1 h hF
def bX12_expression_23  (r12 : Int32 → Int32 → Hp → Option (Hp)) (r23 : Int32 → Hp → Option (Hp)) (x1 : Int32) (h : Hp) : Option (Hp) := bi (fX12_is 6 h) (fun w2 h1 => (if w2 = 0 then bv (fX12_unit h1) (fun h3 => (if (h3.1 0 13) ≤ 0 then lX12_expression_96 r12 FU x1 h3 else some h3)) else (if (h1.1 0 12) = 6 then bv (fX12_fail 2 h1) (fun h4 => bX12_expression_46 r12 r23 x1 h4) else bX12_expression_46 r12 r23 x1 h1)))
def lX12_expression_23  (r12 : Int32 → Int32 → Hp → Option (Hp)) : Nat → Int32 → Hp → Option (Hp)
  | 0 => fun _ _ => none
  | n + 1 => bX12_expression_23  r12 (lX12_expression_23  r12 n)
set_option maxRecDepth 20000 in
theorem BX12_expression_23 {Z : ZT} {G : GT} {hr : Hp} (X : CX Z G cX12_expression RX12 3 3) (E : RX Z G none (none) hr) (hz : HZM Z) (r12 : Int32 → Int32 → Hp → Option (Hp)) (hr12 : ∀ (x1 : Int32) (x2 : Int32) (h : Hp), r12 x1 x2 h = some hr → J Z G 3 h 12 [(0, .ref (Z.2.1 0)), (1, .int x1), (2, .int x2)] []) (r23 : Int32 → Hp → Option (Hp)) (hr23 : ∀ (x1 : Int32) (h : Hp), r23 x1 h = some hr → J Z G 3 h 23 [(0, .ref (Z.2.1 0)), (1, .int x1)] []) (x1 : Int32) (h : Hp) (hF : bX12_expression_23  r12 r23 x1 h = some hr) : J Z G 3 h 23 [(0, .ref (Z.2.1 0)), (1, .int x1)] [] := by
  unfold bX12_expression_23 at hF
  refine j_aload_n (pc := 23) 0 X dX12_expression_23 rfl ?_
  refine j_bipush (pc := 24) 6 X dX12_expression_24 rfl ?_
  refine j_cVi (pc := 26) (As := [.int 6]) (rest := []) X dX12_expression_26 ml_X12_272 ck_X12_is cv_X12_is (hz _ sh_0) rfl (Nat.le_of_ble_eq_true rfl) rfl (Nat.le_of_ble_eq_true rfl) rfl hF (tX12_is Z 6 hz h) (fun w2 h1 hF => ?_)
  refine j_if_eq (pc := 29) 84 X dX12_expression_29 rfl hF (fun hF => ?_) (fun hF => ?_)
  · refine j_aload_n (pc := 84) 0 X dX12_expression_84 rfl ?_
    refine j_cVv (pc := 85) (As := []) (rest := []) X dX12_expression_85 ml_X12_361 ck_X12_unit cv_X12_unit (hz _ sh_0) rfl (Nat.le_of_ble_eq_true rfl) rfl (Nat.le_of_ble_eq_true rfl) rfl hF (tX12_unit Z hz h1) (fun h3 hF => ?_)
    refine j_aload_n (pc := 88) 0 X dX12_expression_88 rfl ?_
    refine j_geti (pc := 89) X dX12_expression_89 (hz _ sh_0) fl_X12_254 rfl ?_
    refine j_if_le (pc := 92) 96 X dX12_expression_92 rfl hF (fun hF => ?_) (fun hF => ?_)
    · exact LX12_expression_96 X E hz r12 hr12 FU x1 h3 hF
    · exact j_vret (pc := 95) X E dX12_expression_95 hF
  · refine j_aload_n (pc := 32) 0 X dX12_expression_32 rfl ?_
    refine j_geti (pc := 33) X dX12_expression_33 (hz _ sh_0) fl_X12_281 rfl ?_
    refine j_bipush (pc := 36) 6 X dX12_expression_36 rfl ?_
    refine j_icmp_ne (pc := 38) 46 X dX12_expression_38 rfl hF (fun hF => ?_) (fun hF => ?_)
    · exact BX12_expression_46 X E hz r12 hr12 r23 hr23 x1 h1 hF
    · refine j_aload_n (pc := 41) 0 X dX12_expression_41 rfl ?_
      refine j_iconst (pc := 42) 2 X dX12_expression_42 rfl ?_
      refine j_cVv (pc := 43) (As := [.int 2]) (rest := []) X dX12_expression_43 ml_X12_269 ck_X12_fail cv_X12_fail (hz _ sh_0) rfl (Nat.le_of_ble_eq_true rfl) rfl (Nat.le_of_ble_eq_true rfl) rfl hF (tX12_fail Z 2 hz h1) (fun h4 hF => ?_)
      exact BX12_expression_46 X E hz r12 hr12 r23 hr23 x1 h4 hF
theorem LX12_expression_23 {Z : ZT} {G : GT} {hr : Hp} (X : CX Z G cX12_expression RX12 3 3) (E : RX Z G none (none) hr) (hz : HZM Z) (r12 : Int32 → Int32 → Hp → Option (Hp)) (hr12 : ∀ (x1 : Int32) (x2 : Int32) (h : Hp), r12 x1 x2 h = some hr → J Z G 3 h 12 [(0, .ref (Z.2.1 0)), (1, .int x1), (2, .int x2)] []) : ∀ (n : Nat) (x1 : Int32) (h : Hp), lX12_expression_23  r12 n x1 h = some hr → J Z G 3 h 23 [(0, .ref (Z.2.1 0)), (1, .int x1)] [] := by
  intro n
  induction n with
  | zero => intro x1 h hF; cases hF
  | succ n ih => intro x1 h hF; exact BX12_expression_23 X E hz r12 hr12 (lX12_expression_23  r12 n) ih x1 h hF
def bX12_expression_12   (r12 : Int32 → Int32 → Hp → Option (Hp)) (x1 : Int32) (x2 : Int32) (h : Hp) : Option (Hp) := (if x2 = 0 then some h else (if (h.1 0 13) = 0 then lX12_expression_23 r12 FU x1 h else some h))
def lX12_expression_12   : Nat → Int32 → Int32 → Hp → Option (Hp)
  | 0 => fun _ _ _ => none
  | n + 1 => bX12_expression_12   (lX12_expression_12   n)
set_option maxRecDepth 20000 in
theorem BX12_expression_12 {Z : ZT} {G : GT} {hr : Hp} (X : CX Z G cX12_expression RX12 3 3) (E : RX Z G none (none) hr) (hz : HZM Z)  (r12 : Int32 → Int32 → Hp → Option (Hp)) (hr12 : ∀ (x1 : Int32) (x2 : Int32) (h : Hp), r12 x1 x2 h = some hr → J Z G 3 h 12 [(0, .ref (Z.2.1 0)), (1, .int x1), (2, .int x2)] []) (x1 : Int32) (x2 : Int32) (h : Hp) (hF : bX12_expression_12   r12 x1 x2 h = some hr) : J Z G 3 h 12 [(0, .ref (Z.2.1 0)), (1, .int x1), (2, .int x2)] [] := by
  unfold bX12_expression_12 at hF
  refine j_iload_n (pc := 12) 2 X dX12_expression_12 rfl ?_
  refine j_if_eq (pc := 13) 272 X dX12_expression_13 rfl hF (fun hF => ?_) (fun hF => ?_)
  · exact j_vret (pc := 272) X E dX12_expression_272 hF
  · refine j_aload_n (pc := 16) 0 X dX12_expression_16 rfl ?_
    refine j_geti (pc := 17) X dX12_expression_17 (hz _ sh_0) fl_X12_254 rfl ?_
    refine j_if_ne (pc := 20) 272 X dX12_expression_20 rfl hF (fun hF => ?_) (fun hF => ?_)
    · exact j_vret (pc := 272) X E dX12_expression_272 hF
    · refine j_lv [(0, .ref (Z.2.1 0)), (1, .int x1)] [0, 1] rfl ?_
      exact LX12_expression_23 X E hz r12 hr12 FU x1 h hF
theorem LX12_expression_12 {Z : ZT} {G : GT} {hr : Hp} (X : CX Z G cX12_expression RX12 3 3) (E : RX Z G none (none) hr) (hz : HZM Z)  : ∀ (n : Nat) (x1 : Int32) (x2 : Int32) (h : Hp), lX12_expression_12   n x1 x2 h = some hr → J Z G 3 h 12 [(0, .ref (Z.2.1 0)), (1, .int x1), (2, .int x2)] [] := by
  intro n
  induction n with
  | zero => intro x1 x2 h hF; cases hF
  | succ n ih => intro x1 x2 h hF; exact BX12_expression_12 X E hz  (lX12_expression_12   n) ih x1 x2 h hF
def fX12_expression  (h : Hp) : Option (Hp) := lt (wI h 0 53 0) (fun h1 => lt (h1.1 0 12) (fun v2 => lt 1 (fun v3 => lX12_expression_12 FU v2 v3 h1)))
set_option maxRecDepth 20000 in
theorem tX12_expression (Z : ZT)  (hz : HZM Z) (h : Hp) (hr : Hp) (hF : fX12_expression  h = some hr) : MC Z yX12_expression cX12_expression 3 none 3 [.ref (Z.2.1 0)] h (none) hr := by
  unfold fX12_expression at hF
  refine mc_start (by decide) (Nat.le_of_ble_eq_true rfl) (fun G X E => ?_)
  refine j_aload_n (pc := 0) 0 X dX12_expression_0 rfl ?_
  refine j_iconst (pc := 1) 0 X dX12_expression_1 rfl ?_
  refine j_puti (pc := 2) X dX12_expression_2 (hz _ sh_0) fp_X12_355 rfl hF (fun h1 hF => ?_)
  refine j_aload_n (pc := 5) 0 X dX12_expression_5 rfl ?_
  refine j_geti (pc := 6) X dX12_expression_6 (hz _ sh_0) fl_X12_281 rfl ?_
  refine j_istore_n (pc := 9) (fun y => [(1, .int y), (0, .ref (Z.2.1 0))]) X dX12_expression_9 (by decide) (fun _ => rfl) hF (fun v2 hF => ?_)
  refine j_iconst (pc := 10) 1 X dX12_expression_10 rfl ?_
  refine j_istore_n (pc := 11) (fun y => [(2, .int y), (1, .int v2), (0, .ref (Z.2.1 0))]) X dX12_expression_11 (by decide) (fun _ => rfl) hF (fun v3 hF => ?_)
  refine j_lv [(0, .ref (Z.2.1 0)), (1, .int v2), (2, .int v3)] [2, 1, 0] rfl ?_
  exact LX12_expression_12 X E hz FU v2 v3 h1 hF
theorem dX12_literal_0 : decode cX12_literal 0 = .ok (.iconst 0, 1) := by decide +kernel
theorem dX12_literal_1 : decode cX12_literal 1 = .ok (.istore_n 2, 1) := by decide +kernel
theorem dX12_literal_2 : decode cX12_literal 2 = .ok (.aload_n 0, 1) := by decide +kernel
theorem dX12_literal_3 : decode cX12_literal 3 = .ok (.bipush 31, 2) := by decide +kernel
theorem dX12_literal_5 : decode cX12_literal 5 = .ok (.invokevirtual 272, 3) := by decide +kernel
theorem dX12_literal_8 : decode cX12_literal 8 = .ok (.ifCond .eq 20, 3) := by decide +kernel
theorem dX12_literal_11 : decode cX12_literal 11 = .ok (.iload_n 2, 1) := by decide +kernel
theorem dX12_literal_12 : decode cX12_literal 12 = .ok (.ifCond .ne 7, 3) := by decide +kernel
theorem dX12_literal_15 : decode cX12_literal 15 = .ok (.iconst 1, 1) := by decide +kernel
theorem dX12_literal_16 : decode cX12_literal 16 = .ok (.goto 4, 3) := by decide +kernel
theorem dX12_literal_19 : decode cX12_literal 19 = .ok (.iconst 0, 1) := by decide +kernel
theorem dX12_literal_20 : decode cX12_literal 20 = .ok (.istore_n 2, 1) := by decide +kernel
theorem dX12_literal_21 : decode cX12_literal 21 = .ok (.aload_n 0, 1) := by decide +kernel
theorem dX12_literal_22 : decode cX12_literal 22 = .ok (.invokevirtual 275, 3) := by decide +kernel
theorem dX12_literal_25 : decode cX12_literal 25 = .ok (.goto (-23), 3) := by decide +kernel
theorem dX12_literal_28 : decode cX12_literal 28 = .ok (.aload_n 0, 1) := by decide +kernel
theorem dX12_literal_29 : decode cX12_literal 29 = .ok (.bipush 32, 2) := by decide +kernel
theorem dX12_literal_31 : decode cX12_literal 31 = .ok (.invokevirtual 272, 3) := by decide +kernel
theorem dX12_literal_34 : decode cX12_literal 34 = .ok (.ifCond .ne 12, 3) := by decide +kernel
theorem dX12_literal_37 : decode cX12_literal 37 = .ok (.aload_n 0, 1) := by decide +kernel
theorem dX12_literal_38 : decode cX12_literal 38 = .ok (.bipush 33, 2) := by decide +kernel
theorem dX12_literal_40 : decode cX12_literal 40 = .ok (.invokevirtual 272, 3) := by decide +kernel
theorem dX12_literal_43 : decode cX12_literal 43 = .ok (.ifCond .eq 132, 3) := by decide +kernel
theorem dX12_literal_46 : decode cX12_literal 46 = .ok (.aload_n 0, 1) := by decide +kernel
theorem dX12_literal_47 : decode cX12_literal 47 = .ok (.bipush 32, 2) := by decide +kernel
theorem dX12_literal_49 : decode cX12_literal 49 = .ok (.invokevirtual 272, 3) := by decide +kernel
theorem dX12_literal_52 : decode cX12_literal 52 = .ok (.istore_n 3, 1) := by decide +kernel
theorem dX12_literal_53 : decode cX12_literal 53 = .ok (.aload_n 0, 1) := by decide +kernel
theorem dX12_literal_54 : decode cX12_literal 54 = .ok (.invokevirtual 275, 3) := by decide +kernel
theorem dX12_literal_57 : decode cX12_literal 57 = .ok (.aload_n 0, 1) := by decide +kernel
theorem dX12_literal_58 : decode cX12_literal 58 = .ok (.getfield 257, 3) := by decide +kernel
theorem dX12_literal_61 : decode cX12_literal 61 = .ok (.istore 4, 2) := by decide +kernel
theorem dX12_literal_63 : decode cX12_literal 63 = .ok (.aload_n 0, 1) := by decide +kernel
theorem dX12_literal_64 : decode cX12_literal 64 = .ok (.iconst 1, 1) := by decide +kernel
theorem dX12_literal_65 : decode cX12_literal 65 = .ok (.invokevirtual 331, 3) := by decide +kernel
theorem dX12_literal_68 : decode cX12_literal 68 = .ok (.aload_n 0, 1) := by decide +kernel
theorem dX12_literal_69 : decode cX12_literal 69 = .ok (.getfield 254, 3) := by decide +kernel
theorem dX12_literal_72 : decode cX12_literal 72 = .ok (.ifCond .le 4, 3) := by decide +kernel
theorem dX12_literal_75 : decode cX12_literal 75 = .ok (.return_, 1) := by decide +kernel
theorem dX12_literal_76 : decode cX12_literal 76 = .ok (.iload_n 3, 1) := by decide +kernel
theorem dX12_literal_77 : decode cX12_literal 77 = .ok (.ifCond .eq 13, 3) := by decide +kernel
theorem dX12_literal_80 : decode cX12_literal 80 = .ok (.aload_n 0, 1) := by decide +kernel
theorem dX12_literal_81 : decode cX12_literal 81 = .ok (.iload 4, 2) := by decide +kernel
theorem dX12_literal_83 : decode cX12_literal 83 = .ok (.iconst 0, 1) := by decide +kernel
theorem dX12_literal_84 : decode cX12_literal 84 = .ok (.invokevirtual 308, 3) := by decide +kernel
theorem dX12_literal_87 : decode cX12_literal 87 = .ok (.goto 4, 3) := by decide +kernel
theorem dX12_literal_90 : decode cX12_literal 90 = .ok (.iconst 0, 1) := by decide +kernel
theorem dX12_literal_91 : decode cX12_literal 91 = .ok (.istore 5, 2) := by decide +kernel
theorem dX12_literal_93 : decode cX12_literal 93 = .ok (.iload 5, 2) := by decide +kernel
theorem dX12_literal_95 : decode cX12_literal 95 = .ok (.iconst (-1), 1) := by decide +kernel
theorem dX12_literal_96 : decode cX12_literal 96 = .ok (.if_icmp .ne 10, 3) := by decide +kernel
theorem dX12_literal_99 : decode cX12_literal 99 = .ok (.aload_n 0, 1) := by decide +kernel
theorem dX12_literal_100 : decode cX12_literal 100 = .ok (.iconst 4, 1) := by decide +kernel
theorem dX12_literal_101 : decode cX12_literal 101 = .ok (.iload 4, 2) := by decide +kernel
theorem dX12_literal_103 : decode cX12_literal 103 = .ok (.invokevirtual 312, 3) := by decide +kernel
theorem dX12_literal_106 : decode cX12_literal 106 = .ok (.aload_n 0, 1) := by decide +kernel
theorem dX12_literal_107 : decode cX12_literal 107 = .ok (.getfield 104, 3) := by decide +kernel
theorem dX12_literal_110 : decode cX12_literal 110 = .ok (.aload_n 0, 1) := by decide +kernel
theorem dX12_literal_111 : decode cX12_literal 111 = .ok (.getfield 293, 3) := by decide +kernel
theorem dX12_literal_114 : decode cX12_literal 114 = .ok (.iload_n 3, 1) := by decide +kernel
theorem dX12_literal_115 : decode cX12_literal 115 = .ok (.ifCond .eq 7, 3) := by decide +kernel
theorem dX12_literal_118 : decode cX12_literal 118 = .ok (.iconst 4, 1) := by decide +kernel
theorem dX12_literal_119 : decode cX12_literal 119 = .ok (.goto 4, 3) := by decide +kernel
theorem dX12_literal_122 : decode cX12_literal 122 = .ok (.iconst 5, 1) := by decide +kernel
theorem dX12_literal_123 : decode cX12_literal 123 = .ok (.iastore, 1) := by decide +kernel
theorem dX12_literal_124 : decode cX12_literal 124 = .ok (.aload_n 0, 1) := by decide +kernel
theorem dX12_literal_125 : decode cX12_literal 125 = .ok (.getfield 107, 3) := by decide +kernel
theorem dX12_literal_128 : decode cX12_literal 128 = .ok (.aload_n 0, 1) := by decide +kernel
theorem dX12_literal_129 : decode cX12_literal 129 = .ok (.getfield 293, 3) := by decide +kernel
theorem dX12_literal_132 : decode cX12_literal 132 = .ok (.iload_n 2, 1) := by decide +kernel
theorem dX12_literal_133 : decode cX12_literal 133 = .ok (.bastore, 1) := by decide +kernel
theorem dX12_literal_134 : decode cX12_literal 134 = .ok (.aload_n 0, 1) := by decide +kernel
theorem dX12_literal_135 : decode cX12_literal 135 = .ok (.getfield 110, 3) := by decide +kernel
theorem dX12_literal_138 : decode cX12_literal 138 = .ok (.aload_n 0, 1) := by decide +kernel
theorem dX12_literal_139 : decode cX12_literal 139 = .ok (.getfield 293, 3) := by decide +kernel
theorem dX12_literal_142 : decode cX12_literal 142 = .ok (.iload_n 1, 1) := by decide +kernel
theorem dX12_literal_143 : decode cX12_literal 143 = .ok (.bastore, 1) := by decide +kernel
theorem dX12_literal_144 : decode cX12_literal 144 = .ok (.aload_n 0, 1) := by decide +kernel
theorem dX12_literal_145 : decode cX12_literal 145 = .ok (.getfield 113, 3) := by decide +kernel
theorem dX12_literal_148 : decode cX12_literal 148 = .ok (.aload_n 0, 1) := by decide +kernel
theorem dX12_literal_149 : decode cX12_literal 149 = .ok (.getfield 293, 3) := by decide +kernel
theorem dX12_literal_152 : decode cX12_literal 152 = .ok (.iload_n 3, 1) := by decide +kernel
theorem dX12_literal_153 : decode cX12_literal 153 = .ok (.ifCond .eq 8, 3) := by decide +kernel
theorem dX12_literal_156 : decode cX12_literal 156 = .ok (.iload 5, 2) := by decide +kernel
theorem dX12_literal_158 : decode cX12_literal 158 = .ok (.goto 5, 3) := by decide +kernel
theorem dX12_literal_161 : decode cX12_literal 161 = .ok (.iload 4, 2) := by decide +kernel
theorem dX12_literal_163 : decode cX12_literal 163 = .ok (.iastore, 1) := by decide +kernel
theorem dX12_literal_164 : decode cX12_literal 164 = .ok (.aload_n 0, 1) := by decide +kernel
theorem dX12_literal_165 : decode cX12_literal 165 = .ok (.dup, 1) := by decide +kernel
theorem dX12_literal_166 : decode cX12_literal 166 = .ok (.getfield 293, 3) := by decide +kernel
theorem dX12_literal_169 : decode cX12_literal 169 = .ok (.iconst 1, 1) := by decide +kernel
theorem dX12_literal_170 : decode cX12_literal 170 = .ok (.iadd, 1) := by decide +kernel
theorem dX12_literal_171 : decode cX12_literal 171 = .ok (.putfield 293, 3) := by decide +kernel
theorem dX12_literal_174 : decode cX12_literal 174 = .ok (.return_, 1) := by decide +kernel
theorem dX12_literal_175 : decode cX12_literal 175 = .ok (.aload_n 0, 1) := by decide +kernel
theorem dX12_literal_176 : decode cX12_literal 176 = .ok (.getfield 296, 3) := by decide +kernel
theorem dX12_literal_179 : decode cX12_literal 179 = .ok (.istore_n 3, 1) := by decide +kernel
theorem dX12_literal_180 : decode cX12_literal 180 = .ok (.aload_n 0, 1) := by decide +kernel
theorem dX12_literal_181 : decode cX12_literal 181 = .ok (.invokevirtual 334, 3) := by decide +kernel
theorem dX12_literal_184 : decode cX12_literal 184 = .ok (.aload_n 0, 1) := by decide +kernel
theorem dX12_literal_185 : decode cX12_literal 185 = .ok (.getfield 254, 3) := by decide +kernel
theorem dX12_literal_188 : decode cX12_literal 188 = .ok (.ifCond .le 7, 3) := by decide +kernel
theorem dX12_literal_191 : decode cX12_literal 191 = .ok (.iconst 0, 1) := by decide +kernel
theorem dX12_literal_192 : decode cX12_literal 192 = .ok (.goto 15, 3) := by decide +kernel
theorem dX12_literal_195 : decode cX12_literal 195 = .ok (.aload_n 0, 1) := by decide +kernel
theorem dX12_literal_196 : decode cX12_literal 196 = .ok (.getfield 20, 3) := by decide +kernel
theorem dX12_literal_199 : decode cX12_literal 199 = .ok (.aload_n 0, 1) := by decide +kernel
theorem dX12_literal_200 : decode cX12_literal 200 = .ok (.getfield 257, 3) := by decide +kernel
theorem dX12_literal_203 : decode cX12_literal 203 = .ok (.iaload, 1) := by decide +kernel
theorem dX12_literal_204 : decode cX12_literal 204 = .ok (.bipush 11, 2) := by decide +kernel
theorem dX12_literal_206 : decode cX12_literal 206 = .ok (.isub, 1) := by decide +kernel
theorem dX12_literal_207 : decode cX12_literal 207 = .ok (.istore 4, 2) := by decide +kernel
theorem dX12_literal_209 : decode cX12_literal 209 = .ok (.aload_n 0, 1) := by decide +kernel
theorem dX12_literal_210 : decode cX12_literal 210 = .ok (.getfield 254, 3) := by decide +kernel
theorem dX12_literal_213 : decode cX12_literal 213 = .ok (.ifCond .ne 19, 3) := by decide +kernel
theorem dX12_literal_216 : decode cX12_literal 216 = .ok (.iload 4, 2) := by decide +kernel
theorem dX12_literal_218 : decode cX12_literal 218 = .ok (.ifCond .lt 9, 3) := by decide +kernel
theorem dX12_literal_221 : decode cX12_literal 221 = .ok (.iload 4, 2) := by decide +kernel
theorem dX12_literal_223 : decode cX12_literal 223 = .ok (.iconst 3, 1) := by decide +kernel
theorem dX12_literal_224 : decode cX12_literal 224 = .ok (.if_icmp .le 8, 3) := by decide +kernel
theorem dX12_literal_227 : decode cX12_literal 227 = .ok (.aload_n 0, 1) := by decide +kernel
theorem dX12_literal_228 : decode cX12_literal 228 = .ok (.iconst 1, 1) := by decide +kernel
theorem dX12_literal_229 : decode cX12_literal 229 = .ok (.invokevirtual 269, 3) := by decide +kernel
theorem dX12_literal_232 : decode cX12_literal 232 = .ok (.aload_n 0, 1) := by decide +kernel
theorem dX12_literal_233 : decode cX12_literal 233 = .ok (.invokevirtual 275, 3) := by decide +kernel
theorem dX12_literal_236 : decode cX12_literal 236 = .ok (.aload_n 0, 1) := by decide +kernel
theorem dX12_literal_237 : decode cX12_literal 237 = .ok (.getfield 296, 3) := by decide +kernel
theorem dX12_literal_240 : decode cX12_literal 240 = .ok (.istore 5, 2) := by decide +kernel
theorem dX12_literal_242 : decode cX12_literal 242 = .ok (.aload_n 0, 1) := by decide +kernel
theorem dX12_literal_243 : decode cX12_literal 243 = .ok (.invokevirtual 334, 3) := by decide +kernel
theorem dX12_literal_246 : decode cX12_literal 246 = .ok (.aload_n 0, 1) := by decide +kernel
theorem dX12_literal_247 : decode cX12_literal 247 = .ok (.getfield 254, 3) := by decide +kernel
theorem dX12_literal_250 : decode cX12_literal 250 = .ok (.ifCond .le 4, 3) := by decide +kernel
theorem dX12_literal_253 : decode cX12_literal 253 = .ok (.return_, 1) := by decide +kernel
theorem dX12_literal_254 : decode cX12_literal 254 = .ok (.aload_n 0, 1) := by decide +kernel
theorem dX12_literal_255 : decode cX12_literal 255 = .ok (.getfield 104, 3) := by decide +kernel
theorem dX12_literal_258 : decode cX12_literal 258 = .ok (.aload_n 0, 1) := by decide +kernel
theorem dX12_literal_259 : decode cX12_literal 259 = .ok (.getfield 293, 3) := by decide +kernel
theorem dX12_literal_262 : decode cX12_literal 262 = .ok (.iload 4, 2) := by decide +kernel
theorem dX12_literal_264 : decode cX12_literal 264 = .ok (.iastore, 1) := by decide +kernel
theorem dX12_literal_265 : decode cX12_literal 265 = .ok (.aload_n 0, 1) := by decide +kernel
theorem dX12_literal_266 : decode cX12_literal 266 = .ok (.getfield 107, 3) := by decide +kernel
theorem dX12_literal_269 : decode cX12_literal 269 = .ok (.aload_n 0, 1) := by decide +kernel
theorem dX12_literal_270 : decode cX12_literal 270 = .ok (.getfield 293, 3) := by decide +kernel
theorem dX12_literal_273 : decode cX12_literal 273 = .ok (.iload_n 2, 1) := by decide +kernel
theorem dX12_literal_274 : decode cX12_literal 274 = .ok (.bastore, 1) := by decide +kernel
theorem dX12_literal_275 : decode cX12_literal 275 = .ok (.aload_n 0, 1) := by decide +kernel
theorem dX12_literal_276 : decode cX12_literal 276 = .ok (.getfield 110, 3) := by decide +kernel
theorem dX12_literal_279 : decode cX12_literal 279 = .ok (.aload_n 0, 1) := by decide +kernel
theorem dX12_literal_280 : decode cX12_literal 280 = .ok (.getfield 293, 3) := by decide +kernel
theorem dX12_literal_283 : decode cX12_literal 283 = .ok (.iload_n 1, 1) := by decide +kernel
theorem dX12_literal_284 : decode cX12_literal 284 = .ok (.bastore, 1) := by decide +kernel
theorem dX12_literal_285 : decode cX12_literal 285 = .ok (.aload_n 0, 1) := by decide +kernel
theorem dX12_literal_286 : decode cX12_literal 286 = .ok (.getfield 113, 3) := by decide +kernel
theorem dX12_literal_289 : decode cX12_literal 289 = .ok (.aload_n 0, 1) := by decide +kernel
theorem dX12_literal_290 : decode cX12_literal 290 = .ok (.getfield 293, 3) := by decide +kernel
theorem dX12_literal_293 : decode cX12_literal 293 = .ok (.iload_n 3, 1) := by decide +kernel
theorem dX12_literal_294 : decode cX12_literal 294 = .ok (.iastore, 1) := by decide +kernel
theorem dX12_literal_295 : decode cX12_literal 295 = .ok (.aload_n 0, 1) := by decide +kernel
theorem dX12_literal_296 : decode cX12_literal 296 = .ok (.getfield 116, 3) := by decide +kernel
theorem dX12_literal_299 : decode cX12_literal 299 = .ok (.aload_n 0, 1) := by decide +kernel
theorem dX12_literal_300 : decode cX12_literal 300 = .ok (.getfield 293, 3) := by decide +kernel
theorem dX12_literal_303 : decode cX12_literal 303 = .ok (.iload 5, 2) := by decide +kernel
theorem dX12_literal_305 : decode cX12_literal 305 = .ok (.iastore, 1) := by decide +kernel
theorem dX12_literal_306 : decode cX12_literal 306 = .ok (.aload_n 0, 1) := by decide +kernel
theorem dX12_literal_307 : decode cX12_literal 307 = .ok (.getfield 119, 3) := by decide +kernel
theorem dX12_literal_310 : decode cX12_literal 310 = .ok (.aload_n 0, 1) := by decide +kernel
theorem dX12_literal_311 : decode cX12_literal 311 = .ok (.getfield 293, 3) := by decide +kernel
theorem dX12_literal_314 : decode cX12_literal 314 = .ok (.aload_n 0, 1) := by decide +kernel
theorem dX12_literal_315 : decode cX12_literal 315 = .ok (.getfield 296, 3) := by decide +kernel
theorem dX12_literal_318 : decode cX12_literal 318 = .ok (.iastore, 1) := by decide +kernel
theorem dX12_literal_319 : decode cX12_literal 319 = .ok (.aload_n 0, 1) := by decide +kernel
theorem dX12_literal_320 : decode cX12_literal 320 = .ok (.dup, 1) := by decide +kernel
theorem dX12_literal_321 : decode cX12_literal 321 = .ok (.getfield 293, 3) := by decide +kernel
theorem dX12_literal_324 : decode cX12_literal 324 = .ok (.iconst 1, 1) := by decide +kernel
theorem dX12_literal_325 : decode cX12_literal 325 = .ok (.iadd, 1) := by decide +kernel
theorem dX12_literal_326 : decode cX12_literal 326 = .ok (.putfield 293, 3) := by decide +kernel
theorem dX12_literal_329 : decode cX12_literal 329 = .ok (.return_, 1) := by decide +kernel
def bX12_literal_20  (r2 : Int32 → Int32 → Hp → Option (Hp)) (x1 : Int32) (s0 : Int32) (h : Hp) : Option (Hp) := lt s0 (fun v1 => bv (fX12_goesOn h) (fun h2 => r2 x1 v1 h2))
set_option maxRecDepth 20000 in
theorem BX12_literal_20 {Z : ZT} {G : GT} {hr : Hp} (X : CX Z G cX12_literal RX12 6 4) (E : RX Z G none (none) hr) (hz : HZM Z) (r2 : Int32 → Int32 → Hp → Option (Hp)) (hr2 : ∀ (x1 : Int32) (x2 : Int32) (h : Hp), r2 x1 x2 h = some hr → J Z G 6 h 2 [(0, .ref (Z.2.1 0)), (1, .int x1), (2, .int x2)] []) (x1 : Int32) (s0 : Int32) (h : Hp) (hF : bX12_literal_20  r2 x1 s0 h = some hr) : J Z G 6 h 20 [(0, .ref (Z.2.1 0)), (1, .int x1)] [.int s0] := by
  unfold bX12_literal_20 at hF
  refine j_istore_n (pc := 20) (fun y => [(2, .int y), (0, .ref (Z.2.1 0)), (1, .int x1)]) X dX12_literal_20 (by decide) (fun _ => rfl) hF (fun v1 hF => ?_)
  refine j_aload_n (pc := 21) 1 X dX12_literal_21 rfl ?_
  refine j_cVv (pc := 22) (As := []) (rest := []) X dX12_literal_22 ml_X12_275 ck_X12_goesOn cv_X12_goesOn (hz _ sh_0) rfl (Nat.le_of_ble_eq_true rfl) rfl (Nat.le_of_ble_eq_true rfl) rfl hF (tX12_goesOn Z hz h) (fun h2 hF => ?_)
  refine j_goto (pc := 25) 2 X dX12_literal_25 rfl ?_
  refine j_lv [(0, .ref (Z.2.1 0)), (1, .int x1), (2, .int v1)] [1, 2, 0] rfl ?_
  exact hr2 x1 v1 h2 hF
def bX12_literal_163   (s0 : Int32) (s1 : Int32) (h : Hp) : Option (Hp) := ck (inb s1 300) (lt (wI h 32 (ix s1) s0) (fun h1 => lt (wI h1 0 42 ((h1.1 0 42) + 1)) (fun h2 => some h2)))
set_option maxRecDepth 20000 in
theorem BX12_literal_163 {Z : ZT} {G : GT} {hr : Hp} (X : CX Z G cX12_literal RX12 6 4) (E : RX Z G none (none) hr) (hz : HZM Z)  (s0 : Int32) (s1 : Int32) (h : Hp) (hF : bX12_literal_163   s0 s1 h = some hr) : J Z G 6 h 163 [(0, .ref (Z.2.1 0))] [.int s0, .int s1, .ref (Z.2.1 32)] := by
  unfold bX12_literal_163 at hF
  refine j_iast (pc := 163) X dX12_literal_163 (hz _ sh_32) hF (fun h1 hF => ?_)
  refine j_aload_n (pc := 164) 0 X dX12_literal_164 rfl ?_
  refine j_dup (pc := 165) X dX12_literal_165 rfl ?_
  refine j_geti (pc := 166) X dX12_literal_166 (hz _ sh_0) fl_X12_293 rfl ?_
  refine j_iconst (pc := 169) 1 X dX12_literal_169 rfl ?_
  refine j_iadd (pc := 170) X dX12_literal_170 ?_
  refine j_puti (pc := 171) X dX12_literal_171 (hz _ sh_0) fp_X12_293 rfl hF (fun h2 hF => ?_)
  exact j_vret (pc := 174) X E dX12_literal_174 hF
def bX12_literal_123   (x1 : Int32) (x2 : Int32) (x3 : Int32) (x4 : Int32) (x5 : Int32) (s0 : Int32) (s1 : Int32) (h : Hp) : Option (Hp) := ck (inb s1 300) (lt (wI h 29 (ix s1) s0) (fun h1 => ck (inb (h1.1 0 42) 300) (lt (wI h1 30 (ix (h1.1 0 42)) (vp_nar .boolean x2)) (fun h2 => ck (inb (h2.1 0 42) 300) (lt (wI h2 31 (ix (h2.1 0 42)) (vp_nar .boolean x1)) (fun h3 => (if x3 = 0 then bX12_literal_163 x4 (h3.1 0 42) h3 else bX12_literal_163 x5 (h3.1 0 42) h3)))))))
set_option maxRecDepth 20000 in
theorem BX12_literal_123 {Z : ZT} {G : GT} {hr : Hp} (X : CX Z G cX12_literal RX12 6 4) (E : RX Z G none (none) hr) (hz : HZM Z)  (x1 : Int32) (x2 : Int32) (x3 : Int32) (x4 : Int32) (x5 : Int32) (s0 : Int32) (s1 : Int32) (h : Hp) (hF : bX12_literal_123   x1 x2 x3 x4 x5 s0 s1 h = some hr) : J Z G 6 h 123 [(0, .ref (Z.2.1 0)), (1, .int x1), (2, .int x2), (3, .int x3), (4, .int x4), (5, .int x5)] [.int s0, .int s1, .ref (Z.2.1 29)] := by
  unfold bX12_literal_123 at hF
  refine j_iast (pc := 123) X dX12_literal_123 (hz _ sh_29) hF (fun h1 hF => ?_)
  refine j_aload_n (pc := 124) 0 X dX12_literal_124 rfl ?_
  refine j_getr (pc := 125) X dX12_literal_125 (hz _ sh_0) fl_X12_107 rfl ?_
  refine j_aload_n (pc := 128) 0 X dX12_literal_128 rfl ?_
  refine j_geti (pc := 129) X dX12_literal_129 (hz _ sh_0) fl_X12_293 rfl ?_
  refine j_iload_n (pc := 132) 2 X dX12_literal_132 rfl ?_
  refine j_zast (pc := 133) X dX12_literal_133 (hz _ sh_30) hF (fun h2 hF => ?_)
  refine j_aload_n (pc := 134) 0 X dX12_literal_134 rfl ?_
  refine j_getr (pc := 135) X dX12_literal_135 (hz _ sh_0) fl_X12_110 rfl ?_
  refine j_aload_n (pc := 138) 0 X dX12_literal_138 rfl ?_
  refine j_geti (pc := 139) X dX12_literal_139 (hz _ sh_0) fl_X12_293 rfl ?_
  refine j_iload_n (pc := 142) 1 X dX12_literal_142 rfl ?_
  refine j_zast (pc := 143) X dX12_literal_143 (hz _ sh_31) hF (fun h3 hF => ?_)
  refine j_aload_n (pc := 144) 0 X dX12_literal_144 rfl ?_
  refine j_getr (pc := 145) X dX12_literal_145 (hz _ sh_0) fl_X12_113 rfl ?_
  refine j_aload_n (pc := 148) 0 X dX12_literal_148 rfl ?_
  refine j_geti (pc := 149) X dX12_literal_149 (hz _ sh_0) fl_X12_293 rfl ?_
  refine j_iload_n (pc := 152) 3 X dX12_literal_152 rfl ?_
  refine j_if_eq (pc := 153) 161 X dX12_literal_153 rfl hF (fun hF => ?_) (fun hF => ?_)
  · refine j_iload (pc := 161) 4 X dX12_literal_161 rfl ?_
    refine j_lv [(0, .ref (Z.2.1 0))] [0] rfl ?_
    exact BX12_literal_163 X E hz x4 (h3.1 0 42) h3 hF
  · refine j_iload (pc := 156) 5 X dX12_literal_156 rfl ?_
    refine j_goto (pc := 158) 163 X dX12_literal_158 rfl ?_
    refine j_lv [(0, .ref (Z.2.1 0))] [0] rfl ?_
    exact BX12_literal_163 X E hz x5 (h3.1 0 42) h3 hF
def bX12_literal_106   (x1 : Int32) (x2 : Int32) (x3 : Int32) (x4 : Int32) (x5 : Int32) (h : Hp) : Option (Hp) := (if x3 = 0 then bX12_literal_123 x1 x2 x3 x4 x5 5 (h.1 0 42) h else bX12_literal_123 x1 x2 x3 x4 x5 4 (h.1 0 42) h)
set_option maxRecDepth 20000 in
theorem BX12_literal_106 {Z : ZT} {G : GT} {hr : Hp} (X : CX Z G cX12_literal RX12 6 4) (E : RX Z G none (none) hr) (hz : HZM Z)  (x1 : Int32) (x2 : Int32) (x3 : Int32) (x4 : Int32) (x5 : Int32) (h : Hp) (hF : bX12_literal_106   x1 x2 x3 x4 x5 h = some hr) : J Z G 6 h 106 [(0, .ref (Z.2.1 0)), (1, .int x1), (2, .int x2), (3, .int x3), (4, .int x4), (5, .int x5)] [] := by
  unfold bX12_literal_106 at hF
  refine j_aload_n (pc := 106) 0 X dX12_literal_106 rfl ?_
  refine j_getr (pc := 107) X dX12_literal_107 (hz _ sh_0) fl_X12_104 rfl ?_
  refine j_aload_n (pc := 110) 0 X dX12_literal_110 rfl ?_
  refine j_geti (pc := 111) X dX12_literal_111 (hz _ sh_0) fl_X12_293 rfl ?_
  refine j_iload_n (pc := 114) 3 X dX12_literal_114 rfl ?_
  refine j_if_eq (pc := 115) 122 X dX12_literal_115 rfl hF (fun hF => ?_) (fun hF => ?_)
  · refine j_iconst (pc := 122) 5 X dX12_literal_122 rfl ?_
    exact BX12_literal_123 X E hz x1 x2 x3 x4 x5 5 (h.1 0 42) h hF
  · refine j_iconst (pc := 118) 4 X dX12_literal_118 rfl ?_
    refine j_goto (pc := 119) 123 X dX12_literal_119 rfl ?_
    exact BX12_literal_123 X E hz x1 x2 x3 x4 x5 4 (h.1 0 42) h hF
def bX12_literal_91   (x1 : Int32) (x2 : Int32) (x3 : Int32) (x4 : Int32) (s0 : Int32) (h : Hp) : Option (Hp) := lt s0 (fun v1 => (if v1 = (-1) then bv (fX12_amiss 4 x4 h) (fun h2 => bX12_literal_106 x1 x2 x3 x4 v1 h2) else bX12_literal_106 x1 x2 x3 x4 v1 h))
set_option maxRecDepth 20000 in
theorem BX12_literal_91 {Z : ZT} {G : GT} {hr : Hp} (X : CX Z G cX12_literal RX12 6 4) (E : RX Z G none (none) hr) (hz : HZM Z)  (x1 : Int32) (x2 : Int32) (x3 : Int32) (x4 : Int32) (s0 : Int32) (h : Hp) (hF : bX12_literal_91   x1 x2 x3 x4 s0 h = some hr) : J Z G 6 h 91 [(0, .ref (Z.2.1 0)), (1, .int x1), (2, .int x2), (3, .int x3), (4, .int x4)] [.int s0] := by
  unfold bX12_literal_91 at hF
  refine j_istore (pc := 91) (fun y => [(5, .int y), (0, .ref (Z.2.1 0)), (1, .int x1), (2, .int x2), (3, .int x3), (4, .int x4)]) X dX12_literal_91 (by decide) (fun _ => rfl) hF (fun v1 hF => ?_)
  refine j_iload (pc := 93) 0 X dX12_literal_93 rfl ?_
  refine j_iconst (pc := 95) (-1) X dX12_literal_95 rfl ?_
  refine j_icmp_ne (pc := 96) 106 X dX12_literal_96 rfl hF (fun hF => ?_) (fun hF => ?_)
  · refine j_lv [(0, .ref (Z.2.1 0)), (1, .int x1), (2, .int x2), (3, .int x3), (4, .int x4), (5, .int v1)] [1, 2, 3, 4, 5, 0] rfl ?_
    exact BX12_literal_106 X E hz x1 x2 x3 x4 v1 h hF
  · refine j_aload_n (pc := 99) 1 X dX12_literal_99 rfl ?_
    refine j_iconst (pc := 100) 4 X dX12_literal_100 rfl ?_
    refine j_iload (pc := 101) 5 X dX12_literal_101 rfl ?_
    refine j_cVv (pc := 103) (As := [.int 4, .int x4]) (rest := []) X dX12_literal_103 ml_X12_312 ck_X12_amiss cv_X12_amiss (hz _ sh_0) rfl (Nat.le_of_ble_eq_true rfl) rfl (Nat.le_of_ble_eq_true rfl) rfl hF (tX12_amiss Z 4 x4 hz h) (fun h2 hF => ?_)
    refine j_lv [(0, .ref (Z.2.1 0)), (1, .int x1), (2, .int x2), (3, .int x3), (4, .int x4), (5, .int v1)] [1, 2, 3, 4, 5, 0] rfl ?_
    exact BX12_literal_106 X E hz x1 x2 x3 x4 v1 h2 hF
def bX12_literal_46   (x1 : Int32) (x2 : Int32) (h : Hp) : Option (Hp) := bi (fX12_is 32 h) (fun w2 h1 => lt w2 (fun v3 => bv (fX12_goesOn h1) (fun h4 => lt (h4.1 0 11) (fun v5 => bv (fX12_must 1 h4) (fun h6 => (if (h6.1 0 13) ≤ 0 then (if v3 = 0 then bX12_literal_91 x1 x2 v3 v5 0 h6 else bi (fX12_find v5 0 h6) (fun w8 h7 => bX12_literal_91 x1 x2 v3 v5 w8 h7)) else some h6))))))
set_option maxRecDepth 20000 in
theorem BX12_literal_46 {Z : ZT} {G : GT} {hr : Hp} (X : CX Z G cX12_literal RX12 6 4) (E : RX Z G none (none) hr) (hz : HZM Z)  (x1 : Int32) (x2 : Int32) (h : Hp) (hF : bX12_literal_46   x1 x2 h = some hr) : J Z G 6 h 46 [(0, .ref (Z.2.1 0)), (1, .int x1), (2, .int x2)] [] := by
  unfold bX12_literal_46 at hF
  refine j_aload_n (pc := 46) 0 X dX12_literal_46 rfl ?_
  refine j_bipush (pc := 47) 32 X dX12_literal_47 rfl ?_
  refine j_cVi (pc := 49) (As := [.int 32]) (rest := []) X dX12_literal_49 ml_X12_272 ck_X12_is cv_X12_is (hz _ sh_0) rfl (Nat.le_of_ble_eq_true rfl) rfl (Nat.le_of_ble_eq_true rfl) rfl hF (tX12_is Z 32 hz h) (fun w2 h1 hF => ?_)
  refine j_istore_n (pc := 52) (fun y => [(3, .int y), (0, .ref (Z.2.1 0)), (1, .int x1), (2, .int x2)]) X dX12_literal_52 (by decide) (fun _ => rfl) hF (fun v3 hF => ?_)
  refine j_aload_n (pc := 53) 1 X dX12_literal_53 rfl ?_
  refine j_cVv (pc := 54) (As := []) (rest := []) X dX12_literal_54 ml_X12_275 ck_X12_goesOn cv_X12_goesOn (hz _ sh_0) rfl (Nat.le_of_ble_eq_true rfl) rfl (Nat.le_of_ble_eq_true rfl) rfl hF (tX12_goesOn Z hz h1) (fun h4 hF => ?_)
  refine j_aload_n (pc := 57) 1 X dX12_literal_57 rfl ?_
  refine j_geti (pc := 58) X dX12_literal_58 (hz _ sh_0) fl_X12_257 rfl ?_
  refine j_istore (pc := 61) (fun y => [(4, .int y), (3, .int v3), (0, .ref (Z.2.1 0)), (1, .int x1), (2, .int x2)]) X dX12_literal_61 (by decide) (fun _ => rfl) hF (fun v5 hF => ?_)
  refine j_aload_n (pc := 63) 2 X dX12_literal_63 rfl ?_
  refine j_iconst (pc := 64) 1 X dX12_literal_64 rfl ?_
  refine j_cVv (pc := 65) (As := [.int 1]) (rest := []) X dX12_literal_65 ml_X12_331 ck_X12_must cv_X12_must (hz _ sh_0) rfl (Nat.le_of_ble_eq_true rfl) rfl (Nat.le_of_ble_eq_true rfl) rfl hF (tX12_must Z 1 hz h4) (fun h6 hF => ?_)
  refine j_aload_n (pc := 68) 2 X dX12_literal_68 rfl ?_
  refine j_geti (pc := 69) X dX12_literal_69 (hz _ sh_0) fl_X12_254 rfl ?_
  refine j_if_le (pc := 72) 76 X dX12_literal_72 rfl hF (fun hF => ?_) (fun hF => ?_)
  · refine j_iload_n (pc := 76) 1 X dX12_literal_76 rfl ?_
    refine j_if_eq (pc := 77) 90 X dX12_literal_77 rfl hF (fun hF => ?_) (fun hF => ?_)
    · refine j_iconst (pc := 90) 0 X dX12_literal_90 rfl ?_
      refine j_lv [(0, .ref (Z.2.1 0)), (1, .int x1), (2, .int x2), (3, .int v3), (4, .int v5)] [2, 3, 4, 1, 0] rfl ?_
      exact BX12_literal_91 X E hz x1 x2 v3 v5 0 h6 hF
    · refine j_aload_n (pc := 80) 2 X dX12_literal_80 rfl ?_
      refine j_iload (pc := 81) 0 X dX12_literal_81 rfl ?_
      refine j_iconst (pc := 83) 0 X dX12_literal_83 rfl ?_
      refine j_cVi (pc := 84) (As := [.int v5, .int 0]) (rest := []) X dX12_literal_84 ml_X12_308 ck_X12_find cv_X12_find (hz _ sh_0) rfl (Nat.le_of_ble_eq_true rfl) rfl (Nat.le_of_ble_eq_true rfl) rfl hF (tX12_find Z v5 0 hz h6) (fun w8 h7 hF => ?_)
      refine j_goto (pc := 87) 91 X dX12_literal_87 rfl ?_
      refine j_lv [(0, .ref (Z.2.1 0)), (1, .int x1), (2, .int x2), (3, .int v3), (4, .int v5)] [2, 3, 4, 1, 0] rfl ?_
      exact BX12_literal_91 X E hz x1 x2 v3 v5 w8 h7 hF
  · exact j_vret (pc := 75) X E dX12_literal_75 hF
def bX12_literal_232   (x1 : Int32) (x2 : Int32) (x3 : Int32) (x4 : Int32) (h : Hp) : Option (Hp) := bv (fX12_goesOn h) (fun h1 => lt (h1.1 0 49) (fun v2 => bv (fX12_expression h1) (fun h3 => (if (h3.1 0 13) ≤ 0 then ck (inb (h3.1 0 42) 300) (lt (wI h3 29 (ix (h3.1 0 42)) x4) (fun h4 => ck (inb (h4.1 0 42) 300) (lt (wI h4 30 (ix (h4.1 0 42)) (vp_nar .boolean x2)) (fun h5 => ck (inb (h5.1 0 42) 300) (lt (wI h5 31 (ix (h5.1 0 42)) (vp_nar .boolean x1)) (fun h6 => ck (inb (h6.1 0 42) 300) (lt (wI h6 32 (ix (h6.1 0 42)) x3) (fun h7 => ck (inb (h7.1 0 42) 300) (lt (wI h7 33 (ix (h7.1 0 42)) v2) (fun h8 => ck (inb (h8.1 0 42) 300) (lt (wI h8 34 (ix (h8.1 0 42)) (h8.1 0 49)) (fun h9 => lt (wI h9 0 42 ((h9.1 0 42) + 1)) (fun h10 => some h10))))))))))))) else some h3))))
set_option maxRecDepth 20000 in
theorem BX12_literal_232 {Z : ZT} {G : GT} {hr : Hp} (X : CX Z G cX12_literal RX12 6 4) (E : RX Z G none (none) hr) (hz : HZM Z)  (x1 : Int32) (x2 : Int32) (x3 : Int32) (x4 : Int32) (h : Hp) (hF : bX12_literal_232   x1 x2 x3 x4 h = some hr) : J Z G 6 h 232 [(0, .ref (Z.2.1 0)), (1, .int x1), (2, .int x2), (3, .int x3), (4, .int x4)] [] := by
  unfold bX12_literal_232 at hF
  refine j_aload_n (pc := 232) 0 X dX12_literal_232 rfl ?_
  refine j_cVv (pc := 233) (As := []) (rest := []) X dX12_literal_233 ml_X12_275 ck_X12_goesOn cv_X12_goesOn (hz _ sh_0) rfl (Nat.le_of_ble_eq_true rfl) rfl (Nat.le_of_ble_eq_true rfl) rfl hF (tX12_goesOn Z hz h) (fun h1 hF => ?_)
  refine j_aload_n (pc := 236) 0 X dX12_literal_236 rfl ?_
  refine j_geti (pc := 237) X dX12_literal_237 (hz _ sh_0) fl_X12_296 rfl ?_
  refine j_istore (pc := 240) (fun y => [(5, .int y), (0, .ref (Z.2.1 0)), (1, .int x1), (2, .int x2), (3, .int x3), (4, .int x4)]) X dX12_literal_240 (by decide) (fun _ => rfl) hF (fun v2 hF => ?_)
  refine j_aload_n (pc := 242) 1 X dX12_literal_242 rfl ?_
  refine j_cVv (pc := 243) (As := []) (rest := []) X dX12_literal_243 ml_X12_334 ck_X12_expression cv_X12_expression (hz _ sh_0) rfl (Nat.le_of_ble_eq_true rfl) rfl (Nat.le_of_ble_eq_true rfl) rfl hF (tX12_expression Z hz h1) (fun h3 hF => ?_)
  refine j_aload_n (pc := 246) 1 X dX12_literal_246 rfl ?_
  refine j_geti (pc := 247) X dX12_literal_247 (hz _ sh_0) fl_X12_254 rfl ?_
  refine j_if_le (pc := 250) 254 X dX12_literal_250 rfl hF (fun hF => ?_) (fun hF => ?_)
  · refine j_aload_n (pc := 254) 1 X dX12_literal_254 rfl ?_
    refine j_getr (pc := 255) X dX12_literal_255 (hz _ sh_0) fl_X12_104 rfl ?_
    refine j_aload_n (pc := 258) 1 X dX12_literal_258 rfl ?_
    refine j_geti (pc := 259) X dX12_literal_259 (hz _ sh_0) fl_X12_293 rfl ?_
    refine j_iload (pc := 262) 5 X dX12_literal_262 rfl ?_
    refine j_iast (pc := 264) X dX12_literal_264 (hz _ sh_29) hF (fun h4 hF => ?_)
    refine j_aload_n (pc := 265) 1 X dX12_literal_265 rfl ?_
    refine j_getr (pc := 266) X dX12_literal_266 (hz _ sh_0) fl_X12_107 rfl ?_
    refine j_aload_n (pc := 269) 1 X dX12_literal_269 rfl ?_
    refine j_geti (pc := 270) X dX12_literal_270 (hz _ sh_0) fl_X12_293 rfl ?_
    refine j_iload_n (pc := 273) 3 X dX12_literal_273 rfl ?_
    refine j_zast (pc := 274) X dX12_literal_274 (hz _ sh_30) hF (fun h5 hF => ?_)
    refine j_aload_n (pc := 275) 1 X dX12_literal_275 rfl ?_
    refine j_getr (pc := 276) X dX12_literal_276 (hz _ sh_0) fl_X12_110 rfl ?_
    refine j_aload_n (pc := 279) 1 X dX12_literal_279 rfl ?_
    refine j_geti (pc := 280) X dX12_literal_280 (hz _ sh_0) fl_X12_293 rfl ?_
    refine j_iload_n (pc := 283) 2 X dX12_literal_283 rfl ?_
    refine j_zast (pc := 284) X dX12_literal_284 (hz _ sh_31) hF (fun h6 hF => ?_)
    refine j_aload_n (pc := 285) 1 X dX12_literal_285 rfl ?_
    refine j_getr (pc := 286) X dX12_literal_286 (hz _ sh_0) fl_X12_113 rfl ?_
    refine j_aload_n (pc := 289) 1 X dX12_literal_289 rfl ?_
    refine j_geti (pc := 290) X dX12_literal_290 (hz _ sh_0) fl_X12_293 rfl ?_
    refine j_iload_n (pc := 293) 4 X dX12_literal_293 rfl ?_
    refine j_iast (pc := 294) X dX12_literal_294 (hz _ sh_32) hF (fun h7 hF => ?_)
    refine j_aload_n (pc := 295) 1 X dX12_literal_295 rfl ?_
    refine j_getr (pc := 296) X dX12_literal_296 (hz _ sh_0) fl_X12_116 rfl ?_
    refine j_aload_n (pc := 299) 1 X dX12_literal_299 rfl ?_
    refine j_geti (pc := 300) X dX12_literal_300 (hz _ sh_0) fl_X12_293 rfl ?_
    refine j_iload (pc := 303) 0 X dX12_literal_303 rfl ?_
    refine j_iast (pc := 305) X dX12_literal_305 (hz _ sh_33) hF (fun h8 hF => ?_)
    refine j_aload_n (pc := 306) 1 X dX12_literal_306 rfl ?_
    refine j_getr (pc := 307) X dX12_literal_307 (hz _ sh_0) fl_X12_119 rfl ?_
    refine j_aload_n (pc := 310) 1 X dX12_literal_310 rfl ?_
    refine j_geti (pc := 311) X dX12_literal_311 (hz _ sh_0) fl_X12_293 rfl ?_
    refine j_aload_n (pc := 314) 1 X dX12_literal_314 rfl ?_
    refine j_geti (pc := 315) X dX12_literal_315 (hz _ sh_0) fl_X12_296 rfl ?_
    refine j_iast (pc := 318) X dX12_literal_318 (hz _ sh_34) hF (fun h9 hF => ?_)
    refine j_aload_n (pc := 319) 1 X dX12_literal_319 rfl ?_
    refine j_dup (pc := 320) X dX12_literal_320 rfl ?_
    refine j_geti (pc := 321) X dX12_literal_321 (hz _ sh_0) fl_X12_293 rfl ?_
    refine j_iconst (pc := 324) 1 X dX12_literal_324 rfl ?_
    refine j_iadd (pc := 325) X dX12_literal_325 ?_
    refine j_puti (pc := 326) X dX12_literal_326 (hz _ sh_0) fp_X12_293 rfl hF (fun h10 hF => ?_)
    exact j_vret (pc := 329) X E dX12_literal_329 hF
  · exact j_vret (pc := 253) X E dX12_literal_253 hF
def bX12_literal_227   (x1 : Int32) (x2 : Int32) (x3 : Int32) (x4 : Int32) (h : Hp) : Option (Hp) := bv (fX12_fail 1 h) (fun h1 => bX12_literal_232 x1 x2 x3 x4 h1)
set_option maxRecDepth 20000 in
theorem BX12_literal_227 {Z : ZT} {G : GT} {hr : Hp} (X : CX Z G cX12_literal RX12 6 4) (E : RX Z G none (none) hr) (hz : HZM Z)  (x1 : Int32) (x2 : Int32) (x3 : Int32) (x4 : Int32) (h : Hp) (hF : bX12_literal_227   x1 x2 x3 x4 h = some hr) : J Z G 6 h 227 [(0, .ref (Z.2.1 0)), (1, .int x1), (2, .int x2), (3, .int x3), (4, .int x4)] [] := by
  unfold bX12_literal_227 at hF
  refine j_aload_n (pc := 227) 0 X dX12_literal_227 rfl ?_
  refine j_iconst (pc := 228) 1 X dX12_literal_228 rfl ?_
  refine j_cVv (pc := 229) (As := [.int 1]) (rest := []) X dX12_literal_229 ml_X12_269 ck_X12_fail cv_X12_fail (hz _ sh_0) rfl (Nat.le_of_ble_eq_true rfl) rfl (Nat.le_of_ble_eq_true rfl) rfl hF (tX12_fail Z 1 hz h) (fun h1 hF => ?_)
  exact BX12_literal_232 X E hz x1 x2 x3 x4 h1 hF
def bX12_literal_207   (x1 : Int32) (x2 : Int32) (x3 : Int32) (s0 : Int32) (h : Hp) : Option (Hp) := lt s0 (fun v1 => (if (h.1 0 13) = 0 then (if v1 < 0 then bX12_literal_227 x1 x2 x3 v1 h else (if v1 ≤ 3 then bX12_literal_232 x1 x2 x3 v1 h else bX12_literal_227 x1 x2 x3 v1 h)) else bX12_literal_232 x1 x2 x3 v1 h))
set_option maxRecDepth 20000 in
theorem BX12_literal_207 {Z : ZT} {G : GT} {hr : Hp} (X : CX Z G cX12_literal RX12 6 4) (E : RX Z G none (none) hr) (hz : HZM Z)  (x1 : Int32) (x2 : Int32) (x3 : Int32) (s0 : Int32) (h : Hp) (hF : bX12_literal_207   x1 x2 x3 s0 h = some hr) : J Z G 6 h 207 [(0, .ref (Z.2.1 0)), (1, .int x1), (2, .int x2), (3, .int x3)] [.int s0] := by
  unfold bX12_literal_207 at hF
  refine j_istore (pc := 207) (fun y => [(4, .int y), (0, .ref (Z.2.1 0)), (1, .int x1), (2, .int x2), (3, .int x3)]) X dX12_literal_207 (by decide) (fun _ => rfl) hF (fun v1 hF => ?_)
  refine j_aload_n (pc := 209) 1 X dX12_literal_209 rfl ?_
  refine j_geti (pc := 210) X dX12_literal_210 (hz _ sh_0) fl_X12_254 rfl ?_
  refine j_if_ne (pc := 213) 232 X dX12_literal_213 rfl hF (fun hF => ?_) (fun hF => ?_)
  · refine j_lv [(0, .ref (Z.2.1 0)), (1, .int x1), (2, .int x2), (3, .int x3), (4, .int v1)] [1, 2, 3, 4, 0] rfl ?_
    exact BX12_literal_232 X E hz x1 x2 x3 v1 h hF
  · refine j_iload (pc := 216) 0 X dX12_literal_216 rfl ?_
    refine j_if_lt (pc := 218) 227 X dX12_literal_218 rfl hF (fun hF => ?_) (fun hF => ?_)
    · refine j_lv [(0, .ref (Z.2.1 0)), (1, .int x1), (2, .int x2), (3, .int x3), (4, .int v1)] [1, 2, 3, 4, 0] rfl ?_
      exact BX12_literal_227 X E hz x1 x2 x3 v1 h hF
    · refine j_iload (pc := 221) 0 X dX12_literal_221 rfl ?_
      refine j_iconst (pc := 223) 3 X dX12_literal_223 rfl ?_
      refine j_icmp_le (pc := 224) 232 X dX12_literal_224 rfl hF (fun hF => ?_) (fun hF => ?_)
      · refine j_lv [(0, .ref (Z.2.1 0)), (1, .int x1), (2, .int x2), (3, .int x3), (4, .int v1)] [1, 2, 3, 4, 0] rfl ?_
        exact BX12_literal_232 X E hz x1 x2 x3 v1 h hF
      · refine j_lv [(0, .ref (Z.2.1 0)), (1, .int x1), (2, .int x2), (3, .int x3), (4, .int v1)] [1, 2, 3, 4, 0] rfl ?_
        exact BX12_literal_227 X E hz x1 x2 x3 v1 h hF
def bX12_literal_2   (r2 : Int32 → Int32 → Hp → Option (Hp)) (x1 : Int32) (x2 : Int32) (h : Hp) : Option (Hp) := bi (fX12_is 31 h) (fun w2 h1 => (if w2 = 0 then bi (fX12_is 32 h1) (fun w4 h3 => (if w4 = 0 then bi (fX12_is 33 h3) (fun w6 h5 => (if w6 = 0 then lt (h5.1 0 49) (fun v7 => bv (fX12_expression h5) (fun h8 => (if (h8.1 0 13) ≤ 0 then ck (inb (h8.1 0 11) 403) (bX12_literal_207 x1 x2 v7 ((h8.1 3 (ix (h8.1 0 11))) - 11) h8) else bX12_literal_207 x1 x2 v7 0 h8))) else bX12_literal_46 x1 x2 h5)) else bX12_literal_46 x1 x2 h3)) else (if x2 = 0 then bX12_literal_20 r2 x1 1 h1 else bX12_literal_20 r2 x1 0 h1)))
def lX12_literal_2   : Nat → Int32 → Int32 → Hp → Option (Hp)
  | 0 => fun _ _ _ => none
  | n + 1 => bX12_literal_2   (lX12_literal_2   n)
set_option maxRecDepth 20000 in
theorem BX12_literal_2 {Z : ZT} {G : GT} {hr : Hp} (X : CX Z G cX12_literal RX12 6 4) (E : RX Z G none (none) hr) (hz : HZM Z)  (r2 : Int32 → Int32 → Hp → Option (Hp)) (hr2 : ∀ (x1 : Int32) (x2 : Int32) (h : Hp), r2 x1 x2 h = some hr → J Z G 6 h 2 [(0, .ref (Z.2.1 0)), (1, .int x1), (2, .int x2)] []) (x1 : Int32) (x2 : Int32) (h : Hp) (hF : bX12_literal_2   r2 x1 x2 h = some hr) : J Z G 6 h 2 [(0, .ref (Z.2.1 0)), (1, .int x1), (2, .int x2)] [] := by
  unfold bX12_literal_2 at hF
  refine j_aload_n (pc := 2) 0 X dX12_literal_2 rfl ?_
  refine j_bipush (pc := 3) 31 X dX12_literal_3 rfl ?_
  refine j_cVi (pc := 5) (As := [.int 31]) (rest := []) X dX12_literal_5 ml_X12_272 ck_X12_is cv_X12_is (hz _ sh_0) rfl (Nat.le_of_ble_eq_true rfl) rfl (Nat.le_of_ble_eq_true rfl) rfl hF (tX12_is Z 31 hz h) (fun w2 h1 hF => ?_)
  refine j_if_eq (pc := 8) 28 X dX12_literal_8 rfl hF (fun hF => ?_) (fun hF => ?_)
  · refine j_aload_n (pc := 28) 0 X dX12_literal_28 rfl ?_
    refine j_bipush (pc := 29) 32 X dX12_literal_29 rfl ?_
    refine j_cVi (pc := 31) (As := [.int 32]) (rest := []) X dX12_literal_31 ml_X12_272 ck_X12_is cv_X12_is (hz _ sh_0) rfl (Nat.le_of_ble_eq_true rfl) rfl (Nat.le_of_ble_eq_true rfl) rfl hF (tX12_is Z 32 hz h1) (fun w4 h3 hF => ?_)
    refine j_if_ne (pc := 34) 46 X dX12_literal_34 rfl hF (fun hF => ?_) (fun hF => ?_)
    · exact BX12_literal_46 X E hz x1 x2 h3 hF
    · refine j_aload_n (pc := 37) 0 X dX12_literal_37 rfl ?_
      refine j_bipush (pc := 38) 33 X dX12_literal_38 rfl ?_
      refine j_cVi (pc := 40) (As := [.int 33]) (rest := []) X dX12_literal_40 ml_X12_272 ck_X12_is cv_X12_is (hz _ sh_0) rfl (Nat.le_of_ble_eq_true rfl) rfl (Nat.le_of_ble_eq_true rfl) rfl hF (tX12_is Z 33 hz h3) (fun w6 h5 hF => ?_)
      refine j_if_eq (pc := 43) 175 X dX12_literal_43 rfl hF (fun hF => ?_) (fun hF => ?_)
      · refine j_aload_n (pc := 175) 0 X dX12_literal_175 rfl ?_
        refine j_geti (pc := 176) X dX12_literal_176 (hz _ sh_0) fl_X12_296 rfl ?_
        refine j_istore_n (pc := 179) (fun y => [(3, .int y), (0, .ref (Z.2.1 0)), (1, .int x1), (2, .int x2)]) X dX12_literal_179 (by decide) (fun _ => rfl) hF (fun v7 hF => ?_)
        refine j_aload_n (pc := 180) 1 X dX12_literal_180 rfl ?_
        refine j_cVv (pc := 181) (As := []) (rest := []) X dX12_literal_181 ml_X12_334 ck_X12_expression cv_X12_expression (hz _ sh_0) rfl (Nat.le_of_ble_eq_true rfl) rfl (Nat.le_of_ble_eq_true rfl) rfl hF (tX12_expression Z hz h5) (fun h8 hF => ?_)
        refine j_aload_n (pc := 184) 1 X dX12_literal_184 rfl ?_
        refine j_geti (pc := 185) X dX12_literal_185 (hz _ sh_0) fl_X12_254 rfl ?_
        refine j_if_le (pc := 188) 195 X dX12_literal_188 rfl hF (fun hF => ?_) (fun hF => ?_)
        · refine j_aload_n (pc := 195) 1 X dX12_literal_195 rfl ?_
          refine j_getr (pc := 196) X dX12_literal_196 (hz _ sh_0) fl_X12_20 rfl ?_
          refine j_aload_n (pc := 199) 1 X dX12_literal_199 rfl ?_
          refine j_geti (pc := 200) X dX12_literal_200 (hz _ sh_0) fl_X12_257 rfl ?_
          refine j_iald (pc := 203) X dX12_literal_203 (hz _ sh_3) hF (fun hF => ?_)
          refine j_bipush (pc := 204) 11 X dX12_literal_204 rfl ?_
          refine j_isub (pc := 206) X dX12_literal_206 ?_
          refine j_lv [(0, .ref (Z.2.1 0)), (1, .int x1), (2, .int x2), (3, .int v7)] [1, 2, 3, 0] rfl ?_
          exact BX12_literal_207 X E hz x1 x2 v7 ((h8.1 3 (ix (h8.1 0 11))) - 11) h8 hF
        · refine j_iconst (pc := 191) 0 X dX12_literal_191 rfl ?_
          refine j_goto (pc := 192) 207 X dX12_literal_192 rfl ?_
          refine j_lv [(0, .ref (Z.2.1 0)), (1, .int x1), (2, .int x2), (3, .int v7)] [1, 2, 3, 0] rfl ?_
          exact BX12_literal_207 X E hz x1 x2 v7 0 h8 hF
      · exact BX12_literal_46 X E hz x1 x2 h5 hF
  · refine j_iload_n (pc := 11) 2 X dX12_literal_11 rfl ?_
    refine j_if_ne (pc := 12) 19 X dX12_literal_12 rfl hF (fun hF => ?_) (fun hF => ?_)
    · refine j_iconst (pc := 19) 0 X dX12_literal_19 rfl ?_
      refine j_lv [(0, .ref (Z.2.1 0)), (1, .int x1)] [0, 1] rfl ?_
      exact BX12_literal_20 X E hz r2 hr2 x1 0 h1 hF
    · refine j_iconst (pc := 15) 1 X dX12_literal_15 rfl ?_
      refine j_goto (pc := 16) 20 X dX12_literal_16 rfl ?_
      refine j_lv [(0, .ref (Z.2.1 0)), (1, .int x1)] [0, 1] rfl ?_
      exact BX12_literal_20 X E hz r2 hr2 x1 1 h1 hF
theorem LX12_literal_2 {Z : ZT} {G : GT} {hr : Hp} (X : CX Z G cX12_literal RX12 6 4) (E : RX Z G none (none) hr) (hz : HZM Z)  : ∀ (n : Nat) (x1 : Int32) (x2 : Int32) (h : Hp), lX12_literal_2   n x1 x2 h = some hr → J Z G 6 h 2 [(0, .ref (Z.2.1 0)), (1, .int x1), (2, .int x2)] [] := by
  intro n
  induction n with
  | zero => intro x1 x2 h hF; cases hF
  | succ n ih => intro x1 x2 h hF; exact BX12_literal_2 X E hz  (lX12_literal_2   n) ih x1 x2 h hF
def fX12_literal (a1 : Int32) (h : Hp) : Option (Hp) := lt 0 (fun v1 => lX12_literal_2 FU a1 v1 h)
set_option maxRecDepth 20000 in
theorem tX12_literal (Z : ZT) (a1 : Int32) (hz : HZM Z) (h : Hp) (hr : Hp) (hF : fX12_literal a1 h = some hr) : MC Z yX12_literal cX12_literal 6 none 4 [.ref (Z.2.1 0), .int a1] h (none) hr := by
  unfold fX12_literal at hF
  refine mc_start (by decide) (Nat.le_of_ble_eq_true rfl) (fun G X E => ?_)
  refine j_iconst (pc := 0) 0 X dX12_literal_0 rfl ?_
  refine j_istore_n (pc := 1) (fun y => [(2, .int y), (0, .ref (Z.2.1 0)), (1, .int a1)]) X dX12_literal_1 (by decide) (fun _ => rfl) hF (fun v1 hF => ?_)
  refine j_lv [(0, .ref (Z.2.1 0)), (1, .int a1), (2, .int v1)] [1, 2, 0] rfl ?_
  exact LX12_literal_2 X E hz FU a1 v1 h hF
theorem dX12_condition_0 : decode cX12_condition 0 = .ok (.aload_n 0, 1) := by decide +kernel
theorem dX12_condition_1 : decode cX12_condition 1 = .ok (.invokevirtual 275, 3) := by decide +kernel
theorem dX12_condition_4 : decode cX12_condition 4 = .ok (.iconst 1, 1) := by decide +kernel
theorem dX12_condition_5 : decode cX12_condition 5 = .ok (.istore_n 1, 1) := by decide +kernel
theorem dX12_condition_6 : decode cX12_condition 6 = .ok (.iconst 1, 1) := by decide +kernel
theorem dX12_condition_7 : decode cX12_condition 7 = .ok (.istore_n 2, 1) := by decide +kernel
theorem dX12_condition_8 : decode cX12_condition 8 = .ok (.iload_n 2, 1) := by decide +kernel
theorem dX12_condition_9 : decode cX12_condition 9 = .ok (.ifCond .eq 52, 3) := by decide +kernel
theorem dX12_condition_12 : decode cX12_condition 12 = .ok (.aload_n 0, 1) := by decide +kernel
theorem dX12_condition_13 : decode cX12_condition 13 = .ok (.getfield 254, 3) := by decide +kernel
theorem dX12_condition_16 : decode cX12_condition 16 = .ok (.ifCond .ne 45, 3) := by decide +kernel
theorem dX12_condition_19 : decode cX12_condition 19 = .ok (.aload_n 0, 1) := by decide +kernel
theorem dX12_condition_20 : decode cX12_condition 20 = .ok (.iload_n 1, 1) := by decide +kernel
theorem dX12_condition_21 : decode cX12_condition 21 = .ok (.invokevirtual 351, 3) := by decide +kernel
theorem dX12_condition_24 : decode cX12_condition 24 = .ok (.aload_n 0, 1) := by decide +kernel
theorem dX12_condition_25 : decode cX12_condition 25 = .ok (.bipush 29, 2) := by decide +kernel
theorem dX12_condition_27 : decode cX12_condition 27 = .ok (.invokevirtual 272, 3) := by decide +kernel
theorem dX12_condition_30 : decode cX12_condition 30 = .ok (.istore_n 1, 1) := by decide +kernel
theorem dX12_condition_31 : decode cX12_condition 31 = .ok (.iload_n 1, 1) := by decide +kernel
theorem dX12_condition_32 : decode cX12_condition 32 = .ok (.ifCond .ne 12, 3) := by decide +kernel
theorem dX12_condition_35 : decode cX12_condition 35 = .ok (.aload_n 0, 1) := by decide +kernel
theorem dX12_condition_36 : decode cX12_condition 36 = .ok (.bipush 30, 2) := by decide +kernel
theorem dX12_condition_38 : decode cX12_condition 38 = .ok (.invokevirtual 272, 3) := by decide +kernel
theorem dX12_condition_41 : decode cX12_condition 41 = .ok (.ifCond .eq 7, 3) := by decide +kernel
theorem dX12_condition_44 : decode cX12_condition 44 = .ok (.iconst 1, 1) := by decide +kernel
theorem dX12_condition_45 : decode cX12_condition 45 = .ok (.goto 4, 3) := by decide +kernel
theorem dX12_condition_48 : decode cX12_condition 48 = .ok (.iconst 0, 1) := by decide +kernel
theorem dX12_condition_49 : decode cX12_condition 49 = .ok (.istore_n 2, 1) := by decide +kernel
theorem dX12_condition_50 : decode cX12_condition 50 = .ok (.iload_n 2, 1) := by decide +kernel
theorem dX12_condition_51 : decode cX12_condition 51 = .ok (.ifCond .eq (-43), 3) := by decide +kernel
theorem dX12_condition_54 : decode cX12_condition 54 = .ok (.aload_n 0, 1) := by decide +kernel
theorem dX12_condition_55 : decode cX12_condition 55 = .ok (.invokevirtual 275, 3) := by decide +kernel
theorem dX12_condition_58 : decode cX12_condition 58 = .ok (.goto (-50), 3) := by decide +kernel
theorem dX12_condition_61 : decode cX12_condition 61 = .ok (.return_, 1) := by decide +kernel
def bX12_condition_49  (r8 : Int32 → Int32 → Hp → Option (Hp)) (x1 : Int32) (s0 : Int32) (h : Hp) : Option (Hp) := lt s0 (fun v1 => (if v1 = 0 then r8 x1 v1 h else bv (fX12_goesOn h) (fun h2 => r8 x1 v1 h2)))
set_option maxRecDepth 20000 in
theorem BX12_condition_49 {Z : ZT} {G : GT} {hr : Hp} (X : CX Z G cX12_condition RX12 3 5) (E : RX Z G none (none) hr) (hz : HZM Z) (r8 : Int32 → Int32 → Hp → Option (Hp)) (hr8 : ∀ (x1 : Int32) (x2 : Int32) (h : Hp), r8 x1 x2 h = some hr → J Z G 3 h 8 [(0, .ref (Z.2.1 0)), (1, .int x1), (2, .int x2)] []) (x1 : Int32) (s0 : Int32) (h : Hp) (hF : bX12_condition_49  r8 x1 s0 h = some hr) : J Z G 3 h 49 [(0, .ref (Z.2.1 0)), (1, .int x1)] [.int s0] := by
  unfold bX12_condition_49 at hF
  refine j_istore_n (pc := 49) (fun y => [(2, .int y), (0, .ref (Z.2.1 0)), (1, .int x1)]) X dX12_condition_49 (by decide) (fun _ => rfl) hF (fun v1 hF => ?_)
  refine j_iload_n (pc := 50) 0 X dX12_condition_50 rfl ?_
  refine j_if_eq (pc := 51) 8 X dX12_condition_51 rfl hF (fun hF => ?_) (fun hF => ?_)
  · refine j_lv [(0, .ref (Z.2.1 0)), (1, .int x1), (2, .int v1)] [1, 2, 0] rfl ?_
    exact hr8 x1 v1 h hF
  · refine j_aload_n (pc := 54) 1 X dX12_condition_54 rfl ?_
    refine j_cVv (pc := 55) (As := []) (rest := []) X dX12_condition_55 ml_X12_275 ck_X12_goesOn cv_X12_goesOn (hz _ sh_0) rfl (Nat.le_of_ble_eq_true rfl) rfl (Nat.le_of_ble_eq_true rfl) rfl hF (tX12_goesOn Z hz h) (fun h2 hF => ?_)
    refine j_goto (pc := 58) 8 X dX12_condition_58 rfl ?_
    refine j_lv [(0, .ref (Z.2.1 0)), (1, .int x1), (2, .int v1)] [1, 2, 0] rfl ?_
    exact hr8 x1 v1 h2 hF
def bX12_condition_44  (r8 : Int32 → Int32 → Hp → Option (Hp)) (x1 : Int32) (h : Hp) : Option (Hp) := bX12_condition_49 r8 x1 1 h
set_option maxRecDepth 20000 in
theorem BX12_condition_44 {Z : ZT} {G : GT} {hr : Hp} (X : CX Z G cX12_condition RX12 3 5) (E : RX Z G none (none) hr) (hz : HZM Z) (r8 : Int32 → Int32 → Hp → Option (Hp)) (hr8 : ∀ (x1 : Int32) (x2 : Int32) (h : Hp), r8 x1 x2 h = some hr → J Z G 3 h 8 [(0, .ref (Z.2.1 0)), (1, .int x1), (2, .int x2)] []) (x1 : Int32) (h : Hp) (hF : bX12_condition_44  r8 x1 h = some hr) : J Z G 3 h 44 [(0, .ref (Z.2.1 0)), (1, .int x1)] [] := by
  unfold bX12_condition_44 at hF
  refine j_iconst (pc := 44) 1 X dX12_condition_44 rfl ?_
  refine j_goto (pc := 45) 49 X dX12_condition_45 rfl ?_
  exact BX12_condition_49 X E hz r8 hr8 x1 1 h hF
def bX12_condition_8   (r8 : Int32 → Int32 → Hp → Option (Hp)) (x1 : Int32) (x2 : Int32) (h : Hp) : Option (Hp) := (if x2 = 0 then some h else (if (h.1 0 13) = 0 then bv (fX12_literal x1 h) (fun h1 => bi (fX12_is 29 h1) (fun w3 h2 => lt w3 (fun v4 => (if v4 = 0 then bi (fX12_is 30 h2) (fun w6 h5 => (if w6 = 0 then bX12_condition_49 r8 v4 0 h5 else bX12_condition_44 r8 v4 h5)) else bX12_condition_44 r8 v4 h2)))) else some h))
def lX12_condition_8   : Nat → Int32 → Int32 → Hp → Option (Hp)
  | 0 => fun _ _ _ => none
  | n + 1 => bX12_condition_8   (lX12_condition_8   n)
set_option maxRecDepth 20000 in
theorem BX12_condition_8 {Z : ZT} {G : GT} {hr : Hp} (X : CX Z G cX12_condition RX12 3 5) (E : RX Z G none (none) hr) (hz : HZM Z)  (r8 : Int32 → Int32 → Hp → Option (Hp)) (hr8 : ∀ (x1 : Int32) (x2 : Int32) (h : Hp), r8 x1 x2 h = some hr → J Z G 3 h 8 [(0, .ref (Z.2.1 0)), (1, .int x1), (2, .int x2)] []) (x1 : Int32) (x2 : Int32) (h : Hp) (hF : bX12_condition_8   r8 x1 x2 h = some hr) : J Z G 3 h 8 [(0, .ref (Z.2.1 0)), (1, .int x1), (2, .int x2)] [] := by
  unfold bX12_condition_8 at hF
  refine j_iload_n (pc := 8) 2 X dX12_condition_8 rfl ?_
  refine j_if_eq (pc := 9) 61 X dX12_condition_9 rfl hF (fun hF => ?_) (fun hF => ?_)
  · exact j_vret (pc := 61) X E dX12_condition_61 hF
  · refine j_aload_n (pc := 12) 0 X dX12_condition_12 rfl ?_
    refine j_geti (pc := 13) X dX12_condition_13 (hz _ sh_0) fl_X12_254 rfl ?_
    refine j_if_ne (pc := 16) 61 X dX12_condition_16 rfl hF (fun hF => ?_) (fun hF => ?_)
    · exact j_vret (pc := 61) X E dX12_condition_61 hF
    · refine j_aload_n (pc := 19) 0 X dX12_condition_19 rfl ?_
      refine j_iload_n (pc := 20) 1 X dX12_condition_20 rfl ?_
      refine j_cVv (pc := 21) (As := [.int x1]) (rest := []) X dX12_condition_21 ml_X12_351 ck_X12_literal cv_X12_literal (hz _ sh_0) rfl (Nat.le_of_ble_eq_true rfl) rfl (Nat.le_of_ble_eq_true rfl) rfl hF (tX12_literal Z x1 hz h) (fun h1 hF => ?_)
      refine j_aload_n (pc := 24) 0 X dX12_condition_24 rfl ?_
      refine j_bipush (pc := 25) 29 X dX12_condition_25 rfl ?_
      refine j_cVi (pc := 27) (As := [.int 29]) (rest := []) X dX12_condition_27 ml_X12_272 ck_X12_is cv_X12_is (hz _ sh_0) rfl (Nat.le_of_ble_eq_true rfl) rfl (Nat.le_of_ble_eq_true rfl) rfl hF (tX12_is Z 29 hz h1) (fun w3 h2 hF => ?_)
      refine j_istore_n (pc := 30) (fun y => [(1, .int y), (0, .ref (Z.2.1 0)), (2, .int x2)]) X dX12_condition_30 (by decide) (fun _ => rfl) hF (fun v4 hF => ?_)
      refine j_iload_n (pc := 31) 0 X dX12_condition_31 rfl ?_
      refine j_if_ne (pc := 32) 44 X dX12_condition_32 rfl hF (fun hF => ?_) (fun hF => ?_)
      · refine j_lv [(0, .ref (Z.2.1 0)), (1, .int v4)] [1, 0] rfl ?_
        exact BX12_condition_44 X E hz r8 hr8 v4 h2 hF
      · refine j_aload_n (pc := 35) 1 X dX12_condition_35 rfl ?_
        refine j_bipush (pc := 36) 30 X dX12_condition_36 rfl ?_
        refine j_cVi (pc := 38) (As := [.int 30]) (rest := []) X dX12_condition_38 ml_X12_272 ck_X12_is cv_X12_is (hz _ sh_0) rfl (Nat.le_of_ble_eq_true rfl) rfl (Nat.le_of_ble_eq_true rfl) rfl hF (tX12_is Z 30 hz h2) (fun w6 h5 hF => ?_)
        refine j_if_eq (pc := 41) 48 X dX12_condition_41 rfl hF (fun hF => ?_) (fun hF => ?_)
        · refine j_iconst (pc := 48) 0 X dX12_condition_48 rfl ?_
          refine j_lv [(0, .ref (Z.2.1 0)), (1, .int v4)] [1, 0] rfl ?_
          exact BX12_condition_49 X E hz r8 hr8 v4 0 h5 hF
        · refine j_lv [(0, .ref (Z.2.1 0)), (1, .int v4)] [1, 0] rfl ?_
          exact BX12_condition_44 X E hz r8 hr8 v4 h5 hF
theorem LX12_condition_8 {Z : ZT} {G : GT} {hr : Hp} (X : CX Z G cX12_condition RX12 3 5) (E : RX Z G none (none) hr) (hz : HZM Z)  : ∀ (n : Nat) (x1 : Int32) (x2 : Int32) (h : Hp), lX12_condition_8   n x1 x2 h = some hr → J Z G 3 h 8 [(0, .ref (Z.2.1 0)), (1, .int x1), (2, .int x2)] [] := by
  intro n
  induction n with
  | zero => intro x1 x2 h hF; cases hF
  | succ n ih => intro x1 x2 h hF; exact BX12_condition_8 X E hz  (lX12_condition_8   n) ih x1 x2 h hF
def fX12_condition  (h : Hp) : Option (Hp) := bv (fX12_goesOn h) (fun h1 => lt 1 (fun v2 => lt 1 (fun v3 => lX12_condition_8 FU v2 v3 h1)))
set_option maxRecDepth 20000 in
theorem tX12_condition (Z : ZT)  (hz : HZM Z) (h : Hp) (hr : Hp) (hF : fX12_condition  h = some hr) : MC Z yX12_condition cX12_condition 3 none 5 [.ref (Z.2.1 0)] h (none) hr := by
  unfold fX12_condition at hF
  refine mc_start (by decide) (Nat.le_of_ble_eq_true rfl) (fun G X E => ?_)
  refine j_aload_n (pc := 0) 0 X dX12_condition_0 rfl ?_
  refine j_cVv (pc := 1) (As := []) (rest := []) X dX12_condition_1 ml_X12_275 ck_X12_goesOn cv_X12_goesOn (hz _ sh_0) rfl (Nat.le_of_ble_eq_true rfl) rfl (Nat.le_of_ble_eq_true rfl) rfl hF (tX12_goesOn Z hz h) (fun h1 hF => ?_)
  refine j_iconst (pc := 4) 1 X dX12_condition_4 rfl ?_
  refine j_istore_n (pc := 5) (fun y => [(1, .int y), (0, .ref (Z.2.1 0))]) X dX12_condition_5 (by decide) (fun _ => rfl) hF (fun v2 hF => ?_)
  refine j_iconst (pc := 6) 1 X dX12_condition_6 rfl ?_
  refine j_istore_n (pc := 7) (fun y => [(2, .int y), (1, .int v2), (0, .ref (Z.2.1 0))]) X dX12_condition_7 (by decide) (fun _ => rfl) hF (fun v3 hF => ?_)
  refine j_lv [(0, .ref (Z.2.1 0)), (1, .int v2), (2, .int v3)] [2, 1, 0] rfl ?_
  exact LX12_condition_8 X E hz FU v2 v3 h1 hF
theorem dX12_tellLetter_0 : decode cX12_tellLetter 0 = .ok (.bipush 10, 2) := by decide +kernel
theorem dX12_tellLetter_2 : decode cX12_tellLetter 2 = .ok (.aload_n 0, 1) := by decide +kernel
theorem dX12_tellLetter_3 : decode cX12_tellLetter 3 = .ok (.getfield 287, 3) := by decide +kernel
theorem dX12_tellLetter_6 : decode cX12_tellLetter 6 = .ok (.imul, 1) := by decide +kernel
theorem dX12_tellLetter_7 : decode cX12_tellLetter 7 = .ok (.aload_n 0, 1) := by decide +kernel
theorem dX12_tellLetter_8 : decode cX12_tellLetter 8 = .ok (.getfield 67, 3) := by decide +kernel
theorem dX12_tellLetter_11 : decode cX12_tellLetter 11 = .ok (.aload_n 0, 1) := by decide +kernel
theorem dX12_tellLetter_12 : decode cX12_tellLetter 12 = .ok (.getfield 287, 3) := by decide +kernel
theorem dX12_tellLetter_15 : decode cX12_tellLetter 15 = .ok (.iaload, 1) := by decide +kernel
theorem dX12_tellLetter_16 : decode cX12_tellLetter 16 = .ok (.iadd, 1) := by decide +kernel
theorem dX12_tellLetter_17 : decode cX12_tellLetter 17 = .ok (.istore_n 1, 1) := by decide +kernel
theorem dX12_tellLetter_18 : decode cX12_tellLetter 18 = .ok (.aload_n 0, 1) := by decide +kernel
theorem dX12_tellLetter_19 : decode cX12_tellLetter 19 = .ok (.invokevirtual 275, 3) := by decide +kernel
theorem dX12_tellLetter_22 : decode cX12_tellLetter 22 = .ok (.aload_n 0, 1) := by decide +kernel
theorem dX12_tellLetter_23 : decode cX12_tellLetter 23 = .ok (.invokevirtual 337, 3) := by decide +kernel
theorem dX12_tellLetter_26 : decode cX12_tellLetter 26 = .ok (.istore_n 2, 1) := by decide +kernel
theorem dX12_tellLetter_27 : decode cX12_tellLetter 27 = .ok (.aload_n 0, 1) := by decide +kernel
theorem dX12_tellLetter_28 : decode cX12_tellLetter 28 = .ok (.getfield 70, 3) := by decide +kernel
theorem dX12_tellLetter_31 : decode cX12_tellLetter 31 = .ok (.iload_n 1, 1) := by decide +kernel
theorem dX12_tellLetter_32 : decode cX12_tellLetter 32 = .ok (.aload_n 0, 1) := by decide +kernel
theorem dX12_tellLetter_33 : decode cX12_tellLetter 33 = .ok (.iconst 0, 1) := by decide +kernel
theorem dX12_tellLetter_34 : decode cX12_tellLetter 34 = .ok (.invokevirtual 345, 3) := by decide +kernel
theorem dX12_tellLetter_37 : decode cX12_tellLetter 37 = .ok (.iastore, 1) := by decide +kernel
theorem dX12_tellLetter_38 : decode cX12_tellLetter 38 = .ok (.aload_n 0, 1) := by decide +kernel
theorem dX12_tellLetter_39 : decode cX12_tellLetter 39 = .ok (.getfield 73, 3) := by decide +kernel
theorem dX12_tellLetter_42 : decode cX12_tellLetter 42 = .ok (.iload_n 1, 1) := by decide +kernel
theorem dX12_tellLetter_43 : decode cX12_tellLetter 43 = .ok (.aload_n 0, 1) := by decide +kernel
theorem dX12_tellLetter_44 : decode cX12_tellLetter 44 = .ok (.iconst 0, 1) := by decide +kernel
theorem dX12_tellLetter_45 : decode cX12_tellLetter 45 = .ok (.invokevirtual 345, 3) := by decide +kernel
theorem dX12_tellLetter_48 : decode cX12_tellLetter 48 = .ok (.iastore, 1) := by decide +kernel
theorem dX12_tellLetter_49 : decode cX12_tellLetter 49 = .ok (.aload_n 0, 1) := by decide +kernel
theorem dX12_tellLetter_50 : decode cX12_tellLetter 50 = .ok (.getfield 76, 3) := by decide +kernel
theorem dX12_tellLetter_53 : decode cX12_tellLetter 53 = .ok (.iload_n 1, 1) := by decide +kernel
theorem dX12_tellLetter_54 : decode cX12_tellLetter 54 = .ok (.aload_n 0, 1) := by decide +kernel
theorem dX12_tellLetter_55 : decode cX12_tellLetter 55 = .ok (.iconst 0, 1) := by decide +kernel
theorem dX12_tellLetter_56 : decode cX12_tellLetter 56 = .ok (.iconst 3, 1) := by decide +kernel
theorem dX12_tellLetter_57 : decode cX12_tellLetter 57 = .ok (.invokevirtual 328, 3) := by decide +kernel
theorem dX12_tellLetter_60 : decode cX12_tellLetter 60 = .ok (.iastore, 1) := by decide +kernel
theorem dX12_tellLetter_61 : decode cX12_tellLetter 61 = .ok (.aload_n 0, 1) := by decide +kernel
theorem dX12_tellLetter_62 : decode cX12_tellLetter 62 = .ok (.getfield 79, 3) := by decide +kernel
theorem dX12_tellLetter_65 : decode cX12_tellLetter 65 = .ok (.iload_n 1, 1) := by decide +kernel
theorem dX12_tellLetter_66 : decode cX12_tellLetter 66 = .ok (.aload_n 0, 1) := by decide +kernel
theorem dX12_tellLetter_67 : decode cX12_tellLetter 67 = .ok (.iconst 0, 1) := by decide +kernel
theorem dX12_tellLetter_68 : decode cX12_tellLetter 68 = .ok (.sipush 999, 3) := by decide +kernel
theorem dX12_tellLetter_71 : decode cX12_tellLetter 71 = .ok (.invokevirtual 328, 3) := by decide +kernel
theorem dX12_tellLetter_74 : decode cX12_tellLetter 74 = .ok (.iastore, 1) := by decide +kernel
theorem dX12_tellLetter_75 : decode cX12_tellLetter 75 = .ok (.aload_n 0, 1) := by decide +kernel
theorem dX12_tellLetter_76 : decode cX12_tellLetter 76 = .ok (.getfield 82, 3) := by decide +kernel
theorem dX12_tellLetter_79 : decode cX12_tellLetter 79 = .ok (.iload_n 1, 1) := by decide +kernel
theorem dX12_tellLetter_80 : decode cX12_tellLetter 80 = .ok (.aload_n 0, 1) := by decide +kernel
theorem dX12_tellLetter_81 : decode cX12_tellLetter 81 = .ok (.iconst 0, 1) := by decide +kernel
theorem dX12_tellLetter_82 : decode cX12_tellLetter 82 = .ok (.bipush 99, 2) := by decide +kernel
theorem dX12_tellLetter_84 : decode cX12_tellLetter 84 = .ok (.invokevirtual 328, 3) := by decide +kernel
theorem dX12_tellLetter_87 : decode cX12_tellLetter 87 = .ok (.iastore, 1) := by decide +kernel
theorem dX12_tellLetter_88 : decode cX12_tellLetter 88 = .ok (.aload_n 0, 1) := by decide +kernel
theorem dX12_tellLetter_89 : decode cX12_tellLetter 89 = .ok (.getfield 85, 3) := by decide +kernel
theorem dX12_tellLetter_92 : decode cX12_tellLetter 92 = .ok (.iload_n 1, 1) := by decide +kernel
theorem dX12_tellLetter_93 : decode cX12_tellLetter 93 = .ok (.aload_n 0, 1) := by decide +kernel
theorem dX12_tellLetter_94 : decode cX12_tellLetter 94 = .ok (.getfield 293, 3) := by decide +kernel
theorem dX12_tellLetter_97 : decode cX12_tellLetter 97 = .ok (.iastore, 1) := by decide +kernel
theorem dX12_tellLetter_98 : decode cX12_tellLetter 98 = .ok (.aload_n 0, 1) := by decide +kernel
theorem dX12_tellLetter_99 : decode cX12_tellLetter 99 = .ok (.getfield 254, 3) := by decide +kernel
theorem dX12_tellLetter_102 : decode cX12_tellLetter 102 = .ok (.ifCond .ne 16, 3) := by decide +kernel
theorem dX12_tellLetter_105 : decode cX12_tellLetter 105 = .ok (.aload_n 0, 1) := by decide +kernel
theorem dX12_tellLetter_106 : decode cX12_tellLetter 106 = .ok (.bipush 28, 2) := by decide +kernel
theorem dX12_tellLetter_108 : decode cX12_tellLetter 108 = .ok (.invokevirtual 272, 3) := by decide +kernel
theorem dX12_tellLetter_111 : decode cX12_tellLetter 111 = .ok (.ifCond .eq 7, 3) := by decide +kernel
theorem dX12_tellLetter_114 : decode cX12_tellLetter 114 = .ok (.aload_n 0, 1) := by decide +kernel
theorem dX12_tellLetter_115 : decode cX12_tellLetter 115 = .ok (.invokevirtual 348, 3) := by decide +kernel
theorem dX12_tellLetter_118 : decode cX12_tellLetter 118 = .ok (.aload_n 0, 1) := by decide +kernel
theorem dX12_tellLetter_119 : decode cX12_tellLetter 119 = .ok (.getfield 88, 3) := by decide +kernel
theorem dX12_tellLetter_122 : decode cX12_tellLetter 122 = .ok (.iload_n 1, 1) := by decide +kernel
theorem dX12_tellLetter_123 : decode cX12_tellLetter 123 = .ok (.aload_n 0, 1) := by decide +kernel
theorem dX12_tellLetter_124 : decode cX12_tellLetter 124 = .ok (.getfield 293, 3) := by decide +kernel
theorem dX12_tellLetter_127 : decode cX12_tellLetter 127 = .ok (.iastore, 1) := by decide +kernel
theorem dX12_tellLetter_128 : decode cX12_tellLetter 128 = .ok (.aload_n 0, 1) := by decide +kernel
theorem dX12_tellLetter_129 : decode cX12_tellLetter 129 = .ok (.iconst 4, 1) := by decide +kernel
theorem dX12_tellLetter_130 : decode cX12_tellLetter 130 = .ok (.invokevirtual 331, 3) := by decide +kernel
theorem dX12_tellLetter_133 : decode cX12_tellLetter 133 = .ok (.aload_n 0, 1) := by decide +kernel
theorem dX12_tellLetter_134 : decode cX12_tellLetter 134 = .ok (.getfield 254, 3) := by decide +kernel
theorem dX12_tellLetter_137 : decode cX12_tellLetter 137 = .ok (.ifCond .le 4, 3) := by decide +kernel
theorem dX12_tellLetter_140 : decode cX12_tellLetter 140 = .ok (.return_, 1) := by decide +kernel
theorem dX12_tellLetter_141 : decode cX12_tellLetter 141 = .ok (.aload_n 0, 1) := by decide +kernel
theorem dX12_tellLetter_142 : decode cX12_tellLetter 142 = .ok (.iload_n 2, 1) := by decide +kernel
theorem dX12_tellLetter_143 : decode cX12_tellLetter 143 = .ok (.iconst 2, 1) := by decide +kernel
theorem dX12_tellLetter_144 : decode cX12_tellLetter 144 = .ok (.aload_n 0, 1) := by decide +kernel
theorem dX12_tellLetter_145 : decode cX12_tellLetter 145 = .ok (.getfield 67, 3) := by decide +kernel
theorem dX12_tellLetter_148 : decode cX12_tellLetter 148 = .ok (.aload_n 0, 1) := by decide +kernel
theorem dX12_tellLetter_149 : decode cX12_tellLetter 149 = .ok (.getfield 287, 3) := by decide +kernel
theorem dX12_tellLetter_152 : decode cX12_tellLetter 152 = .ok (.iaload, 1) := by decide +kernel
theorem dX12_tellLetter_153 : decode cX12_tellLetter 153 = .ok (.invokevirtual 341, 3) := by decide +kernel
theorem dX12_tellLetter_156 : decode cX12_tellLetter 156 = .ok (.aload_n 0, 1) := by decide +kernel
theorem dX12_tellLetter_157 : decode cX12_tellLetter 157 = .ok (.getfield 67, 3) := by decide +kernel
theorem dX12_tellLetter_160 : decode cX12_tellLetter 160 = .ok (.aload_n 0, 1) := by decide +kernel
theorem dX12_tellLetter_161 : decode cX12_tellLetter 161 = .ok (.getfield 287, 3) := by decide +kernel
theorem dX12_tellLetter_164 : decode cX12_tellLetter 164 = .ok (.dup2, 1) := by decide +kernel
theorem dX12_tellLetter_165 : decode cX12_tellLetter 165 = .ok (.iaload, 1) := by decide +kernel
theorem dX12_tellLetter_166 : decode cX12_tellLetter 166 = .ok (.iconst 1, 1) := by decide +kernel
theorem dX12_tellLetter_167 : decode cX12_tellLetter 167 = .ok (.iadd, 1) := by decide +kernel
theorem dX12_tellLetter_168 : decode cX12_tellLetter 168 = .ok (.iastore, 1) := by decide +kernel
theorem dX12_tellLetter_169 : decode cX12_tellLetter 169 = .ok (.return_, 1) := by decide +kernel
def bX12_tellLetter_118   (x1 : Int32) (x2 : Int32) (h : Hp) : Option (Hp) := ck (inb x1 20) (lt (wI h 24 (ix x1) (h.1 0 42)) (fun h1 => bv (fX12_must 4 h1) (fun h2 => (if (h2.1 0 13) ≤ 0 then ck (inb (h2.1 0 19) 2) (bv (fX12_notes x2 2 (h2.1 17 (ix (h2.1 0 19))) h2) (fun h3 => ck (inb (h3.1 0 19) 2) (ck (inb (h3.1 0 19) 2) (lt (wI h3 17 (ix (h3.1 0 19)) ((h3.1 17 (ix (h3.1 0 19))) + 1)) (fun h4 => some h4))))) else some h2))))
set_option maxRecDepth 20000 in
theorem BX12_tellLetter_118 {Z : ZT} {G : GT} {hr : Hp} (X : CX Z G cX12_tellLetter RX12 3 6) (E : RX Z G none (none) hr) (hz : HZM Z)  (x1 : Int32) (x2 : Int32) (h : Hp) (hF : bX12_tellLetter_118   x1 x2 h = some hr) : J Z G 3 h 118 [(0, .ref (Z.2.1 0)), (1, .int x1), (2, .int x2)] [] := by
  unfold bX12_tellLetter_118 at hF
  refine j_aload_n (pc := 118) 0 X dX12_tellLetter_118 rfl ?_
  refine j_getr (pc := 119) X dX12_tellLetter_119 (hz _ sh_0) fl_X12_88 rfl ?_
  refine j_iload_n (pc := 122) 1 X dX12_tellLetter_122 rfl ?_
  refine j_aload_n (pc := 123) 0 X dX12_tellLetter_123 rfl ?_
  refine j_geti (pc := 124) X dX12_tellLetter_124 (hz _ sh_0) fl_X12_293 rfl ?_
  refine j_iast (pc := 127) X dX12_tellLetter_127 (hz _ sh_24) hF (fun h1 hF => ?_)
  refine j_aload_n (pc := 128) 0 X dX12_tellLetter_128 rfl ?_
  refine j_iconst (pc := 129) 4 X dX12_tellLetter_129 rfl ?_
  refine j_cVv (pc := 130) (As := [.int 4]) (rest := []) X dX12_tellLetter_130 ml_X12_331 ck_X12_must cv_X12_must (hz _ sh_0) rfl (Nat.le_of_ble_eq_true rfl) rfl (Nat.le_of_ble_eq_true rfl) rfl hF (tX12_must Z 4 hz h1) (fun h2 hF => ?_)
  refine j_aload_n (pc := 133) 0 X dX12_tellLetter_133 rfl ?_
  refine j_geti (pc := 134) X dX12_tellLetter_134 (hz _ sh_0) fl_X12_254 rfl ?_
  refine j_if_le (pc := 137) 141 X dX12_tellLetter_137 rfl hF (fun hF => ?_) (fun hF => ?_)
  · refine j_aload_n (pc := 141) 0 X dX12_tellLetter_141 rfl ?_
    refine j_iload_n (pc := 142) 2 X dX12_tellLetter_142 rfl ?_
    refine j_iconst (pc := 143) 2 X dX12_tellLetter_143 rfl ?_
    refine j_aload_n (pc := 144) 0 X dX12_tellLetter_144 rfl ?_
    refine j_getr (pc := 145) X dX12_tellLetter_145 (hz _ sh_0) fl_X12_67 rfl ?_
    refine j_aload_n (pc := 148) 0 X dX12_tellLetter_148 rfl ?_
    refine j_geti (pc := 149) X dX12_tellLetter_149 (hz _ sh_0) fl_X12_287 rfl ?_
    refine j_iald (pc := 152) X dX12_tellLetter_152 (hz _ sh_17) hF (fun hF => ?_)
    refine j_cVv (pc := 153) (As := [.int x2, .int 2, .int (h2.1 17 (ix (h2.1 0 19)))]) (rest := []) X dX12_tellLetter_153 ml_X12_341 ck_X12_notes cv_X12_notes (hz _ sh_0) rfl (Nat.le_of_ble_eq_true rfl) rfl (Nat.le_of_ble_eq_true rfl) rfl hF (tX12_notes Z x2 2 (h2.1 17 (ix (h2.1 0 19))) hz h2) (fun h3 hF => ?_)
    refine j_aload_n (pc := 156) 0 X dX12_tellLetter_156 rfl ?_
    refine j_getr (pc := 157) X dX12_tellLetter_157 (hz _ sh_0) fl_X12_67 rfl ?_
    refine j_aload_n (pc := 160) 0 X dX12_tellLetter_160 rfl ?_
    refine j_geti (pc := 161) X dX12_tellLetter_161 (hz _ sh_0) fl_X12_287 rfl ?_
    refine j_dup2 (pc := 164) X dX12_tellLetter_164 rfl rfl ?_
    refine j_iald (pc := 165) X dX12_tellLetter_165 (hz _ sh_17) hF (fun hF => ?_)
    refine j_iconst (pc := 166) 1 X dX12_tellLetter_166 rfl ?_
    refine j_iadd (pc := 167) X dX12_tellLetter_167 ?_
    refine j_iast (pc := 168) X dX12_tellLetter_168 (hz _ sh_17) hF (fun h4 hF => ?_)
    exact j_vret (pc := 169) X E dX12_tellLetter_169 hF
  · exact j_vret (pc := 140) X E dX12_tellLetter_140 hF
def fX12_tellLetter  (h : Hp) : Option (Hp) := ck (inb (h.1 0 19) 2) (lt (((10 : Int32) * (h.1 0 19)) + (h.1 17 (ix (h.1 0 19)))) (fun v1 => bv (fX12_goesOn h) (fun h2 => bi (fX12_named h2) (fun w4 h3 => lt w4 (fun v5 => bi (fX12_known 0 h3) (fun w7 h6 => ck (inb v1 20) (lt (wI h6 18 (ix v1) w7) (fun h8 => bi (fX12_known 0 h8) (fun w10 h9 => ck (inb v1 20) (lt (wI h9 19 (ix v1) w10) (fun h11 => bi (fX12_bounded 0 3 h11) (fun w13 h12 => ck (inb v1 20) (lt (wI h12 20 (ix v1) w13) (fun h14 => bi (fX12_bounded 0 999 h14) (fun w16 h15 => ck (inb v1 20) (lt (wI h15 21 (ix v1) w16) (fun h17 => bi (fX12_bounded 0 99 h17) (fun w19 h18 => ck (inb v1 20) (lt (wI h18 22 (ix v1) w19) (fun h20 => ck (inb v1 20) (lt (wI h20 23 (ix v1) (h20.1 0 42)) (fun h21 => (if (h21.1 0 13) = 0 then bi (fX12_is 28 h21) (fun w23 h22 => (if w23 = 0 then bX12_tellLetter_118 v1 v5 h22 else bv (fX12_condition h22) (fun h24 => bX12_tellLetter_118 v1 v5 h24))) else bX12_tellLetter_118 v1 v5 h21)))))))))))))))))))))))
set_option maxRecDepth 20000 in
theorem tX12_tellLetter (Z : ZT)  (hz : HZM Z) (h : Hp) (hr : Hp) (hF : fX12_tellLetter  h = some hr) : MC Z yX12_tellLetter cX12_tellLetter 3 none 6 [.ref (Z.2.1 0)] h (none) hr := by
  unfold fX12_tellLetter at hF
  refine mc_start (by decide) (Nat.le_of_ble_eq_true rfl) (fun G X E => ?_)
  refine j_bipush (pc := 0) 10 X dX12_tellLetter_0 rfl ?_
  refine j_aload_n (pc := 2) 0 X dX12_tellLetter_2 rfl ?_
  refine j_geti (pc := 3) X dX12_tellLetter_3 (hz _ sh_0) fl_X12_287 rfl ?_
  refine j_imul (pc := 6) X dX12_tellLetter_6 ?_
  refine j_aload_n (pc := 7) 0 X dX12_tellLetter_7 rfl ?_
  refine j_getr (pc := 8) X dX12_tellLetter_8 (hz _ sh_0) fl_X12_67 rfl ?_
  refine j_aload_n (pc := 11) 0 X dX12_tellLetter_11 rfl ?_
  refine j_geti (pc := 12) X dX12_tellLetter_12 (hz _ sh_0) fl_X12_287 rfl ?_
  refine j_iald (pc := 15) X dX12_tellLetter_15 (hz _ sh_17) hF (fun hF => ?_)
  refine j_iadd (pc := 16) X dX12_tellLetter_16 ?_
  refine j_istore_n (pc := 17) (fun y => [(1, .int y), (0, .ref (Z.2.1 0))]) X dX12_tellLetter_17 (by decide) (fun _ => rfl) hF (fun v1 hF => ?_)
  refine j_aload_n (pc := 18) 1 X dX12_tellLetter_18 rfl ?_
  refine j_cVv (pc := 19) (As := []) (rest := []) X dX12_tellLetter_19 ml_X12_275 ck_X12_goesOn cv_X12_goesOn (hz _ sh_0) rfl (Nat.le_of_ble_eq_true rfl) rfl (Nat.le_of_ble_eq_true rfl) rfl hF (tX12_goesOn Z hz h) (fun h2 hF => ?_)
  refine j_aload_n (pc := 22) 1 X dX12_tellLetter_22 rfl ?_
  refine j_cVi (pc := 23) (As := []) (rest := []) X dX12_tellLetter_23 ml_X12_337 ck_X12_named cv_X12_named (hz _ sh_0) rfl (Nat.le_of_ble_eq_true rfl) rfl (Nat.le_of_ble_eq_true rfl) rfl hF (tX12_named Z hz h2) (fun w4 h3 hF => ?_)
  refine j_istore_n (pc := 26) (fun y => [(2, .int y), (1, .int v1), (0, .ref (Z.2.1 0))]) X dX12_tellLetter_26 (by decide) (fun _ => rfl) hF (fun v5 hF => ?_)
  refine j_aload_n (pc := 27) 2 X dX12_tellLetter_27 rfl ?_
  refine j_getr (pc := 28) X dX12_tellLetter_28 (hz _ sh_0) fl_X12_70 rfl ?_
  refine j_iload_n (pc := 31) 1 X dX12_tellLetter_31 rfl ?_
  refine j_aload_n (pc := 32) 2 X dX12_tellLetter_32 rfl ?_
  refine j_iconst (pc := 33) 0 X dX12_tellLetter_33 rfl ?_
  refine j_cVi (pc := 34) (As := [.int 0]) (rest := [.int v1, .ref (Z.2.1 18)]) X dX12_tellLetter_34 ml_X12_345 ck_X12_known cv_X12_known (hz _ sh_0) rfl (Nat.le_of_ble_eq_true rfl) rfl (Nat.le_of_ble_eq_true rfl) rfl hF (tX12_known Z 0 hz h3) (fun w7 h6 hF => ?_)
  refine j_iast (pc := 37) X dX12_tellLetter_37 (hz _ sh_18) hF (fun h8 hF => ?_)
  refine j_aload_n (pc := 38) 2 X dX12_tellLetter_38 rfl ?_
  refine j_getr (pc := 39) X dX12_tellLetter_39 (hz _ sh_0) fl_X12_73 rfl ?_
  refine j_iload_n (pc := 42) 1 X dX12_tellLetter_42 rfl ?_
  refine j_aload_n (pc := 43) 2 X dX12_tellLetter_43 rfl ?_
  refine j_iconst (pc := 44) 0 X dX12_tellLetter_44 rfl ?_
  refine j_cVi (pc := 45) (As := [.int 0]) (rest := [.int v1, .ref (Z.2.1 19)]) X dX12_tellLetter_45 ml_X12_345 ck_X12_known cv_X12_known (hz _ sh_0) rfl (Nat.le_of_ble_eq_true rfl) rfl (Nat.le_of_ble_eq_true rfl) rfl hF (tX12_known Z 0 hz h8) (fun w10 h9 hF => ?_)
  refine j_iast (pc := 48) X dX12_tellLetter_48 (hz _ sh_19) hF (fun h11 hF => ?_)
  refine j_aload_n (pc := 49) 2 X dX12_tellLetter_49 rfl ?_
  refine j_getr (pc := 50) X dX12_tellLetter_50 (hz _ sh_0) fl_X12_76 rfl ?_
  refine j_iload_n (pc := 53) 1 X dX12_tellLetter_53 rfl ?_
  refine j_aload_n (pc := 54) 2 X dX12_tellLetter_54 rfl ?_
  refine j_iconst (pc := 55) 0 X dX12_tellLetter_55 rfl ?_
  refine j_iconst (pc := 56) 3 X dX12_tellLetter_56 rfl ?_
  refine j_cVi (pc := 57) (As := [.int 0, .int 3]) (rest := [.int v1, .ref (Z.2.1 20)]) X dX12_tellLetter_57 ml_X12_328 ck_X12_bounded cv_X12_bounded (hz _ sh_0) rfl (Nat.le_of_ble_eq_true rfl) rfl (Nat.le_of_ble_eq_true rfl) rfl hF (tX12_bounded Z 0 3 hz h11) (fun w13 h12 hF => ?_)
  refine j_iast (pc := 60) X dX12_tellLetter_60 (hz _ sh_20) hF (fun h14 hF => ?_)
  refine j_aload_n (pc := 61) 2 X dX12_tellLetter_61 rfl ?_
  refine j_getr (pc := 62) X dX12_tellLetter_62 (hz _ sh_0) fl_X12_79 rfl ?_
  refine j_iload_n (pc := 65) 1 X dX12_tellLetter_65 rfl ?_
  refine j_aload_n (pc := 66) 2 X dX12_tellLetter_66 rfl ?_
  refine j_iconst (pc := 67) 0 X dX12_tellLetter_67 rfl ?_
  refine j_sipush (pc := 68) 999 X dX12_tellLetter_68 rfl ?_
  refine j_cVi (pc := 71) (As := [.int 0, .int 999]) (rest := [.int v1, .ref (Z.2.1 21)]) X dX12_tellLetter_71 ml_X12_328 ck_X12_bounded cv_X12_bounded (hz _ sh_0) rfl (Nat.le_of_ble_eq_true rfl) rfl (Nat.le_of_ble_eq_true rfl) rfl hF (tX12_bounded Z 0 999 hz h14) (fun w16 h15 hF => ?_)
  refine j_iast (pc := 74) X dX12_tellLetter_74 (hz _ sh_21) hF (fun h17 hF => ?_)
  refine j_aload_n (pc := 75) 2 X dX12_tellLetter_75 rfl ?_
  refine j_getr (pc := 76) X dX12_tellLetter_76 (hz _ sh_0) fl_X12_82 rfl ?_
  refine j_iload_n (pc := 79) 1 X dX12_tellLetter_79 rfl ?_
  refine j_aload_n (pc := 80) 2 X dX12_tellLetter_80 rfl ?_
  refine j_iconst (pc := 81) 0 X dX12_tellLetter_81 rfl ?_
  refine j_bipush (pc := 82) 99 X dX12_tellLetter_82 rfl ?_
  refine j_cVi (pc := 84) (As := [.int 0, .int 99]) (rest := [.int v1, .ref (Z.2.1 22)]) X dX12_tellLetter_84 ml_X12_328 ck_X12_bounded cv_X12_bounded (hz _ sh_0) rfl (Nat.le_of_ble_eq_true rfl) rfl (Nat.le_of_ble_eq_true rfl) rfl hF (tX12_bounded Z 0 99 hz h17) (fun w19 h18 hF => ?_)
  refine j_iast (pc := 87) X dX12_tellLetter_87 (hz _ sh_22) hF (fun h20 hF => ?_)
  refine j_aload_n (pc := 88) 2 X dX12_tellLetter_88 rfl ?_
  refine j_getr (pc := 89) X dX12_tellLetter_89 (hz _ sh_0) fl_X12_85 rfl ?_
  refine j_iload_n (pc := 92) 1 X dX12_tellLetter_92 rfl ?_
  refine j_aload_n (pc := 93) 2 X dX12_tellLetter_93 rfl ?_
  refine j_geti (pc := 94) X dX12_tellLetter_94 (hz _ sh_0) fl_X12_293 rfl ?_
  refine j_iast (pc := 97) X dX12_tellLetter_97 (hz _ sh_23) hF (fun h21 hF => ?_)
  refine j_aload_n (pc := 98) 2 X dX12_tellLetter_98 rfl ?_
  refine j_geti (pc := 99) X dX12_tellLetter_99 (hz _ sh_0) fl_X12_254 rfl ?_
  refine j_if_ne (pc := 102) 118 X dX12_tellLetter_102 rfl hF (fun hF => ?_) (fun hF => ?_)
  · refine j_lv [(0, .ref (Z.2.1 0)), (1, .int v1), (2, .int v5)] [2, 1, 0] rfl ?_
    exact BX12_tellLetter_118 X E hz v1 v5 h21 hF
  · refine j_aload_n (pc := 105) 2 X dX12_tellLetter_105 rfl ?_
    refine j_bipush (pc := 106) 28 X dX12_tellLetter_106 rfl ?_
    refine j_cVi (pc := 108) (As := [.int 28]) (rest := []) X dX12_tellLetter_108 ml_X12_272 ck_X12_is cv_X12_is (hz _ sh_0) rfl (Nat.le_of_ble_eq_true rfl) rfl (Nat.le_of_ble_eq_true rfl) rfl hF (tX12_is Z 28 hz h21) (fun w23 h22 hF => ?_)
    refine j_if_eq (pc := 111) 118 X dX12_tellLetter_111 rfl hF (fun hF => ?_) (fun hF => ?_)
    · refine j_lv [(0, .ref (Z.2.1 0)), (1, .int v1), (2, .int v5)] [2, 1, 0] rfl ?_
      exact BX12_tellLetter_118 X E hz v1 v5 h22 hF
    · refine j_aload_n (pc := 114) 2 X dX12_tellLetter_114 rfl ?_
      refine j_cVv (pc := 115) (As := []) (rest := []) X dX12_tellLetter_115 ml_X12_348 ck_X12_condition cv_X12_condition (hz _ sh_0) rfl (Nat.le_of_ble_eq_true rfl) rfl (Nat.le_of_ble_eq_true rfl) rfl hF (tX12_condition Z hz h22) (fun h24 hF => ?_)
      refine j_lv [(0, .ref (Z.2.1 0)), (1, .int v1), (2, .int v5)] [2, 1, 0] rfl ?_
      exact BX12_tellLetter_118 X E hz v1 v5 h24 hF
