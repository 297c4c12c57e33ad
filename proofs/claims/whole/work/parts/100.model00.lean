theorem dX12_put_0 : decode cX12_put 0 = .ok (.bipush 24, 2) := by decide +kernel
theorem dX12_put_2 : decode cX12_put 2 = .ok (.istore_n 2, 1) := by decide +kernel
theorem dX12_put_3 : decode cX12_put 3 = .ok (.iload_n 2, 1) := by decide +kernel
theorem dX12_put_4 : decode cX12_put 4 = .ok (.ifCond .lt 32, 3) := by decide +kernel
theorem dX12_put_7 : decode cX12_put 7 = .ok (.aload_n 0, 1) := by decide +kernel
theorem dX12_put_8 : decode cX12_put 8 = .ok (.getfield 13, 3) := by decide +kernel
theorem dX12_put_11 : decode cX12_put 11 = .ok (.aload_n 0, 1) := by decide +kernel
theorem dX12_put_12 : decode cX12_put 12 = .ok (.getfield 216, 3) := by decide +kernel
theorem dX12_put_15 : decode cX12_put 15 = .ok (.iload_n 1, 1) := by decide +kernel
theorem dX12_put_16 : decode cX12_put 16 = .ok (.iload_n 2, 1) := by decide +kernel
theorem dX12_put_17 : decode cX12_put 17 = .ok (.ishr, 1) := by decide +kernel
theorem dX12_put_18 : decode cX12_put 18 = .ok (.i2b, 1) := by decide +kernel
theorem dX12_put_19 : decode cX12_put 19 = .ok (.bastore, 1) := by decide +kernel
theorem dX12_put_20 : decode cX12_put 20 = .ok (.aload_n 0, 1) := by decide +kernel
theorem dX12_put_21 : decode cX12_put 21 = .ok (.dup, 1) := by decide +kernel
theorem dX12_put_22 : decode cX12_put 22 = .ok (.getfield 216, 3) := by decide +kernel
theorem dX12_put_25 : decode cX12_put 25 = .ok (.iconst 1, 1) := by decide +kernel
theorem dX12_put_26 : decode cX12_put 26 = .ok (.iadd, 1) := by decide +kernel
theorem dX12_put_27 : decode cX12_put 27 = .ok (.putfield 216, 3) := by decide +kernel
theorem dX12_put_30 : decode cX12_put 30 = .ok (.iinc 2 (-8), 3) := by decide +kernel
theorem dX12_put_33 : decode cX12_put 33 = .ok (.goto (-30), 3) := by decide +kernel
theorem dX12_put_36 : decode cX12_put 36 = .ok (.return_, 1) := by decide +kernel
def bX12_put_3   (r3 : Int32 → Int32 → Hp → Option (Hp)) (x1 : Int32) (x2 : Int32) (h : Hp) : Option (Hp) := (if x2 < 0 then some h else ck (inb (h.1 0 2) 2000) (lt (wI h 1 (ix (h.1 0 2)) (vp_nar .byte ((x1 >>> (x2 &&& 31)).toInt8.toInt32))) (fun h1 => lt (wI h1 0 2 ((h1.1 0 2) + 1)) (fun h2 => lt (x2 + (-8)) (fun v3 => r3 x1 v3 h2)))))
def lX12_put_3   : Nat → Int32 → Int32 → Hp → Option (Hp)
  | 0 => fun _ _ _ => none
  | n + 1 => bX12_put_3   (lX12_put_3   n)
set_option maxRecDepth 20000 in
theorem BX12_put_3 {Z : ZT} {G : GT} {hr : Hp} (X : CX Z G cX12_put RX12 3 0) (E : RX Z G none (none) hr) (hz : HZM Z)  (r3 : Int32 → Int32 → Hp → Option (Hp)) (hr3 : ∀ (x1 : Int32) (x2 : Int32) (h : Hp), r3 x1 x2 h = some hr → J Z G 3 h 3 [(0, .ref (Z.2.1 0)), (1, .int x1), (2, .int x2)] []) (x1 : Int32) (x2 : Int32) (h : Hp) (hF : bX12_put_3   r3 x1 x2 h = some hr) : J Z G 3 h 3 [(0, .ref (Z.2.1 0)), (1, .int x1), (2, .int x2)] [] := by
  unfold bX12_put_3 at hF
  refine j_iload_n (pc := 3) 2 X dX12_put_3 rfl ?_
  refine j_if_lt (pc := 4) 36 X dX12_put_4 rfl hF (fun hF => ?_) (fun hF => ?_)
  · exact j_vret (pc := 36) X E dX12_put_36 hF
  · refine j_aload_n (pc := 7) 0 X dX12_put_7 rfl ?_
    refine j_getr (pc := 8) X dX12_put_8 (hz _ sh_0) fl_X12_13 rfl ?_
    refine j_aload_n (pc := 11) 0 X dX12_put_11 rfl ?_
    refine j_geti (pc := 12) X dX12_put_12 (hz _ sh_0) fl_X12_216 rfl ?_
    refine j_iload_n (pc := 15) 1 X dX12_put_15 rfl ?_
    refine j_iload_n (pc := 16) 2 X dX12_put_16 rfl ?_
    refine j_ishr (pc := 17) X dX12_put_17 ?_
    refine j_i2b (pc := 18) X dX12_put_18 ?_
    refine j_bast (pc := 19) X dX12_put_19 (hz _ sh_1) hF (fun h1 hF => ?_)
    refine j_aload_n (pc := 20) 0 X dX12_put_20 rfl ?_
    refine j_dup (pc := 21) X dX12_put_21 rfl ?_
    refine j_geti (pc := 22) X dX12_put_22 (hz _ sh_0) fl_X12_216 rfl ?_
    refine j_iconst (pc := 25) 1 X dX12_put_25 rfl ?_
    refine j_iadd (pc := 26) X dX12_put_26 ?_
    refine j_puti (pc := 27) X dX12_put_27 (hz _ sh_0) fp_X12_216 rfl hF (fun h2 hF => ?_)
    refine j_iinc (pc := 30) 2 (x2 + (-8)) (fun y => [(2, .int y), (0, .ref (Z.2.1 0)), (1, .int x1)]) X dX12_put_30 rfl rfl (by decide) (fun _ => rfl) hF (fun v3 hF => ?_)
    refine j_goto (pc := 33) 3 X dX12_put_33 rfl ?_
    refine j_lv [(0, .ref (Z.2.1 0)), (1, .int x1), (2, .int v3)] [1, 2, 0] rfl ?_
    exact hr3 x1 v3 h2 hF
theorem LX12_put_3 {Z : ZT} {G : GT} {hr : Hp} (X : CX Z G cX12_put RX12 3 0) (E : RX Z G none (none) hr) (hz : HZM Z)  : ∀ (n : Nat) (x1 : Int32) (x2 : Int32) (h : Hp), lX12_put_3   n x1 x2 h = some hr → J Z G 3 h 3 [(0, .ref (Z.2.1 0)), (1, .int x1), (2, .int x2)] [] := by
  intro n
  induction n with
  | zero => intro x1 x2 h hF; cases hF
  | succ n ih => intro x1 x2 h hF; exact BX12_put_3 X E hz  (lX12_put_3   n) ih x1 x2 h hF
def fX12_put (a1 : Int32) (h : Hp) : Option (Hp) := lt 24 (fun v1 => lX12_put_3 FU a1 v1 h)
set_option maxRecDepth 20000 in
theorem tX12_put (Z : ZT) (a1 : Int32) (hz : HZM Z) (h : Hp) (hr : Hp) (hF : fX12_put a1 h = some hr) : MC Z yX12_put cX12_put 3 none 0 [.ref (Z.2.1 0), .int a1] h (none) hr := by
  unfold fX12_put at hF
  refine mc_start (by decide) (Nat.le_of_ble_eq_true rfl) (fun G X E => ?_)
  refine j_bipush (pc := 0) 24 X dX12_put_0 rfl ?_
  refine j_istore_n (pc := 2) (fun y => [(2, .int y), (0, .ref (Z.2.1 0)), (1, .int a1)]) X dX12_put_2 (by decide) (fun _ => rfl) hF (fun v1 hF => ?_)
  refine j_lv [(0, .ref (Z.2.1 0)), (1, .int a1), (2, .int v1)] [1, 2, 0] rfl ?_
  exact LX12_put_3 X E hz FU a1 v1 h hF
theorem dX12_feed_0 : decode cX12_feed 0 = .ok (.aload_n 0, 1) := by decide +kernel
theorem dX12_feed_1 : decode cX12_feed 1 = .ok (.getfield 216, 3) := by decide +kernel
theorem dX12_feed_4 : decode cX12_feed 4 = .ok (.bipush 20, 2) := by decide +kernel
theorem dX12_feed_6 : decode cX12_feed 6 = .ok (.iadd, 1) := by decide +kernel
theorem dX12_feed_7 : decode cX12_feed 7 = .ok (.sipush 2000, 3) := by decide +kernel
theorem dX12_feed_10 : decode cX12_feed 10 = .ok (.if_icmp .le 5, 3) := by decide +kernel
theorem dX12_feed_13 : decode cX12_feed 13 = .ok (.iconst (-1), 1) := by decide +kernel
theorem dX12_feed_14 : decode cX12_feed 14 = .ok (.ireturn, 1) := by decide +kernel
theorem dX12_feed_15 : decode cX12_feed 15 = .ok (.aload_n 0, 1) := by decide +kernel
theorem dX12_feed_16 : decode cX12_feed 16 = .ok (.iload_n 1, 1) := by decide +kernel
theorem dX12_feed_17 : decode cX12_feed 17 = .ok (.invokevirtual 219, 3) := by decide +kernel
theorem dX12_feed_20 : decode cX12_feed 20 = .ok (.aload_n 0, 1) := by decide +kernel
theorem dX12_feed_21 : decode cX12_feed 21 = .ok (.iload_n 2, 1) := by decide +kernel
theorem dX12_feed_22 : decode cX12_feed 22 = .ok (.invokevirtual 219, 3) := by decide +kernel
theorem dX12_feed_25 : decode cX12_feed 25 = .ok (.aload_n 0, 1) := by decide +kernel
theorem dX12_feed_26 : decode cX12_feed 26 = .ok (.iload_n 3, 1) := by decide +kernel
theorem dX12_feed_27 : decode cX12_feed 27 = .ok (.invokevirtual 219, 3) := by decide +kernel
theorem dX12_feed_30 : decode cX12_feed 30 = .ok (.aload_n 0, 1) := by decide +kernel
theorem dX12_feed_31 : decode cX12_feed 31 = .ok (.iload 4, 2) := by decide +kernel
theorem dX12_feed_33 : decode cX12_feed 33 = .ok (.invokevirtual 219, 3) := by decide +kernel
theorem dX12_feed_36 : decode cX12_feed 36 = .ok (.aload_n 0, 1) := by decide +kernel
theorem dX12_feed_37 : decode cX12_feed 37 = .ok (.iload 5, 2) := by decide +kernel
theorem dX12_feed_39 : decode cX12_feed 39 = .ok (.invokevirtual 219, 3) := by decide +kernel
theorem dX12_feed_42 : decode cX12_feed 42 = .ok (.aload_n 0, 1) := by decide +kernel
theorem dX12_feed_43 : decode cX12_feed 43 = .ok (.getfield 216, 3) := by decide +kernel
theorem dX12_feed_46 : decode cX12_feed 46 = .ok (.ireturn, 1) := by decide +kernel
def fX12_feed (a1 : Int32) (a2 : Int32) (a3 : Int32) (a4 : Int32) (a5 : Int32) (h : Hp) : Option (Int32 × Hp) := (if ((h.1 0 2) + 20) ≤ 2000 then bv (fX12_put a1 h) (fun h1 => bv (fX12_put a2 h1) (fun h2 => bv (fX12_put a3 h2) (fun h3 => bv (fX12_put a4 h3) (fun h4 => bv (fX12_put a5 h4) (fun h5 => some ((h5.1 0 2), h5)))))) else some ((-1), h))
set_option maxRecDepth 20000 in
theorem tX12_feed (Z : ZT) (a1 : Int32) (a2 : Int32) (a3 : Int32) (a4 : Int32) (a5 : Int32) (hz : HZM Z) (h : Hp) (r : Int32) (hr : Hp) (hF : fX12_feed a1 a2 a3 a4 a5 h = some (r, hr)) : MC Z yX12_feed cX12_feed 6 (some .int) 1 [.ref (Z.2.1 0), .int a1, .int a2, .int a3, .int a4, .int a5] h (some (.int r)) hr := by
  unfold fX12_feed at hF
  refine mc_start (by decide) (Nat.le_of_ble_eq_true rfl) (fun G X E => ?_)
  refine j_aload_n (pc := 0) 0 X dX12_feed_0 rfl ?_
  refine j_geti (pc := 1) X dX12_feed_1 (hz _ sh_0) fl_X12_216 rfl ?_
  refine j_bipush (pc := 4) 20 X dX12_feed_4 rfl ?_
  refine j_iadd (pc := 6) X dX12_feed_6 ?_
  refine j_sipush (pc := 7) 2000 X dX12_feed_7 rfl ?_
  refine j_icmp_le (pc := 10) 15 X dX12_feed_10 rfl hF (fun hF => ?_) (fun hF => ?_)
  · refine j_aload_n (pc := 15) 0 X dX12_feed_15 rfl ?_
    refine j_iload_n (pc := 16) 1 X dX12_feed_16 rfl ?_
    refine j_cVv (pc := 17) (As := [.int a1]) (rest := []) X dX12_feed_17 ml_X12_219 ck_X12_put cv_X12_put (hz _ sh_0) rfl (Nat.le_of_ble_eq_true rfl) rfl (Nat.le_of_ble_eq_true rfl) rfl hF (tX12_put Z a1 hz h) (fun h1 hF => ?_)
    refine j_aload_n (pc := 20) 0 X dX12_feed_20 rfl ?_
    refine j_iload_n (pc := 21) 2 X dX12_feed_21 rfl ?_
    refine j_cVv (pc := 22) (As := [.int a2]) (rest := []) X dX12_feed_22 ml_X12_219 ck_X12_put cv_X12_put (hz _ sh_0) rfl (Nat.le_of_ble_eq_true rfl) rfl (Nat.le_of_ble_eq_true rfl) rfl hF (tX12_put Z a2 hz h1) (fun h2 hF => ?_)
    refine j_aload_n (pc := 25) 0 X dX12_feed_25 rfl ?_
    refine j_iload_n (pc := 26) 3 X dX12_feed_26 rfl ?_
    refine j_cVv (pc := 27) (As := [.int a3]) (rest := []) X dX12_feed_27 ml_X12_219 ck_X12_put cv_X12_put (hz _ sh_0) rfl (Nat.le_of_ble_eq_true rfl) rfl (Nat.le_of_ble_eq_true rfl) rfl hF (tX12_put Z a3 hz h2) (fun h3 hF => ?_)
    refine j_aload_n (pc := 30) 0 X dX12_feed_30 rfl ?_
    refine j_iload (pc := 31) 4 X dX12_feed_31 rfl ?_
    refine j_cVv (pc := 33) (As := [.int a4]) (rest := []) X dX12_feed_33 ml_X12_219 ck_X12_put cv_X12_put (hz _ sh_0) rfl (Nat.le_of_ble_eq_true rfl) rfl (Nat.le_of_ble_eq_true rfl) rfl hF (tX12_put Z a4 hz h3) (fun h4 hF => ?_)
    refine j_aload_n (pc := 36) 0 X dX12_feed_36 rfl ?_
    refine j_iload (pc := 37) 5 X dX12_feed_37 rfl ?_
    refine j_cVv (pc := 39) (As := [.int a5]) (rest := []) X dX12_feed_39 ml_X12_219 ck_X12_put cv_X12_put (hz _ sh_0) rfl (Nat.le_of_ble_eq_true rfl) rfl (Nat.le_of_ble_eq_true rfl) rfl hF (tX12_put Z a5 hz h4) (fun h5 hF => ?_)
    refine j_aload_n (pc := 42) 0 X dX12_feed_42 rfl ?_
    refine j_geti (pc := 43) X dX12_feed_43 (hz _ sh_0) fl_X12_216 rfl ?_
    exact j_iret (pc := 46) X E dX12_feed_46 hF
  · refine j_iconst (pc := 13) (-1) X dX12_feed_13 rfl ?_
    exact j_iret (pc := 14) X E dX12_feed_14 hF
theorem dX12_back_0 : decode cX12_back 0 = .ok (.iload_n 1, 1) := by decide +kernel
theorem dX12_back_1 : decode cX12_back 1 = .ok (.ifCond .lt 11, 3) := by decide +kernel
theorem dX12_back_4 : decode cX12_back 4 = .ok (.iload_n 1, 1) := by decide +kernel
theorem dX12_back_5 : decode cX12_back 5 = .ok (.aload_n 0, 1) := by decide +kernel
theorem dX12_back_6 : decode cX12_back 6 = .ok (.getfield 216, 3) := by decide +kernel
theorem dX12_back_9 : decode cX12_back 9 = .ok (.if_icmp .le 5, 3) := by decide +kernel
theorem dX12_back_12 : decode cX12_back 12 = .ok (.iconst (-1), 1) := by decide +kernel
theorem dX12_back_13 : decode cX12_back 13 = .ok (.ireturn, 1) := by decide +kernel
theorem dX12_back_14 : decode cX12_back 14 = .ok (.aload_n 0, 1) := by decide +kernel
theorem dX12_back_15 : decode cX12_back 15 = .ok (.dup, 1) := by decide +kernel
theorem dX12_back_16 : decode cX12_back 16 = .ok (.getfield 216, 3) := by decide +kernel
theorem dX12_back_19 : decode cX12_back 19 = .ok (.iload_n 1, 1) := by decide +kernel
theorem dX12_back_20 : decode cX12_back 20 = .ok (.isub, 1) := by decide +kernel
theorem dX12_back_21 : decode cX12_back 21 = .ok (.putfield 216, 3) := by decide +kernel
theorem dX12_back_24 : decode cX12_back 24 = .ok (.aload_n 0, 1) := by decide +kernel
theorem dX12_back_25 : decode cX12_back 25 = .ok (.getfield 216, 3) := by decide +kernel
theorem dX12_back_28 : decode cX12_back 28 = .ok (.ireturn, 1) := by decide +kernel
def fX12_back (a1 : Int32) (h : Hp) : Option (Int32 × Hp) := (if a1 < 0 then some ((-1), h) else (if a1 ≤ (h.1 0 2) then lt (wI h 0 2 ((h.1 0 2) - a1)) (fun h1 => some ((h1.1 0 2), h1)) else some ((-1), h)))
set_option maxRecDepth 20000 in
theorem tX12_back (Z : ZT) (a1 : Int32) (hz : HZM Z) (h : Hp) (r : Int32) (hr : Hp) (hF : fX12_back a1 h = some (r, hr)) : MC Z yX12_back cX12_back 2 (some .int) 0 [.ref (Z.2.1 0), .int a1] h (some (.int r)) hr := by
  unfold fX12_back at hF
  refine mc_start (by decide) (Nat.le_of_ble_eq_true rfl) (fun G X E => ?_)
  refine j_iload_n (pc := 0) 1 X dX12_back_0 rfl ?_
  refine j_if_lt (pc := 1) 12 X dX12_back_1 rfl hF (fun hF => ?_) (fun hF => ?_)
  · refine j_iconst (pc := 12) (-1) X dX12_back_12 rfl ?_
    exact j_iret (pc := 13) X E dX12_back_13 hF
  · refine j_iload_n (pc := 4) 1 X dX12_back_4 rfl ?_
    refine j_aload_n (pc := 5) 0 X dX12_back_5 rfl ?_
    refine j_geti (pc := 6) X dX12_back_6 (hz _ sh_0) fl_X12_216 rfl ?_
    refine j_icmp_le (pc := 9) 14 X dX12_back_9 rfl hF (fun hF => ?_) (fun hF => ?_)
    · refine j_aload_n (pc := 14) 0 X dX12_back_14 rfl ?_
      refine j_dup (pc := 15) X dX12_back_15 rfl ?_
      refine j_geti (pc := 16) X dX12_back_16 (hz _ sh_0) fl_X12_216 rfl ?_
      refine j_iload_n (pc := 19) 1 X dX12_back_19 rfl ?_
      refine j_isub (pc := 20) X dX12_back_20 ?_
      refine j_puti (pc := 21) X dX12_back_21 (hz _ sh_0) fp_X12_216 rfl hF (fun h1 hF => ?_)
      refine j_aload_n (pc := 24) 0 X dX12_back_24 rfl ?_
      refine j_geti (pc := 25) X dX12_back_25 (hz _ sh_0) fl_X12_216 rfl ?_
      exact j_iret (pc := 28) X E dX12_back_28 hF
    · refine j_iconst (pc := 12) (-1) X dX12_back_12 rfl ?_
      exact j_iret (pc := 13) X E dX12_back_13 hF
theorem dX12_byteAt_0 : decode cX12_byteAt 0 = .ok (.iload_n 1, 1) := by decide +kernel
theorem dX12_byteAt_1 : decode cX12_byteAt 1 = .ok (.aload_n 0, 1) := by decide +kernel
theorem dX12_byteAt_2 : decode cX12_byteAt 2 = .ok (.getfield 223, 3) := by decide +kernel
theorem dX12_byteAt_5 : decode cX12_byteAt 5 = .ok (.if_icmp .ge 16, 3) := by decide +kernel
theorem dX12_byteAt_8 : decode cX12_byteAt 8 = .ok (.aload_n 0, 1) := by decide +kernel
theorem dX12_byteAt_9 : decode cX12_byteAt 9 = .ok (.getfield 17, 3) := by decide +kernel
theorem dX12_byteAt_12 : decode cX12_byteAt 12 = .ok (.iload_n 1, 1) := by decide +kernel
theorem dX12_byteAt_13 : decode cX12_byteAt 13 = .ok (.baload, 1) := by decide +kernel
theorem dX12_byteAt_14 : decode cX12_byteAt 14 = .ok (.sipush 255, 3) := by decide +kernel
theorem dX12_byteAt_17 : decode cX12_byteAt 17 = .ok (.iand, 1) := by decide +kernel
theorem dX12_byteAt_18 : decode cX12_byteAt 18 = .ok (.goto 4, 3) := by decide +kernel
theorem dX12_byteAt_21 : decode cX12_byteAt 21 = .ok (.iconst 0, 1) := by decide +kernel
theorem dX12_byteAt_22 : decode cX12_byteAt 22 = .ok (.ireturn, 1) := by decide +kernel
def fX12_byteAt (a1 : Int32) (h : Hp) : Option (Int32 × Hp) := (if (h.1 0 4) ≤ a1 then some (0, h) else ck (inb a1 2000) (some (((h.1 2 (ix a1)) &&& 255), h)))
set_option maxRecDepth 20000 in
theorem tX12_byteAt (Z : ZT) (a1 : Int32) (hz : HZM Z) (h : Hp) (r : Int32) (hr : Hp) (hF : fX12_byteAt a1 h = some (r, hr)) : MC Z yX12_byteAt cX12_byteAt 2 (some .int) 0 [.ref (Z.2.1 0), .int a1] h (some (.int r)) hr := by
  unfold fX12_byteAt at hF
  refine mc_start (by decide) (Nat.le_of_ble_eq_true rfl) (fun G X E => ?_)
  refine j_iload_n (pc := 0) 1 X dX12_byteAt_0 rfl ?_
  refine j_aload_n (pc := 1) 0 X dX12_byteAt_1 rfl ?_
  refine j_geti (pc := 2) X dX12_byteAt_2 (hz _ sh_0) fl_X12_223 rfl ?_
  refine j_icmp_ge (pc := 5) 21 X dX12_byteAt_5 rfl hF (fun hF => ?_) (fun hF => ?_)
  · refine j_iconst (pc := 21) 0 X dX12_byteAt_21 rfl ?_
    exact j_iret (pc := 22) X E dX12_byteAt_22 hF
  · refine j_aload_n (pc := 8) 0 X dX12_byteAt_8 rfl ?_
    refine j_getr (pc := 9) X dX12_byteAt_9 (hz _ sh_0) fl_X12_17 rfl ?_
    refine j_iload_n (pc := 12) 1 X dX12_byteAt_12 rfl ?_
    refine j_bald (pc := 13) X dX12_byteAt_13 (hz _ sh_2) hF (fun hF => ?_)
    refine j_sipush (pc := 14) 255 X dX12_byteAt_14 rfl ?_
    refine j_iand (pc := 17) X dX12_byteAt_17 ?_
    refine j_goto (pc := 18) 22 X dX12_byteAt_18 rfl ?_
    exact j_iret (pc := 22) X E dX12_byteAt_22 hF
theorem dX12_isDigit_0 : decode cX12_isDigit 0 = .ok (.iload_n 0, 1) := by decide +kernel
theorem dX12_isDigit_1 : decode cX12_isDigit 1 = .ok (.bipush 48, 2) := by decide +kernel
theorem dX12_isDigit_3 : decode cX12_isDigit 3 = .ok (.if_icmp .lt 13, 3) := by decide +kernel
theorem dX12_isDigit_6 : decode cX12_isDigit 6 = .ok (.iload_n 0, 1) := by decide +kernel
theorem dX12_isDigit_7 : decode cX12_isDigit 7 = .ok (.bipush 57, 2) := by decide +kernel
theorem dX12_isDigit_9 : decode cX12_isDigit 9 = .ok (.if_icmp .gt 7, 3) := by decide +kernel
theorem dX12_isDigit_12 : decode cX12_isDigit 12 = .ok (.iconst 1, 1) := by decide +kernel
theorem dX12_isDigit_13 : decode cX12_isDigit 13 = .ok (.goto 4, 3) := by decide +kernel
theorem dX12_isDigit_16 : decode cX12_isDigit 16 = .ok (.iconst 0, 1) := by decide +kernel
theorem dX12_isDigit_17 : decode cX12_isDigit 17 = .ok (.ireturn, 1) := by decide +kernel
def fX12_isDigit (a1 : Int32) (h : Hp) : Option (Int32 × Hp) := (if a1 < 48 then ck (zb 0) (some (0, h)) else (if 57 < a1 then ck (zb 0) (some (0, h)) else ck (zb 1) (some (1, h))))
set_option maxRecDepth 20000 in
theorem tX12_isDigit (Z : ZT) (a1 : Int32) (hz : True) (h : Hp) (r : Int32) (hr : Hp) (hF : fX12_isDigit a1 h = some (r, hr)) : MC Z yX12_isDigit cX12_isDigit 1 (some .boolean) 0 [.int a1] h (some (.int r)) hr := by
  unfold fX12_isDigit at hF
  refine mc_start (by decide) (Nat.le_of_ble_eq_true rfl) (fun G X E => ?_)
  refine j_iload_n (pc := 0) 0 X dX12_isDigit_0 rfl ?_
  refine j_bipush (pc := 1) 48 X dX12_isDigit_1 rfl ?_
  refine j_icmp_lt (pc := 3) 16 X dX12_isDigit_3 rfl hF (fun hF => ?_) (fun hF => ?_)
  · refine j_iconst (pc := 16) 0 X dX12_isDigit_16 rfl ?_
    exact j_zret (pc := 17) X E dX12_isDigit_17 hF
  · refine j_iload_n (pc := 6) 0 X dX12_isDigit_6 rfl ?_
    refine j_bipush (pc := 7) 57 X dX12_isDigit_7 rfl ?_
    refine j_icmp_gt (pc := 9) 16 X dX12_isDigit_9 rfl hF (fun hF => ?_) (fun hF => ?_)
    · refine j_iconst (pc := 16) 0 X dX12_isDigit_16 rfl ?_
      exact j_zret (pc := 17) X E dX12_isDigit_17 hF
    · refine j_iconst (pc := 12) 1 X dX12_isDigit_12 rfl ?_
      refine j_goto (pc := 13) 17 X dX12_isDigit_13 rfl ?_
      exact j_zret (pc := 17) X E dX12_isDigit_17 hF
theorem dX12_isLetter_0 : decode cX12_isLetter 0 = .ok (.iload_n 0, 1) := by decide +kernel
theorem dX12_isLetter_1 : decode cX12_isLetter 1 = .ok (.bipush 97, 2) := by decide +kernel
theorem dX12_isLetter_3 : decode cX12_isLetter 3 = .ok (.if_icmp .lt 13, 3) := by decide +kernel
theorem dX12_isLetter_6 : decode cX12_isLetter 6 = .ok (.iload_n 0, 1) := by decide +kernel
theorem dX12_isLetter_7 : decode cX12_isLetter 7 = .ok (.bipush 122, 2) := by decide +kernel
theorem dX12_isLetter_9 : decode cX12_isLetter 9 = .ok (.if_icmp .gt 7, 3) := by decide +kernel
theorem dX12_isLetter_12 : decode cX12_isLetter 12 = .ok (.iconst 1, 1) := by decide +kernel
theorem dX12_isLetter_13 : decode cX12_isLetter 13 = .ok (.goto 4, 3) := by decide +kernel
theorem dX12_isLetter_16 : decode cX12_isLetter 16 = .ok (.iconst 0, 1) := by decide +kernel
theorem dX12_isLetter_17 : decode cX12_isLetter 17 = .ok (.ireturn, 1) := by decide +kernel
def fX12_isLetter (a1 : Int32) (h : Hp) : Option (Int32 × Hp) := (if a1 < 97 then ck (zb 0) (some (0, h)) else (if 122 < a1 then ck (zb 0) (some (0, h)) else ck (zb 1) (some (1, h))))
set_option maxRecDepth 20000 in
theorem tX12_isLetter (Z : ZT) (a1 : Int32) (hz : True) (h : Hp) (r : Int32) (hr : Hp) (hF : fX12_isLetter a1 h = some (r, hr)) : MC Z yX12_isLetter cX12_isLetter 1 (some .boolean) 0 [.int a1] h (some (.int r)) hr := by
  unfold fX12_isLetter at hF
  refine mc_start (by decide) (Nat.le_of_ble_eq_true rfl) (fun G X E => ?_)
  refine j_iload_n (pc := 0) 0 X dX12_isLetter_0 rfl ?_
  refine j_bipush (pc := 1) 97 X dX12_isLetter_1 rfl ?_
  refine j_icmp_lt (pc := 3) 16 X dX12_isLetter_3 rfl hF (fun hF => ?_) (fun hF => ?_)
  · refine j_iconst (pc := 16) 0 X dX12_isLetter_16 rfl ?_
    exact j_zret (pc := 17) X E dX12_isLetter_17 hF
  · refine j_iload_n (pc := 6) 0 X dX12_isLetter_6 rfl ?_
    refine j_bipush (pc := 7) 122 X dX12_isLetter_7 rfl ?_
    refine j_icmp_gt (pc := 9) 16 X dX12_isLetter_9 rfl hF (fun hF => ?_) (fun hF => ?_)
    · refine j_iconst (pc := 16) 0 X dX12_isLetter_16 rfl ?_
      exact j_zret (pc := 17) X E dX12_isLetter_17 hF
    · refine j_iconst (pc := 12) 1 X dX12_isLetter_12 rfl ?_
      refine j_goto (pc := 13) 17 X dX12_isLetter_13 rfl ?_
      exact j_zret (pc := 17) X E dX12_isLetter_17 hF
theorem dX12_appends_0 : decode cX12_appends 0 = .ok (.iload_n 2, 1) := by decide +kernel
theorem dX12_appends_1 : decode cX12_appends 1 = .ok (.ifCond .ne 7, 3) := by decide +kernel
theorem dX12_appends_4 : decode cX12_appends 4 = .ok (.lload_n 0, 1) := by decide +kernel
theorem dX12_appends_5 : decode cX12_appends 5 = .ok (.goto 16, 3) := by decide +kernel
theorem dX12_appends_8 : decode cX12_appends 8 = .ok (.ldc2_w 226, 3) := by decide +kernel
theorem dX12_appends_11 : decode cX12_appends 11 = .ok (.lload_n 0, 1) := by decide +kernel
theorem dX12_appends_12 : decode cX12_appends 12 = .ok (.lmul, 1) := by decide +kernel
theorem dX12_appends_13 : decode cX12_appends 13 = .ok (.iload_n 2, 1) := by decide +kernel
theorem dX12_appends_14 : decode cX12_appends 14 = .ok (.bipush 97, 2) := by decide +kernel
theorem dX12_appends_16 : decode cX12_appends 16 = .ok (.isub, 1) := by decide +kernel
theorem dX12_appends_17 : decode cX12_appends 17 = .ok (.iconst 1, 1) := by decide +kernel
theorem dX12_appends_18 : decode cX12_appends 18 = .ok (.iadd, 1) := by decide +kernel
theorem dX12_appends_19 : decode cX12_appends 19 = .ok (.i2l, 1) := by decide +kernel
theorem dX12_appends_20 : decode cX12_appends 20 = .ok (.ladd, 1) := by decide +kernel
theorem dX12_appends_21 : decode cX12_appends 21 = .ok (.lreturn, 1) := by decide +kernel
def fX12_appends (a1 : Int64) (a2 : Int32) (h : Hp) : Option (Int64 × Hp) := (if a2 = 0 then some (a1, h) else some ((((27 : Int64) * a1) + (((a2 - 97) + 1).toInt64)), h))
set_option maxRecDepth 20000 in
theorem tX12_appends (Z : ZT) (a1 : Int64) (a2 : Int32) (hz : True) (h : Hp) (r : Int64) (hr : Hp) (hF : fX12_appends a1 a2 h = some (r, hr)) : MC Z yX12_appends cX12_appends 3 (some .long) 0 [.long a1, .int a2] h (some (.long r)) hr := by
  unfold fX12_appends at hF
  refine mc_start (by decide) (Nat.le_of_ble_eq_true rfl) (fun G X E => ?_)
  refine j_iload_n (pc := 0) 1 X dX12_appends_0 rfl ?_
  refine j_if_ne (pc := 1) 8 X dX12_appends_1 rfl hF (fun hF => ?_) (fun hF => ?_)
  · refine j_ldc2_w (pc := 8) X dX12_appends_8 k_X12_226 ?_
    refine j_lload_n (pc := 11) 0 X dX12_appends_11 rfl ?_
    refine j_lmul (pc := 12) X dX12_appends_12 ?_
    refine j_iload_n (pc := 13) 1 X dX12_appends_13 rfl ?_
    refine j_bipush (pc := 14) 97 X dX12_appends_14 rfl ?_
    refine j_isub (pc := 16) X dX12_appends_16 ?_
    refine j_iconst (pc := 17) 1 X dX12_appends_17 rfl ?_
    refine j_iadd (pc := 18) X dX12_appends_18 ?_
    refine j_i2l (pc := 19) X dX12_appends_19 ?_
    refine j_ladd (pc := 20) X dX12_appends_20 ?_
    exact j_lret (pc := 21) X E dX12_appends_21 hF
  · refine j_lload_n (pc := 4) 0 X dX12_appends_4 rfl ?_
    refine j_goto (pc := 5) 21 X dX12_appends_5 rfl ?_
    exact j_lret (pc := 21) X E dX12_appends_21 hF
theorem dX12_word_0 : decode cX12_word 0 = .ok (.lconst 0, 1) := by decide +kernel
theorem dX12_word_1 : decode cX12_word 1 = .ok (.iload_n 0, 1) := by decide +kernel
theorem dX12_word_2 : decode cX12_word 2 = .ok (.invokestatic 228, 3) := by decide +kernel
theorem dX12_word_5 : decode cX12_word 5 = .ok (.iload_n 1, 1) := by decide +kernel
theorem dX12_word_6 : decode cX12_word 6 = .ok (.invokestatic 228, 3) := by decide +kernel
theorem dX12_word_9 : decode cX12_word 9 = .ok (.iload_n 2, 1) := by decide +kernel
theorem dX12_word_10 : decode cX12_word 10 = .ok (.invokestatic 228, 3) := by decide +kernel
theorem dX12_word_13 : decode cX12_word 13 = .ok (.iload_n 3, 1) := by decide +kernel
theorem dX12_word_14 : decode cX12_word 14 = .ok (.invokestatic 228, 3) := by decide +kernel
theorem dX12_word_17 : decode cX12_word 17 = .ok (.iload 4, 2) := by decide +kernel
theorem dX12_word_19 : decode cX12_word 19 = .ok (.invokestatic 228, 3) := by decide +kernel
theorem dX12_word_22 : decode cX12_word 22 = .ok (.iload 5, 2) := by decide +kernel
theorem dX12_word_24 : decode cX12_word 24 = .ok (.invokestatic 228, 3) := by decide +kernel
theorem dX12_word_27 : decode cX12_word 27 = .ok (.iload 6, 2) := by decide +kernel
theorem dX12_word_29 : decode cX12_word 29 = .ok (.invokestatic 228, 3) := by decide +kernel
theorem dX12_word_32 : decode cX12_word 32 = .ok (.lreturn, 1) := by decide +kernel
def fX12_word (a1 : Int32) (a2 : Int32) (a3 : Int32) (a4 : Int32) (a5 : Int32) (a6 : Int32) (a7 : Int32) (h : Hp) : Option (Int64 × Hp) := bi (fX12_appends 0 a1 h) (fun w2 h1 => bi (fX12_appends w2 a2 h1) (fun w4 h3 => bi (fX12_appends w4 a3 h3) (fun w6 h5 => bi (fX12_appends w6 a4 h5) (fun w8 h7 => bi (fX12_appends w8 a5 h7) (fun w10 h9 => bi (fX12_appends w10 a6 h9) (fun w12 h11 => bi (fX12_appends w12 a7 h11) (fun w14 h13 => some (w14, h13))))))))
set_option maxRecDepth 20000 in
theorem tX12_word (Z : ZT) (a1 : Int32) (a2 : Int32) (a3 : Int32) (a4 : Int32) (a5 : Int32) (a6 : Int32) (a7 : Int32) (hz : True) (h : Hp) (r : Int64) (hr : Hp) (hF : fX12_word a1 a2 a3 a4 a5 a6 a7 h = some (r, hr)) : MC Z yX12_word cX12_word 7 (some .long) 1 [.int a1, .int a2, .int a3, .int a4, .int a5, .int a6, .int a7] h (some (.long r)) hr := by
  unfold fX12_word at hF
  refine mc_start (by decide) (Nat.le_of_ble_eq_true rfl) (fun G X E => ?_)
  refine j_lconst (pc := 0) 0 X dX12_word_0 rfl ?_
  refine j_iload_n (pc := 1) 0 X dX12_word_1 rfl ?_
  refine j_cSl (pc := 2) (As := [.long 0, .int a1]) (rest := []) X dX12_word_2 ml_X12_228 ck_X12_appends sk_X12_appends (Nat.le_of_ble_eq_true rfl) rfl (Nat.le_of_ble_eq_true rfl) rfl hF (tX12_appends Z 0 a1 trivial h) (fun w2 h1 hF => ?_)
  refine j_iload_n (pc := 5) 1 X dX12_word_5 rfl ?_
  refine j_cSl (pc := 6) (As := [.long w2, .int a2]) (rest := []) X dX12_word_6 ml_X12_228 ck_X12_appends sk_X12_appends (Nat.le_of_ble_eq_true rfl) rfl (Nat.le_of_ble_eq_true rfl) rfl hF (tX12_appends Z w2 a2 trivial h1) (fun w4 h3 hF => ?_)
  refine j_iload_n (pc := 9) 2 X dX12_word_9 rfl ?_
  refine j_cSl (pc := 10) (As := [.long w4, .int a3]) (rest := []) X dX12_word_10 ml_X12_228 ck_X12_appends sk_X12_appends (Nat.le_of_ble_eq_true rfl) rfl (Nat.le_of_ble_eq_true rfl) rfl hF (tX12_appends Z w4 a3 trivial h3) (fun w6 h5 hF => ?_)
  refine j_iload_n (pc := 13) 3 X dX12_word_13 rfl ?_
  refine j_cSl (pc := 14) (As := [.long w6, .int a4]) (rest := []) X dX12_word_14 ml_X12_228 ck_X12_appends sk_X12_appends (Nat.le_of_ble_eq_true rfl) rfl (Nat.le_of_ble_eq_true rfl) rfl hF (tX12_appends Z w6 a4 trivial h5) (fun w8 h7 hF => ?_)
  refine j_iload (pc := 17) 4 X dX12_word_17 rfl ?_
  refine j_cSl (pc := 19) (As := [.long w8, .int a5]) (rest := []) X dX12_word_19 ml_X12_228 ck_X12_appends sk_X12_appends (Nat.le_of_ble_eq_true rfl) rfl (Nat.le_of_ble_eq_true rfl) rfl hF (tX12_appends Z w8 a5 trivial h7) (fun w10 h9 hF => ?_)
  refine j_iload (pc := 22) 5 X dX12_word_22 rfl ?_
  refine j_cSl (pc := 24) (As := [.long w10, .int a6]) (rest := []) X dX12_word_24 ml_X12_228 ck_X12_appends sk_X12_appends (Nat.le_of_ble_eq_true rfl) rfl (Nat.le_of_ble_eq_true rfl) rfl hF (tX12_appends Z w10 a6 trivial h9) (fun w12 h11 hF => ?_)
  refine j_iload (pc := 27) 6 X dX12_word_27 rfl ?_
  refine j_cSl (pc := 29) (As := [.long w12, .int a7]) (rest := []) X dX12_word_29 ml_X12_228 ck_X12_appends sk_X12_appends (Nat.le_of_ble_eq_true rfl) rfl (Nat.le_of_ble_eq_true rfl) rfl hF (tX12_appends Z w12 a7 trivial h11) (fun w14 h13 hF => ?_)
  exact j_lret (pc := 32) X E dX12_word_32 hF
theorem dX12_token_0 : decode cX12_token 0 = .ok (.aload_n 0, 1) := by decide +kernel
theorem dX12_token_1 : decode cX12_token 1 = .ok (.getfield 20, 3) := by decide +kernel
theorem dX12_token_4 : decode cX12_token 4 = .ok (.aload_n 0, 1) := by decide +kernel
theorem dX12_token_5 : decode cX12_token 5 = .ok (.getfield 232, 3) := by decide +kernel
theorem dX12_token_8 : decode cX12_token 8 = .ok (.iload_n 1, 1) := by decide +kernel
theorem dX12_token_9 : decode cX12_token 9 = .ok (.iastore, 1) := by decide +kernel
theorem dX12_token_10 : decode cX12_token 10 = .ok (.aload_n 0, 1) := by decide +kernel
theorem dX12_token_11 : decode cX12_token 11 = .ok (.getfield 24, 3) := by decide +kernel
theorem dX12_token_14 : decode cX12_token 14 = .ok (.aload_n 0, 1) := by decide +kernel
theorem dX12_token_15 : decode cX12_token 15 = .ok (.getfield 232, 3) := by decide +kernel
theorem dX12_token_18 : decode cX12_token 18 = .ok (.iload_n 2, 1) := by decide +kernel
theorem dX12_token_19 : decode cX12_token 19 = .ok (.iastore, 1) := by decide +kernel
theorem dX12_token_20 : decode cX12_token 20 = .ok (.aload_n 0, 1) := by decide +kernel
theorem dX12_token_21 : decode cX12_token 21 = .ok (.getfield 27, 3) := by decide +kernel
theorem dX12_token_24 : decode cX12_token 24 = .ok (.aload_n 0, 1) := by decide +kernel
theorem dX12_token_25 : decode cX12_token 25 = .ok (.getfield 232, 3) := by decide +kernel
theorem dX12_token_28 : decode cX12_token 28 = .ok (.iload_n 3, 1) := by decide +kernel
theorem dX12_token_29 : decode cX12_token 29 = .ok (.iastore, 1) := by decide +kernel
theorem dX12_token_30 : decode cX12_token 30 = .ok (.aload_n 0, 1) := by decide +kernel
theorem dX12_token_31 : decode cX12_token 31 = .ok (.getfield 30, 3) := by decide +kernel
theorem dX12_token_34 : decode cX12_token 34 = .ok (.aload_n 0, 1) := by decide +kernel
theorem dX12_token_35 : decode cX12_token 35 = .ok (.getfield 232, 3) := by decide +kernel
theorem dX12_token_38 : decode cX12_token 38 = .ok (.lload 4, 2) := by decide +kernel
theorem dX12_token_40 : decode cX12_token 40 = .ok (.lastore, 1) := by decide +kernel
theorem dX12_token_41 : decode cX12_token 41 = .ok (.aload_n 0, 1) := by decide +kernel
theorem dX12_token_42 : decode cX12_token 42 = .ok (.dup, 1) := by decide +kernel
theorem dX12_token_43 : decode cX12_token 43 = .ok (.getfield 232, 3) := by decide +kernel
theorem dX12_token_46 : decode cX12_token 46 = .ok (.iconst 1, 1) := by decide +kernel
theorem dX12_token_47 : decode cX12_token 47 = .ok (.iadd, 1) := by decide +kernel
theorem dX12_token_48 : decode cX12_token 48 = .ok (.putfield 232, 3) := by decide +kernel
theorem dX12_token_51 : decode cX12_token 51 = .ok (.return_, 1) := by decide +kernel
def fX12_token (a1 : Int32) (a2 : Int32) (a3 : Int32) (a4 : Int64) (h : Hp) : Option (Hp) := ck (inb (h.1 0 10) 403) (lt (wI h 3 (ix (h.1 0 10)) a1) (fun h1 => ck (inb (h1.1 0 10) 403) (lt (wI h1 4 (ix (h1.1 0 10)) a2) (fun h2 => ck (inb (h2.1 0 10) 403) (lt (wI h2 5 (ix (h2.1 0 10)) a3) (fun h3 => ck (inb (h3.1 0 10) 403) (lt (wL h3 6 (ix (h3.1 0 10)) a4) (fun h4 => lt (wI h4 0 10 ((h4.1 0 10) + 1)) (fun h5 => some h5)))))))))
set_option maxRecDepth 20000 in
theorem tX12_token (Z : ZT) (a1 : Int32) (a2 : Int32) (a3 : Int32) (a4 : Int64) (hz : HZM Z) (h : Hp) (hr : Hp) (hF : fX12_token a1 a2 a3 a4 h = some hr) : MC Z yX12_token cX12_token 6 none 0 [.ref (Z.2.1 0), .int a1, .int a2, .int a3, .long a4] h (none) hr := by
  unfold fX12_token at hF
  refine mc_start (by decide) (Nat.le_of_ble_eq_true rfl) (fun G X E => ?_)
  refine j_aload_n (pc := 0) 0 X dX12_token_0 rfl ?_
  refine j_getr (pc := 1) X dX12_token_1 (hz _ sh_0) fl_X12_20 rfl ?_
  refine j_aload_n (pc := 4) 0 X dX12_token_4 rfl ?_
  refine j_geti (pc := 5) X dX12_token_5 (hz _ sh_0) fl_X12_232 rfl ?_
  refine j_iload_n (pc := 8) 1 X dX12_token_8 rfl ?_
  refine j_iast (pc := 9) X dX12_token_9 (hz _ sh_3) hF (fun h1 hF => ?_)
  refine j_aload_n (pc := 10) 0 X dX12_token_10 rfl ?_
  refine j_getr (pc := 11) X dX12_token_11 (hz _ sh_0) fl_X12_24 rfl ?_
  refine j_aload_n (pc := 14) 0 X dX12_token_14 rfl ?_
  refine j_geti (pc := 15) X dX12_token_15 (hz _ sh_0) fl_X12_232 rfl ?_
  refine j_iload_n (pc := 18) 2 X dX12_token_18 rfl ?_
  refine j_iast (pc := 19) X dX12_token_19 (hz _ sh_4) hF (fun h2 hF => ?_)
  refine j_aload_n (pc := 20) 0 X dX12_token_20 rfl ?_
  refine j_getr (pc := 21) X dX12_token_21 (hz _ sh_0) fl_X12_27 rfl ?_
  refine j_aload_n (pc := 24) 0 X dX12_token_24 rfl ?_
  refine j_geti (pc := 25) X dX12_token_25 (hz _ sh_0) fl_X12_232 rfl ?_
  refine j_iload_n (pc := 28) 3 X dX12_token_28 rfl ?_
  refine j_iast (pc := 29) X dX12_token_29 (hz _ sh_5) hF (fun h3 hF => ?_)
  refine j_aload_n (pc := 30) 0 X dX12_token_30 rfl ?_
  refine j_getr (pc := 31) X dX12_token_31 (hz _ sh_0) fl_X12_30 rfl ?_
  refine j_aload_n (pc := 34) 0 X dX12_token_34 rfl ?_
  refine j_geti (pc := 35) X dX12_token_35 (hz _ sh_0) fl_X12_232 rfl ?_
  refine j_lload (pc := 38) 4 X dX12_token_38 rfl ?_
  refine j_last (pc := 40) X dX12_token_40 (hz _ sh_6) hF (fun h4 hF => ?_)
  refine j_aload_n (pc := 41) 0 X dX12_token_41 rfl ?_
  refine j_dup (pc := 42) X dX12_token_42 rfl ?_
  refine j_geti (pc := 43) X dX12_token_43 (hz _ sh_0) fl_X12_232 rfl ?_
  refine j_iconst (pc := 46) 1 X dX12_token_46 rfl ?_
  refine j_iadd (pc := 47) X dX12_token_47 ?_
  refine j_puti (pc := 48) X dX12_token_48 (hz _ sh_0) fp_X12_232 rfl hF (fun h5 hF => ?_)
  exact j_vret (pc := 51) X E dX12_token_51 hF
theorem dX12_sign_0 : decode cX12_sign 0 = .ok (.iload_n 3, 1) := by decide +kernel
theorem dX12_sign_1 : decode cX12_sign 1 = .ok (.bipush 61, 2) := by decide +kernel
theorem dX12_sign_3 : decode cX12_sign 3 = .ok (.if_icmp .eq 7, 3) := by decide +kernel
theorem dX12_sign_6 : decode cX12_sign 6 = .ok (.iconst 0, 1) := by decide +kernel
theorem dX12_sign_7 : decode cX12_sign 7 = .ok (.goto 37, 3) := by decide +kernel
theorem dX12_sign_10 : decode cX12_sign 10 = .ok (.iload_n 2, 1) := by decide +kernel
theorem dX12_sign_11 : decode cX12_sign 11 = .ok (.bipush 61, 2) := by decide +kernel
theorem dX12_sign_13 : decode cX12_sign 13 = .ok (.if_icmp .ne 8, 3) := by decide +kernel
theorem dX12_sign_16 : decode cX12_sign 16 = .ok (.bipush 11, 2) := by decide +kernel
theorem dX12_sign_18 : decode cX12_sign 18 = .ok (.goto 26, 3) := by decide +kernel
theorem dX12_sign_21 : decode cX12_sign 21 = .ok (.iload_n 2, 1) := by decide +kernel
theorem dX12_sign_22 : decode cX12_sign 22 = .ok (.bipush 33, 2) := by decide +kernel
theorem dX12_sign_24 : decode cX12_sign 24 = .ok (.if_icmp .ne 8, 3) := by decide +kernel
theorem dX12_sign_27 : decode cX12_sign 27 = .ok (.bipush 12, 2) := by decide +kernel
theorem dX12_sign_29 : decode cX12_sign 29 = .ok (.goto 15, 3) := by decide +kernel
theorem dX12_sign_32 : decode cX12_sign 32 = .ok (.iload_n 2, 1) := by decide +kernel
theorem dX12_sign_33 : decode cX12_sign 33 = .ok (.bipush 60, 2) := by decide +kernel
theorem dX12_sign_35 : decode cX12_sign 35 = .ok (.if_icmp .ne 8, 3) := by decide +kernel
theorem dX12_sign_38 : decode cX12_sign 38 = .ok (.bipush 14, 2) := by decide +kernel
theorem dX12_sign_40 : decode cX12_sign 40 = .ok (.goto 4, 3) := by decide +kernel
theorem dX12_sign_43 : decode cX12_sign 43 = .ok (.iconst 0, 1) := by decide +kernel
theorem dX12_sign_44 : decode cX12_sign 44 = .ok (.istore 4, 2) := by decide +kernel
theorem dX12_sign_46 : decode cX12_sign 46 = .ok (.iconst 3, 1) := by decide +kernel
theorem dX12_sign_47 : decode cX12_sign 47 = .ok (.istore 5, 2) := by decide +kernel
theorem dX12_sign_49 : decode cX12_sign 49 = .ok (.iload 4, 2) := by decide +kernel
theorem dX12_sign_51 : decode cX12_sign 51 = .ok (.ifCond .le 10, 3) := by decide +kernel
theorem dX12_sign_54 : decode cX12_sign 54 = .ok (.iload 4, 2) := by decide +kernel
theorem dX12_sign_56 : decode cX12_sign 56 = .ok (.istore 5, 2) := by decide +kernel
theorem dX12_sign_58 : decode cX12_sign 58 = .ok (.goto 116, 3) := by decide +kernel
theorem dX12_sign_61 : decode cX12_sign 61 = .ok (.iload_n 2, 1) := by decide +kernel
theorem dX12_sign_62 : decode cX12_sign 62 = .ok (.bipush 59, 2) := by decide +kernel
theorem dX12_sign_64 : decode cX12_sign 64 = .ok (.if_icmp .ne 9, 3) := by decide +kernel
theorem dX12_sign_67 : decode cX12_sign 67 = .ok (.iconst 4, 1) := by decide +kernel
theorem dX12_sign_68 : decode cX12_sign 68 = .ok (.istore 5, 2) := by decide +kernel
theorem dX12_sign_70 : decode cX12_sign 70 = .ok (.goto 104, 3) := by decide +kernel
theorem dX12_sign_73 : decode cX12_sign 73 = .ok (.iload_n 2, 1) := by decide +kernel
theorem dX12_sign_74 : decode cX12_sign 74 = .ok (.bipush 40, 2) := by decide +kernel
theorem dX12_sign_76 : decode cX12_sign 76 = .ok (.if_icmp .ne 10, 3) := by decide +kernel
theorem dX12_sign_79 : decode cX12_sign 79 = .ok (.bipush 6, 2) := by decide +kernel
theorem dX12_sign_81 : decode cX12_sign 81 = .ok (.istore 5, 2) := by decide +kernel
theorem dX12_sign_83 : decode cX12_sign 83 = .ok (.goto 91, 3) := by decide +kernel
theorem dX12_sign_86 : decode cX12_sign 86 = .ok (.iload_n 2, 1) := by decide +kernel
theorem dX12_sign_87 : decode cX12_sign 87 = .ok (.bipush 41, 2) := by decide +kernel
theorem dX12_sign_89 : decode cX12_sign 89 = .ok (.if_icmp .ne 10, 3) := by decide +kernel
theorem dX12_sign_92 : decode cX12_sign 92 = .ok (.bipush 7, 2) := by decide +kernel
theorem dX12_sign_94 : decode cX12_sign 94 = .ok (.istore 5, 2) := by decide +kernel
theorem dX12_sign_96 : decode cX12_sign 96 = .ok (.goto 78, 3) := by decide +kernel
theorem dX12_sign_99 : decode cX12_sign 99 = .ok (.iload_n 2, 1) := by decide +kernel
theorem dX12_sign_100 : decode cX12_sign 100 = .ok (.bipush 43, 2) := by decide +kernel
theorem dX12_sign_102 : decode cX12_sign 102 = .ok (.if_icmp .ne 10, 3) := by decide +kernel
theorem dX12_sign_105 : decode cX12_sign 105 = .ok (.bipush 8, 2) := by decide +kernel
theorem dX12_sign_107 : decode cX12_sign 107 = .ok (.istore 5, 2) := by decide +kernel
theorem dX12_sign_109 : decode cX12_sign 109 = .ok (.goto 65, 3) := by decide +kernel
theorem dX12_sign_112 : decode cX12_sign 112 = .ok (.iload_n 2, 1) := by decide +kernel
theorem dX12_sign_113 : decode cX12_sign 113 = .ok (.bipush 45, 2) := by decide +kernel
theorem dX12_sign_115 : decode cX12_sign 115 = .ok (.if_icmp .ne 10, 3) := by decide +kernel
theorem dX12_sign_118 : decode cX12_sign 118 = .ok (.bipush 9, 2) := by decide +kernel
theorem dX12_sign_120 : decode cX12_sign 120 = .ok (.istore 5, 2) := by decide +kernel
theorem dX12_sign_122 : decode cX12_sign 122 = .ok (.goto 52, 3) := by decide +kernel
theorem dX12_sign_125 : decode cX12_sign 125 = .ok (.iload_n 2, 1) := by decide +kernel
theorem dX12_sign_126 : decode cX12_sign 126 = .ok (.bipush 42, 2) := by decide +kernel
theorem dX12_sign_128 : decode cX12_sign 128 = .ok (.if_icmp .ne 10, 3) := by decide +kernel
theorem dX12_sign_131 : decode cX12_sign 131 = .ok (.bipush 10, 2) := by decide +kernel
theorem dX12_sign_133 : decode cX12_sign 133 = .ok (.istore 5, 2) := by decide +kernel
theorem dX12_sign_135 : decode cX12_sign 135 = .ok (.goto 39, 3) := by decide +kernel
theorem dX12_sign_138 : decode cX12_sign 138 = .ok (.iload_n 2, 1) := by decide +kernel
theorem dX12_sign_139 : decode cX12_sign 139 = .ok (.bipush 60, 2) := by decide +kernel
theorem dX12_sign_141 : decode cX12_sign 141 = .ok (.if_icmp .ne 10, 3) := by decide +kernel
theorem dX12_sign_144 : decode cX12_sign 144 = .ok (.bipush 13, 2) := by decide +kernel
theorem dX12_sign_146 : decode cX12_sign 146 = .ok (.istore 5, 2) := by decide +kernel
theorem dX12_sign_148 : decode cX12_sign 148 = .ok (.goto 26, 3) := by decide +kernel
theorem dX12_sign_151 : decode cX12_sign 151 = .ok (.iload_n 2, 1) := by decide +kernel
theorem dX12_sign_152 : decode cX12_sign 152 = .ok (.bipush 47, 2) := by decide +kernel
theorem dX12_sign_154 : decode cX12_sign 154 = .ok (.if_icmp .ne 10, 3) := by decide +kernel
theorem dX12_sign_157 : decode cX12_sign 157 = .ok (.bipush 15, 2) := by decide +kernel
theorem dX12_sign_159 : decode cX12_sign 159 = .ok (.istore 5, 2) := by decide +kernel
theorem dX12_sign_161 : decode cX12_sign 161 = .ok (.goto 13, 3) := by decide +kernel
theorem dX12_sign_164 : decode cX12_sign 164 = .ok (.iload_n 2, 1) := by decide +kernel
theorem dX12_sign_165 : decode cX12_sign 165 = .ok (.bipush 61, 2) := by decide +kernel
theorem dX12_sign_167 : decode cX12_sign 167 = .ok (.if_icmp .ne 7, 3) := by decide +kernel
theorem dX12_sign_170 : decode cX12_sign 170 = .ok (.bipush 16, 2) := by decide +kernel
theorem dX12_sign_172 : decode cX12_sign 172 = .ok (.istore 5, 2) := by decide +kernel
theorem dX12_sign_174 : decode cX12_sign 174 = .ok (.aload_n 0, 1) := by decide +kernel
theorem dX12_sign_175 : decode cX12_sign 175 = .ok (.iload 5, 2) := by decide +kernel
theorem dX12_sign_177 : decode cX12_sign 177 = .ok (.iload_n 1, 1) := by decide +kernel
theorem dX12_sign_178 : decode cX12_sign 178 = .ok (.iconst 0, 1) := by decide +kernel
theorem dX12_sign_179 : decode cX12_sign 179 = .ok (.lconst 0, 1) := by decide +kernel
theorem dX12_sign_180 : decode cX12_sign 180 = .ok (.invokevirtual 239, 3) := by decide +kernel
theorem dX12_sign_183 : decode cX12_sign 183 = .ok (.iload 4, 2) := by decide +kernel
theorem dX12_sign_185 : decode cX12_sign 185 = .ok (.ifCond .le 7, 3) := by decide +kernel
theorem dX12_sign_188 : decode cX12_sign 188 = .ok (.iconst 2, 1) := by decide +kernel
theorem dX12_sign_189 : decode cX12_sign 189 = .ok (.goto 4, 3) := by decide +kernel
theorem dX12_sign_192 : decode cX12_sign 192 = .ok (.iconst 1, 1) := by decide +kernel
theorem dX12_sign_193 : decode cX12_sign 193 = .ok (.ireturn, 1) := by decide +kernel
def bX12_sign_174   (x1 : Int32) (x4 : Int32) (x5 : Int32) (h : Hp) : Option (Int32 × Hp) := bv (fX12_token x5 x1 0 0 h) (fun h1 => (if x4 ≤ 0 then some (1, h1) else some (2, h1)))
set_option maxRecDepth 20000 in
theorem BX12_sign_174 {Z : ZT} {G : GT} {r : Int32} {hr : Hp} (X : CX Z G cX12_sign RX12 6 1) (E : RX Z G (some .int) (some (.int r)) hr) (hz : HZM Z)  (x1 : Int32) (x4 : Int32) (x5 : Int32) (h : Hp) (hF : bX12_sign_174   x1 x4 x5 h = some (r, hr)) : J Z G 6 h 174 [(0, .ref (Z.2.1 0)), (1, .int x1), (4, .int x4), (5, .int x5)] [] := by
  unfold bX12_sign_174 at hF
  refine j_aload_n (pc := 174) 0 X dX12_sign_174 rfl ?_
  refine j_iload (pc := 175) 3 X dX12_sign_175 rfl ?_
  refine j_iload_n (pc := 177) 1 X dX12_sign_177 rfl ?_
  refine j_iconst (pc := 178) 0 X dX12_sign_178 rfl ?_
  refine j_lconst (pc := 179) 0 X dX12_sign_179 rfl ?_
  refine j_cVv (pc := 180) (As := [.int x5, .int x1, .int 0, .long 0]) (rest := []) X dX12_sign_180 ml_X12_239 ck_X12_token cv_X12_token (hz _ sh_0) rfl (Nat.le_of_ble_eq_true rfl) rfl (Nat.le_of_ble_eq_true rfl) rfl hF (tX12_token Z x5 x1 0 0 hz h) (fun h1 hF => ?_)
  refine j_iload (pc := 183) 2 X dX12_sign_183 rfl ?_
  refine j_if_le (pc := 185) 192 X dX12_sign_185 rfl hF (fun hF => ?_) (fun hF => ?_)
  · refine j_iconst (pc := 192) 1 X dX12_sign_192 rfl ?_
    exact j_iret (pc := 193) X E dX12_sign_193 hF
  · refine j_iconst (pc := 188) 2 X dX12_sign_188 rfl ?_
    refine j_goto (pc := 189) 193 X dX12_sign_189 rfl ?_
    exact j_iret (pc := 193) X E dX12_sign_193 hF
def bX12_sign_44   (x1 : Int32) (x2 : Int32) (s0 : Int32) (h : Hp) : Option (Int32 × Hp) := lt s0 (fun v1 => lt 3 (fun v2 => (if v1 ≤ 0 then (if x2 = 59 then lt 4 (fun v11 => bX12_sign_174 x1 v1 v11 h) else (if x2 = 40 then lt 6 (fun v10 => bX12_sign_174 x1 v1 v10 h) else (if x2 = 41 then lt 7 (fun v9 => bX12_sign_174 x1 v1 v9 h) else (if x2 = 43 then lt 8 (fun v8 => bX12_sign_174 x1 v1 v8 h) else (if x2 = 45 then lt 9 (fun v7 => bX12_sign_174 x1 v1 v7 h) else (if x2 = 42 then lt 10 (fun v6 => bX12_sign_174 x1 v1 v6 h) else (if x2 = 60 then lt 13 (fun v5 => bX12_sign_174 x1 v1 v5 h) else (if x2 = 47 then lt 15 (fun v4 => bX12_sign_174 x1 v1 v4 h) else (if x2 = 61 then lt 16 (fun v3 => bX12_sign_174 x1 v1 v3 h) else bX12_sign_174 x1 v1 v2 h))))))))) else lt v1 (fun v12 => bX12_sign_174 x1 v1 v12 h))))
set_option maxRecDepth 20000 in
theorem BX12_sign_44 {Z : ZT} {G : GT} {r : Int32} {hr : Hp} (X : CX Z G cX12_sign RX12 6 1) (E : RX Z G (some .int) (some (.int r)) hr) (hz : HZM Z)  (x1 : Int32) (x2 : Int32) (s0 : Int32) (h : Hp) (hF : bX12_sign_44   x1 x2 s0 h = some (r, hr)) : J Z G 6 h 44 [(0, .ref (Z.2.1 0)), (1, .int x1), (2, .int x2)] [.int s0] := by
  unfold bX12_sign_44 at hF
  refine j_istore (pc := 44) (fun y => [(4, .int y), (0, .ref (Z.2.1 0)), (1, .int x1), (2, .int x2)]) X dX12_sign_44 (by decide) (fun _ => rfl) hF (fun v1 hF => ?_)
  refine j_iconst (pc := 46) 3 X dX12_sign_46 rfl ?_
  refine j_istore (pc := 47) (fun y => [(5, .int y), (4, .int v1), (0, .ref (Z.2.1 0)), (1, .int x1), (2, .int x2)]) X dX12_sign_47 (by decide) (fun _ => rfl) hF (fun v2 hF => ?_)
  refine j_iload (pc := 49) 1 X dX12_sign_49 rfl ?_
  refine j_if_le (pc := 51) 61 X dX12_sign_51 rfl hF (fun hF => ?_) (fun hF => ?_)
  · refine j_iload_n (pc := 61) 4 X dX12_sign_61 rfl ?_
    refine j_bipush (pc := 62) 59 X dX12_sign_62 rfl ?_
    refine j_icmp_ne (pc := 64) 73 X dX12_sign_64 rfl hF (fun hF => ?_) (fun hF => ?_)
    · refine j_iload_n (pc := 73) 4 X dX12_sign_73 rfl ?_
      refine j_bipush (pc := 74) 40 X dX12_sign_74 rfl ?_
      refine j_icmp_ne (pc := 76) 86 X dX12_sign_76 rfl hF (fun hF => ?_) (fun hF => ?_)
      · refine j_iload_n (pc := 86) 4 X dX12_sign_86 rfl ?_
        refine j_bipush (pc := 87) 41 X dX12_sign_87 rfl ?_
        refine j_icmp_ne (pc := 89) 99 X dX12_sign_89 rfl hF (fun hF => ?_) (fun hF => ?_)
        · refine j_iload_n (pc := 99) 4 X dX12_sign_99 rfl ?_
          refine j_bipush (pc := 100) 43 X dX12_sign_100 rfl ?_
          refine j_icmp_ne (pc := 102) 112 X dX12_sign_102 rfl hF (fun hF => ?_) (fun hF => ?_)
          · refine j_iload_n (pc := 112) 4 X dX12_sign_112 rfl ?_
            refine j_bipush (pc := 113) 45 X dX12_sign_113 rfl ?_
            refine j_icmp_ne (pc := 115) 125 X dX12_sign_115 rfl hF (fun hF => ?_) (fun hF => ?_)
            · refine j_iload_n (pc := 125) 4 X dX12_sign_125 rfl ?_
              refine j_bipush (pc := 126) 42 X dX12_sign_126 rfl ?_
              refine j_icmp_ne (pc := 128) 138 X dX12_sign_128 rfl hF (fun hF => ?_) (fun hF => ?_)
              · refine j_iload_n (pc := 138) 4 X dX12_sign_138 rfl ?_
                refine j_bipush (pc := 139) 60 X dX12_sign_139 rfl ?_
                refine j_icmp_ne (pc := 141) 151 X dX12_sign_141 rfl hF (fun hF => ?_) (fun hF => ?_)
                · refine j_iload_n (pc := 151) 4 X dX12_sign_151 rfl ?_
                  refine j_bipush (pc := 152) 47 X dX12_sign_152 rfl ?_
                  refine j_icmp_ne (pc := 154) 164 X dX12_sign_154 rfl hF (fun hF => ?_) (fun hF => ?_)
                  · refine j_iload_n (pc := 164) 4 X dX12_sign_164 rfl ?_
                    refine j_bipush (pc := 165) 61 X dX12_sign_165 rfl ?_
                    refine j_icmp_ne (pc := 167) 174 X dX12_sign_167 rfl hF (fun hF => ?_) (fun hF => ?_)
                    · refine j_lv [(0, .ref (Z.2.1 0)), (1, .int x1), (4, .int v1), (5, .int v2)] [2, 3, 1, 0] rfl ?_
                      exact BX12_sign_174 X E hz x1 v1 v2 h hF
                    · refine j_bipush (pc := 170) 16 X dX12_sign_170 rfl ?_
                      refine j_istore (pc := 172) (fun y => [(5, .int y), (4, .int v1), (0, .ref (Z.2.1 0)), (1, .int x1), (2, .int x2)]) X dX12_sign_172 (by decide) (fun _ => rfl) hF (fun v3 hF => ?_)
                      refine j_lv [(0, .ref (Z.2.1 0)), (1, .int x1), (4, .int v1), (5, .int v3)] [2, 3, 1, 0] rfl ?_
                      exact BX12_sign_174 X E hz x1 v1 v3 h hF
                  · refine j_bipush (pc := 157) 15 X dX12_sign_157 rfl ?_
                    refine j_istore (pc := 159) (fun y => [(5, .int y), (4, .int v1), (0, .ref (Z.2.1 0)), (1, .int x1), (2, .int x2)]) X dX12_sign_159 (by decide) (fun _ => rfl) hF (fun v4 hF => ?_)
                    refine j_goto (pc := 161) 174 X dX12_sign_161 rfl ?_
                    refine j_lv [(0, .ref (Z.2.1 0)), (1, .int x1), (4, .int v1), (5, .int v4)] [2, 3, 1, 0] rfl ?_
                    exact BX12_sign_174 X E hz x1 v1 v4 h hF
                · refine j_bipush (pc := 144) 13 X dX12_sign_144 rfl ?_
                  refine j_istore (pc := 146) (fun y => [(5, .int y), (4, .int v1), (0, .ref (Z.2.1 0)), (1, .int x1), (2, .int x2)]) X dX12_sign_146 (by decide) (fun _ => rfl) hF (fun v5 hF => ?_)
                  refine j_goto (pc := 148) 174 X dX12_sign_148 rfl ?_
                  refine j_lv [(0, .ref (Z.2.1 0)), (1, .int x1), (4, .int v1), (5, .int v5)] [2, 3, 1, 0] rfl ?_
                  exact BX12_sign_174 X E hz x1 v1 v5 h hF
              · refine j_bipush (pc := 131) 10 X dX12_sign_131 rfl ?_
                refine j_istore (pc := 133) (fun y => [(5, .int y), (4, .int v1), (0, .ref (Z.2.1 0)), (1, .int x1), (2, .int x2)]) X dX12_sign_133 (by decide) (fun _ => rfl) hF (fun v6 hF => ?_)
                refine j_goto (pc := 135) 174 X dX12_sign_135 rfl ?_
                refine j_lv [(0, .ref (Z.2.1 0)), (1, .int x1), (4, .int v1), (5, .int v6)] [2, 3, 1, 0] rfl ?_
                exact BX12_sign_174 X E hz x1 v1 v6 h hF
            · refine j_bipush (pc := 118) 9 X dX12_sign_118 rfl ?_
              refine j_istore (pc := 120) (fun y => [(5, .int y), (4, .int v1), (0, .ref (Z.2.1 0)), (1, .int x1), (2, .int x2)]) X dX12_sign_120 (by decide) (fun _ => rfl) hF (fun v7 hF => ?_)
              refine j_goto (pc := 122) 174 X dX12_sign_122 rfl ?_
              refine j_lv [(0, .ref (Z.2.1 0)), (1, .int x1), (4, .int v1), (5, .int v7)] [2, 3, 1, 0] rfl ?_
              exact BX12_sign_174 X E hz x1 v1 v7 h hF
          · refine j_bipush (pc := 105) 8 X dX12_sign_105 rfl ?_
            refine j_istore (pc := 107) (fun y => [(5, .int y), (4, .int v1), (0, .ref (Z.2.1 0)), (1, .int x1), (2, .int x2)]) X dX12_sign_107 (by decide) (fun _ => rfl) hF (fun v8 hF => ?_)
            refine j_goto (pc := 109) 174 X dX12_sign_109 rfl ?_
            refine j_lv [(0, .ref (Z.2.1 0)), (1, .int x1), (4, .int v1), (5, .int v8)] [2, 3, 1, 0] rfl ?_
            exact BX12_sign_174 X E hz x1 v1 v8 h hF
        · refine j_bipush (pc := 92) 7 X dX12_sign_92 rfl ?_
          refine j_istore (pc := 94) (fun y => [(5, .int y), (4, .int v1), (0, .ref (Z.2.1 0)), (1, .int x1), (2, .int x2)]) X dX12_sign_94 (by decide) (fun _ => rfl) hF (fun v9 hF => ?_)
          refine j_goto (pc := 96) 174 X dX12_sign_96 rfl ?_
          refine j_lv [(0, .ref (Z.2.1 0)), (1, .int x1), (4, .int v1), (5, .int v9)] [2, 3, 1, 0] rfl ?_
          exact BX12_sign_174 X E hz x1 v1 v9 h hF
      · refine j_bipush (pc := 79) 6 X dX12_sign_79 rfl ?_
        refine j_istore (pc := 81) (fun y => [(5, .int y), (4, .int v1), (0, .ref (Z.2.1 0)), (1, .int x1), (2, .int x2)]) X dX12_sign_81 (by decide) (fun _ => rfl) hF (fun v10 hF => ?_)
        refine j_goto (pc := 83) 174 X dX12_sign_83 rfl ?_
        refine j_lv [(0, .ref (Z.2.1 0)), (1, .int x1), (4, .int v1), (5, .int v10)] [2, 3, 1, 0] rfl ?_
        exact BX12_sign_174 X E hz x1 v1 v10 h hF
    · refine j_iconst (pc := 67) 4 X dX12_sign_67 rfl ?_
      refine j_istore (pc := 68) (fun y => [(5, .int y), (4, .int v1), (0, .ref (Z.2.1 0)), (1, .int x1), (2, .int x2)]) X dX12_sign_68 (by decide) (fun _ => rfl) hF (fun v11 hF => ?_)
      refine j_goto (pc := 70) 174 X dX12_sign_70 rfl ?_
      refine j_lv [(0, .ref (Z.2.1 0)), (1, .int x1), (4, .int v1), (5, .int v11)] [2, 3, 1, 0] rfl ?_
      exact BX12_sign_174 X E hz x1 v1 v11 h hF
  · refine j_iload (pc := 54) 1 X dX12_sign_54 rfl ?_
    refine j_istore (pc := 56) (fun y => [(5, .int y), (4, .int v1), (0, .ref (Z.2.1 0)), (1, .int x1), (2, .int x2)]) X dX12_sign_56 (by decide) (fun _ => rfl) hF (fun v12 hF => ?_)
    refine j_goto (pc := 58) 174 X dX12_sign_58 rfl ?_
    refine j_lv [(0, .ref (Z.2.1 0)), (1, .int x1), (4, .int v1), (5, .int v12)] [2, 3, 1, 0] rfl ?_
    exact BX12_sign_174 X E hz x1 v1 v12 h hF
def fX12_sign (a1 : Int32) (a2 : Int32) (a3 : Int32) (h : Hp) : Option (Int32 × Hp) := (if a3 = 61 then (if a2 = 61 then bX12_sign_44 a1 a2 11 h else (if a2 = 33 then bX12_sign_44 a1 a2 12 h else (if a2 = 60 then bX12_sign_44 a1 a2 14 h else bX12_sign_44 a1 a2 0 h))) else bX12_sign_44 a1 a2 0 h)
set_option maxRecDepth 20000 in
theorem tX12_sign (Z : ZT) (a1 : Int32) (a2 : Int32) (a3 : Int32) (hz : HZM Z) (h : Hp) (r : Int32) (hr : Hp) (hF : fX12_sign a1 a2 a3 h = some (r, hr)) : MC Z yX12_sign cX12_sign 6 (some .int) 1 [.ref (Z.2.1 0), .int a1, .int a2, .int a3] h (some (.int r)) hr := by
  unfold fX12_sign at hF
  refine mc_start (by decide) (Nat.le_of_ble_eq_true rfl) (fun G X E => ?_)
  refine j_iload_n (pc := 0) 3 X dX12_sign_0 rfl ?_
  refine j_bipush (pc := 1) 61 X dX12_sign_1 rfl ?_
  refine j_icmp_eq (pc := 3) 10 X dX12_sign_3 rfl hF (fun hF => ?_) (fun hF => ?_)
  · refine j_iload_n (pc := 10) 2 X dX12_sign_10 rfl ?_
    refine j_bipush (pc := 11) 61 X dX12_sign_11 rfl ?_
    refine j_icmp_ne (pc := 13) 21 X dX12_sign_13 rfl hF (fun hF => ?_) (fun hF => ?_)
    · refine j_iload_n (pc := 21) 2 X dX12_sign_21 rfl ?_
      refine j_bipush (pc := 22) 33 X dX12_sign_22 rfl ?_
      refine j_icmp_ne (pc := 24) 32 X dX12_sign_24 rfl hF (fun hF => ?_) (fun hF => ?_)
      · refine j_iload_n (pc := 32) 2 X dX12_sign_32 rfl ?_
        refine j_bipush (pc := 33) 60 X dX12_sign_33 rfl ?_
        refine j_icmp_ne (pc := 35) 43 X dX12_sign_35 rfl hF (fun hF => ?_) (fun hF => ?_)
        · refine j_iconst (pc := 43) 0 X dX12_sign_43 rfl ?_
          refine j_lv [(0, .ref (Z.2.1 0)), (1, .int a1), (2, .int a2)] [0, 1, 2] rfl ?_
          exact BX12_sign_44 X E hz a1 a2 0 h hF
        · refine j_bipush (pc := 38) 14 X dX12_sign_38 rfl ?_
          refine j_goto (pc := 40) 44 X dX12_sign_40 rfl ?_
          refine j_lv [(0, .ref (Z.2.1 0)), (1, .int a1), (2, .int a2)] [0, 1, 2] rfl ?_
          exact BX12_sign_44 X E hz a1 a2 14 h hF
      · refine j_bipush (pc := 27) 12 X dX12_sign_27 rfl ?_
        refine j_goto (pc := 29) 44 X dX12_sign_29 rfl ?_
        refine j_lv [(0, .ref (Z.2.1 0)), (1, .int a1), (2, .int a2)] [0, 1, 2] rfl ?_
        exact BX12_sign_44 X E hz a1 a2 12 h hF
    · refine j_bipush (pc := 16) 11 X dX12_sign_16 rfl ?_
      refine j_goto (pc := 18) 44 X dX12_sign_18 rfl ?_
      refine j_lv [(0, .ref (Z.2.1 0)), (1, .int a1), (2, .int a2)] [0, 1, 2] rfl ?_
      exact BX12_sign_44 X E hz a1 a2 11 h hF
  · refine j_iconst (pc := 6) 0 X dX12_sign_6 rfl ?_
    refine j_goto (pc := 7) 44 X dX12_sign_7 rfl ?_
    refine j_lv [(0, .ref (Z.2.1 0)), (1, .int a1), (2, .int a2)] [0, 1, 2] rfl ?_
    exact BX12_sign_44 X E hz a1 a2 0 h hF
theorem dX12_cut_0 : decode cX12_cut 0 = .ok (.aload_n 0, 1) := by decide +kernel
theorem dX12_cut_1 : decode cX12_cut 1 = .ok (.iconst 0, 1) := by decide +kernel
theorem dX12_cut_2 : decode cX12_cut 2 = .ok (.putfield 232, 3) := by decide +kernel
theorem dX12_cut_5 : decode cX12_cut 5 = .ok (.iconst 0, 1) := by decide +kernel
theorem dX12_cut_6 : decode cX12_cut 6 = .ok (.istore_n 1, 1) := by decide +kernel
theorem dX12_cut_7 : decode cX12_cut 7 = .ok (.aload_n 0, 1) := by decide +kernel
theorem dX12_cut_8 : decode cX12_cut 8 = .ok (.getfield 232, 3) := by decide +kernel
theorem dX12_cut_11 : decode cX12_cut 11 = .ok (.sipush 400, 3) := by decide +kernel
theorem dX12_cut_14 : decode cX12_cut 14 = .ok (.if_icmp .gt 280, 3) := by decide +kernel
theorem dX12_cut_17 : decode cX12_cut 17 = .ok (.aload_n 0, 1) := by decide +kernel
theorem dX12_cut_18 : decode cX12_cut 18 = .ok (.iload_n 1, 1) := by decide +kernel
theorem dX12_cut_19 : decode cX12_cut 19 = .ok (.invokevirtual 235, 3) := by decide +kernel
theorem dX12_cut_22 : decode cX12_cut 22 = .ok (.istore_n 2, 1) := by decide +kernel
theorem dX12_cut_23 : decode cX12_cut 23 = .ok (.iload_n 1, 1) := by decide +kernel
theorem dX12_cut_24 : decode cX12_cut 24 = .ok (.aload_n 0, 1) := by decide +kernel
theorem dX12_cut_25 : decode cX12_cut 25 = .ok (.getfield 223, 3) := by decide +kernel
theorem dX12_cut_28 : decode cX12_cut 28 = .ok (.if_icmp .lt 15, 3) := by decide +kernel
theorem dX12_cut_31 : decode cX12_cut 31 = .ok (.aload_n 0, 1) := by decide +kernel
theorem dX12_cut_32 : decode cX12_cut 32 = .ok (.iconst 0, 1) := by decide +kernel
theorem dX12_cut_33 : decode cX12_cut 33 = .ok (.aload_n 0, 1) := by decide +kernel
theorem dX12_cut_34 : decode cX12_cut 34 = .ok (.getfield 223, 3) := by decide +kernel
theorem dX12_cut_37 : decode cX12_cut 37 = .ok (.iconst 0, 1) := by decide +kernel
theorem dX12_cut_38 : decode cX12_cut 38 = .ok (.lconst 0, 1) := by decide +kernel
theorem dX12_cut_39 : decode cX12_cut 39 = .ok (.invokevirtual 239, 3) := by decide +kernel
theorem dX12_cut_42 : decode cX12_cut 42 = .ok (.return_, 1) := by decide +kernel
theorem dX12_cut_43 : decode cX12_cut 43 = .ok (.iload_n 2, 1) := by decide +kernel
theorem dX12_cut_44 : decode cX12_cut 44 = .ok (.bipush 9, 2) := by decide +kernel
theorem dX12_cut_46 : decode cX12_cut 46 = .ok (.if_icmp .eq 21, 3) := by decide +kernel
theorem dX12_cut_49 : decode cX12_cut 49 = .ok (.iload_n 2, 1) := by decide +kernel
theorem dX12_cut_50 : decode cX12_cut 50 = .ok (.bipush 10, 2) := by decide +kernel
theorem dX12_cut_52 : decode cX12_cut 52 = .ok (.if_icmp .eq 15, 3) := by decide +kernel
theorem dX12_cut_55 : decode cX12_cut 55 = .ok (.iload_n 2, 1) := by decide +kernel
theorem dX12_cut_56 : decode cX12_cut 56 = .ok (.bipush 13, 2) := by decide +kernel
theorem dX12_cut_58 : decode cX12_cut 58 = .ok (.if_icmp .eq 9, 3) := by decide +kernel
theorem dX12_cut_61 : decode cX12_cut 61 = .ok (.iload_n 2, 1) := by decide +kernel
theorem dX12_cut_62 : decode cX12_cut 62 = .ok (.bipush 32, 2) := by decide +kernel
theorem dX12_cut_64 : decode cX12_cut 64 = .ok (.if_icmp .ne 9, 3) := by decide +kernel
theorem dX12_cut_67 : decode cX12_cut 67 = .ok (.iinc 1 1, 3) := by decide +kernel
theorem dX12_cut_70 : decode cX12_cut 70 = .ok (.goto 221, 3) := by decide +kernel
theorem dX12_cut_73 : decode cX12_cut 73 = .ok (.iload_n 2, 1) := by decide +kernel
theorem dX12_cut_74 : decode cX12_cut 74 = .ok (.invokestatic 243, 3) := by decide +kernel
theorem dX12_cut_77 : decode cX12_cut 77 = .ok (.ifCond .eq 119, 3) := by decide +kernel
theorem dX12_cut_80 : decode cX12_cut 80 = .ok (.iconst 0, 1) := by decide +kernel
theorem dX12_cut_81 : decode cX12_cut 81 = .ok (.istore_n 3, 1) := by decide +kernel
theorem dX12_cut_82 : decode cX12_cut 82 = .ok (.lconst 0, 1) := by decide +kernel
theorem dX12_cut_83 : decode cX12_cut 83 = .ok (.lstore 4, 2) := by decide +kernel
theorem dX12_cut_85 : decode cX12_cut 85 = .ok (.aload_n 0, 1) := by decide +kernel
theorem dX12_cut_86 : decode cX12_cut 86 = .ok (.iload_n 1, 1) := by decide +kernel
theorem dX12_cut_87 : decode cX12_cut 87 = .ok (.iload_n 3, 1) := by decide +kernel
theorem dX12_cut_88 : decode cX12_cut 88 = .ok (.iadd, 1) := by decide +kernel
theorem dX12_cut_89 : decode cX12_cut 89 = .ok (.invokevirtual 235, 3) := by decide +kernel
theorem dX12_cut_92 : decode cX12_cut 92 = .ok (.invokestatic 243, 3) := by decide +kernel
theorem dX12_cut_95 : decode cX12_cut 95 = .ok (.ifCond .eq 29, 3) := by decide +kernel
theorem dX12_cut_98 : decode cX12_cut 98 = .ok (.iload_n 3, 1) := by decide +kernel
theorem dX12_cut_99 : decode cX12_cut 99 = .ok (.bipush 8, 2) := by decide +kernel
theorem dX12_cut_101 : decode cX12_cut 101 = .ok (.if_icmp .ge 17, 3) := by decide +kernel
theorem dX12_cut_104 : decode cX12_cut 104 = .ok (.lload 4, 2) := by decide +kernel
theorem dX12_cut_106 : decode cX12_cut 106 = .ok (.aload_n 0, 1) := by decide +kernel
theorem dX12_cut_107 : decode cX12_cut 107 = .ok (.iload_n 1, 1) := by decide +kernel
theorem dX12_cut_108 : decode cX12_cut 108 = .ok (.iload_n 3, 1) := by decide +kernel
theorem dX12_cut_109 : decode cX12_cut 109 = .ok (.iadd, 1) := by decide +kernel
theorem dX12_cut_110 : decode cX12_cut 110 = .ok (.invokevirtual 235, 3) := by decide +kernel
theorem dX12_cut_113 : decode cX12_cut 113 = .ok (.invokestatic 228, 3) := by decide +kernel
theorem dX12_cut_116 : decode cX12_cut 116 = .ok (.lstore 4, 2) := by decide +kernel
theorem dX12_cut_118 : decode cX12_cut 118 = .ok (.iinc 3 1, 3) := by decide +kernel
theorem dX12_cut_121 : decode cX12_cut 121 = .ok (.goto (-36), 3) := by decide +kernel
theorem dX12_cut_124 : decode cX12_cut 124 = .ok (.iload_n 3, 1) := by decide +kernel
theorem dX12_cut_125 : decode cX12_cut 125 = .ok (.bipush 8, 2) := by decide +kernel
theorem dX12_cut_127 : decode cX12_cut 127 = .ok (.if_icmp .le 7, 3) := by decide +kernel
theorem dX12_cut_130 : decode cX12_cut 130 = .ok (.iconst 3, 1) := by decide +kernel
theorem dX12_cut_131 : decode cX12_cut 131 = .ok (.goto 4, 3) := by decide +kernel
theorem dX12_cut_134 : decode cX12_cut 134 = .ok (.iconst 1, 1) := by decide +kernel
theorem dX12_cut_135 : decode cX12_cut 135 = .ok (.istore 6, 2) := by decide +kernel
theorem dX12_cut_137 : decode cX12_cut 137 = .ok (.iload_n 3, 1) := by decide +kernel
theorem dX12_cut_138 : decode cX12_cut 138 = .ok (.bipush 7, 2) := by decide +kernel
theorem dX12_cut_140 : decode cX12_cut 140 = .ok (.if_icmp .gt 39, 3) := by decide +kernel
theorem dX12_cut_143 : decode cX12_cut 143 = .ok (.iconst 0, 1) := by decide +kernel
theorem dX12_cut_144 : decode cX12_cut 144 = .ok (.istore 7, 2) := by decide +kernel
theorem dX12_cut_146 : decode cX12_cut 146 = .ok (.iload 7, 2) := by decide +kernel
theorem dX12_cut_148 : decode cX12_cut 148 = .ok (.bipush 18, 2) := by decide +kernel
theorem dX12_cut_150 : decode cX12_cut 150 = .ok (.if_icmp .ge 29, 3) := by decide +kernel
theorem dX12_cut_153 : decode cX12_cut 153 = .ok (.aload_n 0, 1) := by decide +kernel
theorem dX12_cut_154 : decode cX12_cut 154 = .ok (.getfield 34, 3) := by decide +kernel
theorem dX12_cut_157 : decode cX12_cut 157 = .ok (.iload 7, 2) := by decide +kernel
theorem dX12_cut_159 : decode cX12_cut 159 = .ok (.laload, 1) := by decide +kernel
theorem dX12_cut_160 : decode cX12_cut 160 = .ok (.lload 4, 2) := by decide +kernel
theorem dX12_cut_162 : decode cX12_cut 162 = .ok (.lcmp, 1) := by decide +kernel
theorem dX12_cut_163 : decode cX12_cut 163 = .ok (.ifCond .ne 10, 3) := by decide +kernel
theorem dX12_cut_166 : decode cX12_cut 166 = .ok (.bipush 20, 2) := by decide +kernel
theorem dX12_cut_168 : decode cX12_cut 168 = .ok (.iload 7, 2) := by decide +kernel
theorem dX12_cut_170 : decode cX12_cut 170 = .ok (.iadd, 1) := by decide +kernel
theorem dX12_cut_171 : decode cX12_cut 171 = .ok (.istore 6, 2) := by decide +kernel
theorem dX12_cut_173 : decode cX12_cut 173 = .ok (.iinc 7 1, 3) := by decide +kernel
theorem dX12_cut_176 : decode cX12_cut 176 = .ok (.goto (-30), 3) := by decide +kernel
theorem dX12_cut_179 : decode cX12_cut 179 = .ok (.aload_n 0, 1) := by decide +kernel
theorem dX12_cut_180 : decode cX12_cut 180 = .ok (.iload 6, 2) := by decide +kernel
theorem dX12_cut_182 : decode cX12_cut 182 = .ok (.iload_n 1, 1) := by decide +kernel
theorem dX12_cut_183 : decode cX12_cut 183 = .ok (.iconst 0, 1) := by decide +kernel
theorem dX12_cut_184 : decode cX12_cut 184 = .ok (.lload 4, 2) := by decide +kernel
theorem dX12_cut_186 : decode cX12_cut 186 = .ok (.invokevirtual 239, 3) := by decide +kernel
theorem dX12_cut_189 : decode cX12_cut 189 = .ok (.iload_n 1, 1) := by decide +kernel
theorem dX12_cut_190 : decode cX12_cut 190 = .ok (.iload_n 3, 1) := by decide +kernel
theorem dX12_cut_191 : decode cX12_cut 191 = .ok (.iadd, 1) := by decide +kernel
theorem dX12_cut_192 : decode cX12_cut 192 = .ok (.istore_n 1, 1) := by decide +kernel
theorem dX12_cut_193 : decode cX12_cut 193 = .ok (.goto 98, 3) := by decide +kernel
theorem dX12_cut_196 : decode cX12_cut 196 = .ok (.iload_n 2, 1) := by decide +kernel
theorem dX12_cut_197 : decode cX12_cut 197 = .ok (.invokestatic 247, 3) := by decide +kernel
theorem dX12_cut_200 : decode cX12_cut 200 = .ok (.ifCond .eq 75, 3) := by decide +kernel
theorem dX12_cut_203 : decode cX12_cut 203 = .ok (.iconst 0, 1) := by decide +kernel
theorem dX12_cut_204 : decode cX12_cut 204 = .ok (.istore_n 3, 1) := by decide +kernel
theorem dX12_cut_205 : decode cX12_cut 205 = .ok (.iconst 0, 1) := by decide +kernel
theorem dX12_cut_206 : decode cX12_cut 206 = .ok (.istore 4, 2) := by decide +kernel
theorem dX12_cut_208 : decode cX12_cut 208 = .ok (.aload_n 0, 1) := by decide +kernel
theorem dX12_cut_209 : decode cX12_cut 209 = .ok (.iload_n 1, 1) := by decide +kernel
theorem dX12_cut_210 : decode cX12_cut 210 = .ok (.iload_n 3, 1) := by decide +kernel
theorem dX12_cut_211 : decode cX12_cut 211 = .ok (.iadd, 1) := by decide +kernel
theorem dX12_cut_212 : decode cX12_cut 212 = .ok (.invokevirtual 235, 3) := by decide +kernel
theorem dX12_cut_215 : decode cX12_cut 215 = .ok (.invokestatic 247, 3) := by decide +kernel
theorem dX12_cut_218 : decode cX12_cut 218 = .ok (.ifCond .eq 32, 3) := by decide +kernel
theorem dX12_cut_221 : decode cX12_cut 221 = .ok (.iload_n 3, 1) := by decide +kernel
theorem dX12_cut_222 : decode cX12_cut 222 = .ok (.iconst 4, 1) := by decide +kernel
theorem dX12_cut_223 : decode cX12_cut 223 = .ok (.if_icmp .ge 21, 3) := by decide +kernel
theorem dX12_cut_226 : decode cX12_cut 226 = .ok (.bipush 10, 2) := by decide +kernel
theorem dX12_cut_228 : decode cX12_cut 228 = .ok (.iload 4, 2) := by decide +kernel
theorem dX12_cut_230 : decode cX12_cut 230 = .ok (.imul, 1) := by decide +kernel
theorem dX12_cut_231 : decode cX12_cut 231 = .ok (.aload_n 0, 1) := by decide +kernel
theorem dX12_cut_232 : decode cX12_cut 232 = .ok (.iload_n 1, 1) := by decide +kernel
theorem dX12_cut_233 : decode cX12_cut 233 = .ok (.iload_n 3, 1) := by decide +kernel
theorem dX12_cut_234 : decode cX12_cut 234 = .ok (.iadd, 1) := by decide +kernel
theorem dX12_cut_235 : decode cX12_cut 235 = .ok (.invokevirtual 235, 3) := by decide +kernel
theorem dX12_cut_238 : decode cX12_cut 238 = .ok (.iadd, 1) := by decide +kernel
theorem dX12_cut_239 : decode cX12_cut 239 = .ok (.bipush 48, 2) := by decide +kernel
theorem dX12_cut_241 : decode cX12_cut 241 = .ok (.isub, 1) := by decide +kernel
theorem dX12_cut_242 : decode cX12_cut 242 = .ok (.istore 4, 2) := by decide +kernel
theorem dX12_cut_244 : decode cX12_cut 244 = .ok (.iinc 3 1, 3) := by decide +kernel
theorem dX12_cut_247 : decode cX12_cut 247 = .ok (.goto (-39), 3) := by decide +kernel
theorem dX12_cut_250 : decode cX12_cut 250 = .ok (.aload_n 0, 1) := by decide +kernel
theorem dX12_cut_251 : decode cX12_cut 251 = .ok (.iload_n 3, 1) := by decide +kernel
theorem dX12_cut_252 : decode cX12_cut 252 = .ok (.iconst 4, 1) := by decide +kernel
theorem dX12_cut_253 : decode cX12_cut 253 = .ok (.if_icmp .le 7, 3) := by decide +kernel
theorem dX12_cut_256 : decode cX12_cut 256 = .ok (.iconst 3, 1) := by decide +kernel
theorem dX12_cut_257 : decode cX12_cut 257 = .ok (.goto 4, 3) := by decide +kernel
theorem dX12_cut_260 : decode cX12_cut 260 = .ok (.iconst 2, 1) := by decide +kernel
theorem dX12_cut_261 : decode cX12_cut 261 = .ok (.iload_n 1, 1) := by decide +kernel
theorem dX12_cut_262 : decode cX12_cut 262 = .ok (.iload 4, 2) := by decide +kernel
theorem dX12_cut_264 : decode cX12_cut 264 = .ok (.lconst 0, 1) := by decide +kernel
theorem dX12_cut_265 : decode cX12_cut 265 = .ok (.invokevirtual 239, 3) := by decide +kernel
theorem dX12_cut_268 : decode cX12_cut 268 = .ok (.iload_n 1, 1) := by decide +kernel
theorem dX12_cut_269 : decode cX12_cut 269 = .ok (.iload_n 3, 1) := by decide +kernel
theorem dX12_cut_270 : decode cX12_cut 270 = .ok (.iadd, 1) := by decide +kernel
theorem dX12_cut_271 : decode cX12_cut 271 = .ok (.istore_n 1, 1) := by decide +kernel
theorem dX12_cut_272 : decode cX12_cut 272 = .ok (.goto 19, 3) := by decide +kernel
theorem dX12_cut_275 : decode cX12_cut 275 = .ok (.iload_n 1, 1) := by decide +kernel
theorem dX12_cut_276 : decode cX12_cut 276 = .ok (.aload_n 0, 1) := by decide +kernel
theorem dX12_cut_277 : decode cX12_cut 277 = .ok (.iload_n 1, 1) := by decide +kernel
theorem dX12_cut_278 : decode cX12_cut 278 = .ok (.iload_n 2, 1) := by decide +kernel
theorem dX12_cut_279 : decode cX12_cut 279 = .ok (.aload_n 0, 1) := by decide +kernel
theorem dX12_cut_280 : decode cX12_cut 280 = .ok (.iload_n 1, 1) := by decide +kernel
theorem dX12_cut_281 : decode cX12_cut 281 = .ok (.iconst 1, 1) := by decide +kernel
theorem dX12_cut_282 : decode cX12_cut 282 = .ok (.iadd, 1) := by decide +kernel
theorem dX12_cut_283 : decode cX12_cut 283 = .ok (.invokevirtual 235, 3) := by decide +kernel
theorem dX12_cut_286 : decode cX12_cut 286 = .ok (.invokevirtual 250, 3) := by decide +kernel
theorem dX12_cut_289 : decode cX12_cut 289 = .ok (.iadd, 1) := by decide +kernel
theorem dX12_cut_290 : decode cX12_cut 290 = .ok (.istore_n 1, 1) := by decide +kernel
theorem dX12_cut_291 : decode cX12_cut 291 = .ok (.goto (-284), 3) := by decide +kernel
theorem dX12_cut_294 : decode cX12_cut 294 = .ok (.return_, 1) := by decide +kernel
def bX12_cut_291  (r7 : Int32 → Hp → Option (Hp)) (x1 : Int32) (h : Hp) : Option (Hp) := r7 x1 h
set_option maxRecDepth 20000 in
theorem BX12_cut_291 {Z : ZT} {G : GT} {hr : Hp} (X : CX Z G cX12_cut RX12 8 2) (E : RX Z G none (none) hr) (hz : HZM Z) (r7 : Int32 → Hp → Option (Hp)) (hr7 : ∀ (x1 : Int32) (h : Hp), r7 x1 h = some hr → J Z G 8 h 7 [(0, .ref (Z.2.1 0)), (1, .int x1)] []) (x1 : Int32) (h : Hp) (hF : bX12_cut_291  r7 x1 h = some hr) : J Z G 8 h 291 [(0, .ref (Z.2.1 0)), (1, .int x1)] [] := by
  unfold bX12_cut_291 at hF
  refine j_goto (pc := 291) 7 X dX12_cut_291 rfl ?_
  exact hr7 x1 h hF
def bX12_cut_67  (r7 : Int32 → Hp → Option (Hp)) (x1 : Int32) (h : Hp) : Option (Hp) := lt (x1 + 1) (fun v1 => bX12_cut_291 r7 v1 h)
set_option maxRecDepth 20000 in
theorem BX12_cut_67 {Z : ZT} {G : GT} {hr : Hp} (X : CX Z G cX12_cut RX12 8 2) (E : RX Z G none (none) hr) (hz : HZM Z) (r7 : Int32 → Hp → Option (Hp)) (hr7 : ∀ (x1 : Int32) (h : Hp), r7 x1 h = some hr → J Z G 8 h 7 [(0, .ref (Z.2.1 0)), (1, .int x1)] []) (x1 : Int32) (h : Hp) (hF : bX12_cut_67  r7 x1 h = some hr) : J Z G 8 h 67 [(0, .ref (Z.2.1 0)), (1, .int x1)] [] := by
  unfold bX12_cut_67 at hF
  refine j_iinc (pc := 67) 1 (x1 + 1) (fun y => [(1, .int y), (0, .ref (Z.2.1 0))]) X dX12_cut_67 rfl rfl (by decide) (fun _ => rfl) hF (fun v1 hF => ?_)
  refine j_goto (pc := 70) 291 X dX12_cut_70 rfl ?_
  refine j_lv [(0, .ref (Z.2.1 0)), (1, .int v1)] [1, 0] rfl ?_
  exact BX12_cut_291 X E hz r7 hr7 v1 h hF
def bX12_cut_118  (r7 : Int32 → Hp → Option (Hp)) (r85 : Int32 → Int32 → Int64 → Hp → Option (Hp)) (x1 : Int32) (x3 : Int32) (x4 : Int64) (h : Hp) : Option (Hp) := lt (x3 + 1) (fun v1 => r85 x1 v1 x4 h)
set_option maxRecDepth 20000 in
theorem BX12_cut_118 {Z : ZT} {G : GT} {hr : Hp} (X : CX Z G cX12_cut RX12 8 2) (E : RX Z G none (none) hr) (hz : HZM Z) (r7 : Int32 → Hp → Option (Hp)) (hr7 : ∀ (x1 : Int32) (h : Hp), r7 x1 h = some hr → J Z G 8 h 7 [(0, .ref (Z.2.1 0)), (1, .int x1)] []) (r85 : Int32 → Int32 → Int64 → Hp → Option (Hp)) (hr85 : ∀ (x1 : Int32) (x3 : Int32) (x4 : Int64) (h : Hp), r85 x1 x3 x4 h = some hr → J Z G 8 h 85 [(0, .ref (Z.2.1 0)), (1, .int x1), (3, .int x3), (4, .long x4)] []) (x1 : Int32) (x3 : Int32) (x4 : Int64) (h : Hp) (hF : bX12_cut_118  r7 r85 x1 x3 x4 h = some hr) : J Z G 8 h 118 [(0, .ref (Z.2.1 0)), (1, .int x1), (3, .int x3), (4, .long x4)] [] := by
  unfold bX12_cut_118 at hF
  refine j_iinc (pc := 118) 2 (x3 + 1) (fun y => [(3, .int y), (0, .ref (Z.2.1 0)), (1, .int x1), (4, .long x4)]) X dX12_cut_118 rfl rfl (by decide) (fun _ => rfl) hF (fun v1 hF => ?_)
  refine j_goto (pc := 121) 85 X dX12_cut_121 rfl ?_
  refine j_lv [(0, .ref (Z.2.1 0)), (1, .int x1), (3, .int v1), (4, .long x4)] [1, 2, 0, 3] rfl ?_
  exact hr85 x1 v1 x4 h hF
def bX12_cut_173  (r7 : Int32 → Hp → Option (Hp)) (r146 : Int32 → Int32 → Int64 → Int32 → Int32 → Hp → Option (Hp)) (x1 : Int32) (x3 : Int32) (x4 : Int64) (x6 : Int32) (x7 : Int32) (h : Hp) : Option (Hp) := lt (x7 + 1) (fun v1 => r146 x1 x3 x4 x6 v1 h)
set_option maxRecDepth 20000 in
theorem BX12_cut_173 {Z : ZT} {G : GT} {hr : Hp} (X : CX Z G cX12_cut RX12 8 2) (E : RX Z G none (none) hr) (hz : HZM Z) (r7 : Int32 → Hp → Option (Hp)) (hr7 : ∀ (x1 : Int32) (h : Hp), r7 x1 h = some hr → J Z G 8 h 7 [(0, .ref (Z.2.1 0)), (1, .int x1)] []) (r146 : Int32 → Int32 → Int64 → Int32 → Int32 → Hp → Option (Hp)) (hr146 : ∀ (x1 : Int32) (x3 : Int32) (x4 : Int64) (x6 : Int32) (x7 : Int32) (h : Hp), r146 x1 x3 x4 x6 x7 h = some hr → J Z G 8 h 146 [(0, .ref (Z.2.1 0)), (1, .int x1), (3, .int x3), (4, .long x4), (6, .int x6), (7, .int x7)] []) (x1 : Int32) (x3 : Int32) (x4 : Int64) (x6 : Int32) (x7 : Int32) (h : Hp) (hF : bX12_cut_173  r7 r146 x1 x3 x4 x6 x7 h = some hr) : J Z G 8 h 173 [(0, .ref (Z.2.1 0)), (1, .int x1), (3, .int x3), (4, .long x4), (6, .int x6), (7, .int x7)] [] := by
  unfold bX12_cut_173 at hF
  refine j_iinc (pc := 173) 5 (x7 + 1) (fun y => [(7, .int y), (0, .ref (Z.2.1 0)), (1, .int x1), (3, .int x3), (4, .long x4), (6, .int x6)]) X dX12_cut_173 rfl rfl (by decide) (fun _ => rfl) hF (fun v1 hF => ?_)
  refine j_goto (pc := 176) 146 X dX12_cut_176 rfl ?_
  refine j_lv [(0, .ref (Z.2.1 0)), (1, .int x1), (3, .int x3), (4, .long x4), (6, .int x6), (7, .int v1)] [1, 2, 3, 4, 5, 0] rfl ?_
  exact hr146 x1 x3 x4 x6 v1 h hF
def bX12_cut_179  (r7 : Int32 → Hp → Option (Hp)) (x1 : Int32) (x3 : Int32) (x4 : Int64) (x6 : Int32) (h : Hp) : Option (Hp) := bv (fX12_token x6 x1 0 x4 h) (fun h1 => lt (x1 + x3) (fun v2 => bX12_cut_291 r7 v2 h1))
set_option maxRecDepth 20000 in
theorem BX12_cut_179 {Z : ZT} {G : GT} {hr : Hp} (X : CX Z G cX12_cut RX12 8 2) (E : RX Z G none (none) hr) (hz : HZM Z) (r7 : Int32 → Hp → Option (Hp)) (hr7 : ∀ (x1 : Int32) (h : Hp), r7 x1 h = some hr → J Z G 8 h 7 [(0, .ref (Z.2.1 0)), (1, .int x1)] []) (x1 : Int32) (x3 : Int32) (x4 : Int64) (x6 : Int32) (h : Hp) (hF : bX12_cut_179  r7 x1 x3 x4 x6 h = some hr) : J Z G 8 h 179 [(0, .ref (Z.2.1 0)), (1, .int x1), (3, .int x3), (4, .long x4), (6, .int x6)] [] := by
  unfold bX12_cut_179 at hF
  refine j_aload_n (pc := 179) 0 X dX12_cut_179 rfl ?_
  refine j_iload (pc := 180) 4 X dX12_cut_180 rfl ?_
  refine j_iload_n (pc := 182) 1 X dX12_cut_182 rfl ?_
  refine j_iconst (pc := 183) 0 X dX12_cut_183 rfl ?_
  refine j_lload (pc := 184) 3 X dX12_cut_184 rfl ?_
  refine j_cVv (pc := 186) (As := [.int x6, .int x1, .int 0, .long x4]) (rest := []) X dX12_cut_186 ml_X12_239 ck_X12_token cv_X12_token (hz _ sh_0) rfl (Nat.le_of_ble_eq_true rfl) rfl (Nat.le_of_ble_eq_true rfl) rfl hF (tX12_token Z x6 x1 0 x4 hz h) (fun h1 hF => ?_)
  refine j_iload_n (pc := 189) 1 X dX12_cut_189 rfl ?_
  refine j_iload_n (pc := 190) 2 X dX12_cut_190 rfl ?_
  refine j_iadd (pc := 191) X dX12_cut_191 ?_
  refine j_istore_n (pc := 192) (fun y => [(1, .int y), (0, .ref (Z.2.1 0)), (3, .int x3), (4, .long x4), (6, .int x6)]) X dX12_cut_192 (by decide) (fun _ => rfl) hF (fun v2 hF => ?_)
  refine j_goto (pc := 193) 291 X dX12_cut_193 rfl ?_
  refine j_lv [(0, .ref (Z.2.1 0)), (1, .int v2)] [1, 0] rfl ?_
  exact BX12_cut_291 X E hz r7 hr7 v2 h1 hF
def bX12_cut_146  (r7 : Int32 → Hp → Option (Hp)) (r146 : Int32 → Int32 → Int64 → Int32 → Int32 → Hp → Option (Hp)) (x1 : Int32) (x3 : Int32) (x4 : Int64) (x6 : Int32) (x7 : Int32) (h : Hp) : Option (Hp) := (if 18 ≤ x7 then bX12_cut_179 r7 x1 x3 x4 x6 h else ck (inb x7 18) ((if (lg_cmp (h.2 7 (ix x7)) x4) = 0 then lt ((20 : Int32) + x7) (fun v1 => bX12_cut_173 r7 r146 x1 x3 x4 v1 x7 h) else bX12_cut_173 r7 r146 x1 x3 x4 x6 x7 h)))
def lX12_cut_146  (r7 : Int32 → Hp → Option (Hp)) : Nat → Int32 → Int32 → Int64 → Int32 → Int32 → Hp → Option (Hp)
  | 0 => fun _ _ _ _ _ _ => none
  | n + 1 => bX12_cut_146  r7 (lX12_cut_146  r7 n)
set_option maxRecDepth 20000 in
theorem BX12_cut_146 {Z : ZT} {G : GT} {hr : Hp} (X : CX Z G cX12_cut RX12 8 2) (E : RX Z G none (none) hr) (hz : HZM Z) (r7 : Int32 → Hp → Option (Hp)) (hr7 : ∀ (x1 : Int32) (h : Hp), r7 x1 h = some hr → J Z G 8 h 7 [(0, .ref (Z.2.1 0)), (1, .int x1)] []) (r146 : Int32 → Int32 → Int64 → Int32 → Int32 → Hp → Option (Hp)) (hr146 : ∀ (x1 : Int32) (x3 : Int32) (x4 : Int64) (x6 : Int32) (x7 : Int32) (h : Hp), r146 x1 x3 x4 x6 x7 h = some hr → J Z G 8 h 146 [(0, .ref (Z.2.1 0)), (1, .int x1), (3, .int x3), (4, .long x4), (6, .int x6), (7, .int x7)] []) (x1 : Int32) (x3 : Int32) (x4 : Int64) (x6 : Int32) (x7 : Int32) (h : Hp) (hF : bX12_cut_146  r7 r146 x1 x3 x4 x6 x7 h = some hr) : J Z G 8 h 146 [(0, .ref (Z.2.1 0)), (1, .int x1), (3, .int x3), (4, .long x4), (6, .int x6), (7, .int x7)] [] := by
  unfold bX12_cut_146 at hF
  refine j_iload (pc := 146) 5 X dX12_cut_146 rfl ?_
  refine j_bipush (pc := 148) 18 X dX12_cut_148 rfl ?_
  refine j_icmp_ge (pc := 150) 179 X dX12_cut_150 rfl hF (fun hF => ?_) (fun hF => ?_)
  · refine j_lv [(0, .ref (Z.2.1 0)), (1, .int x1), (3, .int x3), (4, .long x4), (6, .int x6)] [0, 1, 2, 3, 4] rfl ?_
    exact BX12_cut_179 X E hz r7 hr7 x1 x3 x4 x6 h hF
  · refine j_aload_n (pc := 153) 0 X dX12_cut_153 rfl ?_
    refine j_getr (pc := 154) X dX12_cut_154 (hz _ sh_0) fl_X12_34 rfl ?_
    refine j_iload (pc := 157) 5 X dX12_cut_157 rfl ?_
    refine j_lald (pc := 159) X dX12_cut_159 (hz _ sh_7) hF (fun hF => ?_)
    refine j_lload (pc := 160) 3 X dX12_cut_160 rfl ?_
    refine j_lcmp (pc := 162) X dX12_cut_162 ?_
    refine j_if_ne (pc := 163) 173 X dX12_cut_163 rfl hF (fun hF => ?_) (fun hF => ?_)
    · exact BX12_cut_173 X E hz r7 hr7 r146 hr146 x1 x3 x4 x6 x7 h hF
    · refine j_bipush (pc := 166) 20 X dX12_cut_166 rfl ?_
      refine j_iload (pc := 168) 5 X dX12_cut_168 rfl ?_
      refine j_iadd (pc := 170) X dX12_cut_170 ?_
      refine j_istore (pc := 171) (fun y => [(6, .int y), (0, .ref (Z.2.1 0)), (1, .int x1), (3, .int x3), (4, .long x4), (7, .int x7)]) X dX12_cut_171 (by decide) (fun _ => rfl) hF (fun v1 hF => ?_)
      refine j_lv [(0, .ref (Z.2.1 0)), (1, .int x1), (3, .int x3), (4, .long x4), (6, .int v1), (7, .int x7)] [1, 2, 3, 4, 0, 5] rfl ?_
      exact BX12_cut_173 X E hz r7 hr7 r146 hr146 x1 x3 x4 v1 x7 h hF
theorem LX12_cut_146 {Z : ZT} {G : GT} {hr : Hp} (X : CX Z G cX12_cut RX12 8 2) (E : RX Z G none (none) hr) (hz : HZM Z) (r7 : Int32 → Hp → Option (Hp)) (hr7 : ∀ (x1 : Int32) (h : Hp), r7 x1 h = some hr → J Z G 8 h 7 [(0, .ref (Z.2.1 0)), (1, .int x1)] []) : ∀ (n : Nat) (x1 : Int32) (x3 : Int32) (x4 : Int64) (x6 : Int32) (x7 : Int32) (h : Hp), lX12_cut_146  r7 n x1 x3 x4 x6 x7 h = some hr → J Z G 8 h 146 [(0, .ref (Z.2.1 0)), (1, .int x1), (3, .int x3), (4, .long x4), (6, .int x6), (7, .int x7)] [] := by
  intro n
  induction n with
  | zero => intro x1 x3 x4 x6 x7 h hF; cases hF
  | succ n ih => intro x1 x3 x4 x6 x7 h hF; exact BX12_cut_146 X E hz r7 hr7 (lX12_cut_146  r7 n) ih x1 x3 x4 x6 x7 h hF
def bX12_cut_135  (r7 : Int32 → Hp → Option (Hp)) (x1 : Int32) (x3 : Int32) (x4 : Int64) (s0 : Int32) (h : Hp) : Option (Hp) := lt s0 (fun v1 => (if 7 < x3 then bX12_cut_179 r7 x1 x3 x4 v1 h else lt 0 (fun v2 => lX12_cut_146 r7 FU x1 x3 x4 v1 v2 h)))
set_option maxRecDepth 20000 in
theorem BX12_cut_135 {Z : ZT} {G : GT} {hr : Hp} (X : CX Z G cX12_cut RX12 8 2) (E : RX Z G none (none) hr) (hz : HZM Z) (r7 : Int32 → Hp → Option (Hp)) (hr7 : ∀ (x1 : Int32) (h : Hp), r7 x1 h = some hr → J Z G 8 h 7 [(0, .ref (Z.2.1 0)), (1, .int x1)] []) (x1 : Int32) (x3 : Int32) (x4 : Int64) (s0 : Int32) (h : Hp) (hF : bX12_cut_135  r7 x1 x3 x4 s0 h = some hr) : J Z G 8 h 135 [(0, .ref (Z.2.1 0)), (1, .int x1), (3, .int x3), (4, .long x4)] [.int s0] := by
  unfold bX12_cut_135 at hF
  refine j_istore (pc := 135) (fun y => [(6, .int y), (0, .ref (Z.2.1 0)), (1, .int x1), (3, .int x3), (4, .long x4)]) X dX12_cut_135 (by decide) (fun _ => rfl) hF (fun v1 hF => ?_)
  refine j_iload_n (pc := 137) 3 X dX12_cut_137 rfl ?_
  refine j_bipush (pc := 138) 7 X dX12_cut_138 rfl ?_
  refine j_icmp_gt (pc := 140) 179 X dX12_cut_140 rfl hF (fun hF => ?_) (fun hF => ?_)
  · refine j_lv [(0, .ref (Z.2.1 0)), (1, .int x1), (3, .int x3), (4, .long x4), (6, .int v1)] [1, 2, 3, 4, 0] rfl ?_
    exact BX12_cut_179 X E hz r7 hr7 x1 x3 x4 v1 h hF
  · refine j_iconst (pc := 143) 0 X dX12_cut_143 rfl ?_
    refine j_istore (pc := 144) (fun y => [(7, .int y), (6, .int v1), (0, .ref (Z.2.1 0)), (1, .int x1), (3, .int x3), (4, .long x4)]) X dX12_cut_144 (by decide) (fun _ => rfl) hF (fun v2 hF => ?_)
    refine j_lv [(0, .ref (Z.2.1 0)), (1, .int x1), (3, .int x3), (4, .long x4), (6, .int v1), (7, .int v2)] [2, 3, 4, 5, 1, 0] rfl ?_
    exact LX12_cut_146 X E hz r7 hr7 FU x1 x3 x4 v1 v2 h hF
def bX12_cut_85  (r7 : Int32 → Hp → Option (Hp)) (r85 : Int32 → Int32 → Int64 → Hp → Option (Hp)) (x1 : Int32) (x3 : Int32) (x4 : Int64) (h : Hp) : Option (Hp) := bi (fX12_byteAt (x1 + x3) h) (fun w2 h1 => bi (fX12_isLetter w2 h1) (fun w4 h3 => (if w4 = 0 then (if x3 ≤ 8 then bX12_cut_135 r7 x1 x3 x4 1 h3 else bX12_cut_135 r7 x1 x3 x4 3 h3) else (if 8 ≤ x3 then bX12_cut_118 r7 r85 x1 x3 x4 h3 else bi (fX12_byteAt (x1 + x3) h3) (fun w6 h5 => bi (fX12_appends x4 w6 h5) (fun w8 h7 => lt w8 (fun v9 => bX12_cut_118 r7 r85 x1 x3 v9 h7)))))))
def lX12_cut_85  (r7 : Int32 → Hp → Option (Hp)) : Nat → Int32 → Int32 → Int64 → Hp → Option (Hp)
  | 0 => fun _ _ _ _ => none
  | n + 1 => bX12_cut_85  r7 (lX12_cut_85  r7 n)
set_option maxRecDepth 20000 in
theorem BX12_cut_85 {Z : ZT} {G : GT} {hr : Hp} (X : CX Z G cX12_cut RX12 8 2) (E : RX Z G none (none) hr) (hz : HZM Z) (r7 : Int32 → Hp → Option (Hp)) (hr7 : ∀ (x1 : Int32) (h : Hp), r7 x1 h = some hr → J Z G 8 h 7 [(0, .ref (Z.2.1 0)), (1, .int x1)] []) (r85 : Int32 → Int32 → Int64 → Hp → Option (Hp)) (hr85 : ∀ (x1 : Int32) (x3 : Int32) (x4 : Int64) (h : Hp), r85 x1 x3 x4 h = some hr → J Z G 8 h 85 [(0, .ref (Z.2.1 0)), (1, .int x1), (3, .int x3), (4, .long x4)] []) (x1 : Int32) (x3 : Int32) (x4 : Int64) (h : Hp) (hF : bX12_cut_85  r7 r85 x1 x3 x4 h = some hr) : J Z G 8 h 85 [(0, .ref (Z.2.1 0)), (1, .int x1), (3, .int x3), (4, .long x4)] [] := by
  unfold bX12_cut_85 at hF
  refine j_aload_n (pc := 85) 0 X dX12_cut_85 rfl ?_
  refine j_iload_n (pc := 86) 1 X dX12_cut_86 rfl ?_
  refine j_iload_n (pc := 87) 2 X dX12_cut_87 rfl ?_
  refine j_iadd (pc := 88) X dX12_cut_88 ?_
  refine j_cVi (pc := 89) (As := [.int (x1 + x3)]) (rest := []) X dX12_cut_89 ml_X12_235 ck_X12_byteAt cv_X12_byteAt (hz _ sh_0) rfl (Nat.le_of_ble_eq_true rfl) rfl (Nat.le_of_ble_eq_true rfl) rfl hF (tX12_byteAt Z (x1 + x3) hz h) (fun w2 h1 hF => ?_)
  refine j_cSi (pc := 92) (As := [.int w2]) (rest := []) X dX12_cut_92 ml_X12_243 ck_X12_isLetter sk_X12_isLetter (Nat.le_of_ble_eq_true rfl) rfl (Nat.le_of_ble_eq_true rfl) rfl hF (tX12_isLetter Z w2 trivial h1) (fun w4 h3 hF => ?_)
  refine j_if_eq (pc := 95) 124 X dX12_cut_95 rfl hF (fun hF => ?_) (fun hF => ?_)
  · refine j_iload_n (pc := 124) 2 X dX12_cut_124 rfl ?_
    refine j_bipush (pc := 125) 8 X dX12_cut_125 rfl ?_
    refine j_icmp_le (pc := 127) 134 X dX12_cut_127 rfl hF (fun hF => ?_) (fun hF => ?_)
    · refine j_iconst (pc := 134) 1 X dX12_cut_134 rfl ?_
      exact BX12_cut_135 X E hz r7 hr7 x1 x3 x4 1 h3 hF
    · refine j_iconst (pc := 130) 3 X dX12_cut_130 rfl ?_
      refine j_goto (pc := 131) 135 X dX12_cut_131 rfl ?_
      exact BX12_cut_135 X E hz r7 hr7 x1 x3 x4 3 h3 hF
  · refine j_iload_n (pc := 98) 2 X dX12_cut_98 rfl ?_
    refine j_bipush (pc := 99) 8 X dX12_cut_99 rfl ?_
    refine j_icmp_ge (pc := 101) 118 X dX12_cut_101 rfl hF (fun hF => ?_) (fun hF => ?_)
    · exact BX12_cut_118 X E hz r7 hr7 r85 hr85 x1 x3 x4 h3 hF
    · refine j_lload (pc := 104) 3 X dX12_cut_104 rfl ?_
      refine j_aload_n (pc := 106) 0 X dX12_cut_106 rfl ?_
      refine j_iload_n (pc := 107) 1 X dX12_cut_107 rfl ?_
      refine j_iload_n (pc := 108) 2 X dX12_cut_108 rfl ?_
      refine j_iadd (pc := 109) X dX12_cut_109 ?_
      refine j_cVi (pc := 110) (As := [.int (x1 + x3)]) (rest := [.long x4]) X dX12_cut_110 ml_X12_235 ck_X12_byteAt cv_X12_byteAt (hz _ sh_0) rfl (Nat.le_of_ble_eq_true rfl) rfl (Nat.le_of_ble_eq_true rfl) rfl hF (tX12_byteAt Z (x1 + x3) hz h3) (fun w6 h5 hF => ?_)
      refine j_cSl (pc := 113) (As := [.long x4, .int w6]) (rest := []) X dX12_cut_113 ml_X12_228 ck_X12_appends sk_X12_appends (Nat.le_of_ble_eq_true rfl) rfl (Nat.le_of_ble_eq_true rfl) rfl hF (tX12_appends Z x4 w6 trivial h5) (fun w8 h7 hF => ?_)
      refine j_lstore (pc := 116) (fun y => [(4, .long y), (0, .ref (Z.2.1 0)), (1, .int x1), (3, .int x3)]) X dX12_cut_116 (by decide) (fun _ => rfl) hF (fun v9 hF => ?_)
      refine j_lv [(0, .ref (Z.2.1 0)), (1, .int x1), (3, .int x3), (4, .long v9)] [1, 2, 3, 0] rfl ?_
      exact BX12_cut_118 X E hz r7 hr7 r85 hr85 x1 x3 v9 h7 hF
theorem LX12_cut_85 {Z : ZT} {G : GT} {hr : Hp} (X : CX Z G cX12_cut RX12 8 2) (E : RX Z G none (none) hr) (hz : HZM Z) (r7 : Int32 → Hp → Option (Hp)) (hr7 : ∀ (x1 : Int32) (h : Hp), r7 x1 h = some hr → J Z G 8 h 7 [(0, .ref (Z.2.1 0)), (1, .int x1)] []) : ∀ (n : Nat) (x1 : Int32) (x3 : Int32) (x4 : Int64) (h : Hp), lX12_cut_85  r7 n x1 x3 x4 h = some hr → J Z G 8 h 85 [(0, .ref (Z.2.1 0)), (1, .int x1), (3, .int x3), (4, .long x4)] [] := by
  intro n
  induction n with
  | zero => intro x1 x3 x4 h hF; cases hF
  | succ n ih => intro x1 x3 x4 h hF; exact BX12_cut_85 X E hz r7 hr7 (lX12_cut_85  r7 n) ih x1 x3 x4 h hF
def bX12_cut_244  (r7 : Int32 → Hp → Option (Hp)) (r208 : Int32 → Int32 → Int32 → Hp → Option (Hp)) (x1 : Int32) (x3 : Int32) (x4 : Int32) (h : Hp) : Option (Hp) := lt (x3 + 1) (fun v1 => r208 x1 v1 x4 h)
set_option maxRecDepth 20000 in
theorem BX12_cut_244 {Z : ZT} {G : GT} {hr : Hp} (X : CX Z G cX12_cut RX12 8 2) (E : RX Z G none (none) hr) (hz : HZM Z) (r7 : Int32 → Hp → Option (Hp)) (hr7 : ∀ (x1 : Int32) (h : Hp), r7 x1 h = some hr → J Z G 8 h 7 [(0, .ref (Z.2.1 0)), (1, .int x1)] []) (r208 : Int32 → Int32 → Int32 → Hp → Option (Hp)) (hr208 : ∀ (x1 : Int32) (x3 : Int32) (x4 : Int32) (h : Hp), r208 x1 x3 x4 h = some hr → J Z G 8 h 208 [(0, .ref (Z.2.1 0)), (1, .int x1), (3, .int x3), (4, .int x4)] []) (x1 : Int32) (x3 : Int32) (x4 : Int32) (h : Hp) (hF : bX12_cut_244  r7 r208 x1 x3 x4 h = some hr) : J Z G 8 h 244 [(0, .ref (Z.2.1 0)), (1, .int x1), (3, .int x3), (4, .int x4)] [] := by
  unfold bX12_cut_244 at hF
  refine j_iinc (pc := 244) 2 (x3 + 1) (fun y => [(3, .int y), (0, .ref (Z.2.1 0)), (1, .int x1), (4, .int x4)]) X dX12_cut_244 rfl rfl (by decide) (fun _ => rfl) hF (fun v1 hF => ?_)
  refine j_goto (pc := 247) 208 X dX12_cut_247 rfl ?_
  refine j_lv [(0, .ref (Z.2.1 0)), (1, .int x1), (3, .int v1), (4, .int x4)] [1, 2, 0, 3] rfl ?_
  exact hr208 x1 v1 x4 h hF
def bX12_cut_261  (r7 : Int32 → Hp → Option (Hp)) (x1 : Int32) (x3 : Int32) (x4 : Int32) (s0 : Int32) (h : Hp) : Option (Hp) := bv (fX12_token s0 x1 x4 0 h) (fun h1 => lt (x1 + x3) (fun v2 => bX12_cut_291 r7 v2 h1))
set_option maxRecDepth 20000 in
theorem BX12_cut_261 {Z : ZT} {G : GT} {hr : Hp} (X : CX Z G cX12_cut RX12 8 2) (E : RX Z G none (none) hr) (hz : HZM Z) (r7 : Int32 → Hp → Option (Hp)) (hr7 : ∀ (x1 : Int32) (h : Hp), r7 x1 h = some hr → J Z G 8 h 7 [(0, .ref (Z.2.1 0)), (1, .int x1)] []) (x1 : Int32) (x3 : Int32) (x4 : Int32) (s0 : Int32) (h : Hp) (hF : bX12_cut_261  r7 x1 x3 x4 s0 h = some hr) : J Z G 8 h 261 [(0, .ref (Z.2.1 0)), (1, .int x1), (3, .int x3), (4, .int x4)] [.int s0, .ref (Z.2.1 0)] := by
  unfold bX12_cut_261 at hF
  refine j_iload_n (pc := 261) 1 X dX12_cut_261 rfl ?_
  refine j_iload (pc := 262) 3 X dX12_cut_262 rfl ?_
  refine j_lconst (pc := 264) 0 X dX12_cut_264 rfl ?_
  refine j_cVv (pc := 265) (As := [.int s0, .int x1, .int x4, .long 0]) (rest := []) X dX12_cut_265 ml_X12_239 ck_X12_token cv_X12_token (hz _ sh_0) rfl (Nat.le_of_ble_eq_true rfl) rfl (Nat.le_of_ble_eq_true rfl) rfl hF (tX12_token Z s0 x1 x4 0 hz h) (fun h1 hF => ?_)
  refine j_iload_n (pc := 268) 1 X dX12_cut_268 rfl ?_
  refine j_iload_n (pc := 269) 2 X dX12_cut_269 rfl ?_
  refine j_iadd (pc := 270) X dX12_cut_270 ?_
  refine j_istore_n (pc := 271) (fun y => [(1, .int y), (0, .ref (Z.2.1 0)), (3, .int x3), (4, .int x4)]) X dX12_cut_271 (by decide) (fun _ => rfl) hF (fun v2 hF => ?_)
  refine j_goto (pc := 272) 291 X dX12_cut_272 rfl ?_
  refine j_lv [(0, .ref (Z.2.1 0)), (1, .int v2)] [1, 0] rfl ?_
  exact BX12_cut_291 X E hz r7 hr7 v2 h1 hF
def bX12_cut_208  (r7 : Int32 → Hp → Option (Hp)) (r208 : Int32 → Int32 → Int32 → Hp → Option (Hp)) (x1 : Int32) (x3 : Int32) (x4 : Int32) (h : Hp) : Option (Hp) := bi (fX12_byteAt (x1 + x3) h) (fun w2 h1 => bi (fX12_isDigit w2 h1) (fun w4 h3 => (if w4 = 0 then (if x3 ≤ 4 then bX12_cut_261 r7 x1 x3 x4 2 h3 else bX12_cut_261 r7 x1 x3 x4 3 h3) else (if 4 ≤ x3 then bX12_cut_244 r7 r208 x1 x3 x4 h3 else bi (fX12_byteAt (x1 + x3) h3) (fun w6 h5 => lt ((((10 : Int32) * x4) + w6) - 48) (fun v7 => bX12_cut_244 r7 r208 x1 x3 v7 h5))))))
def lX12_cut_208  (r7 : Int32 → Hp → Option (Hp)) : Nat → Int32 → Int32 → Int32 → Hp → Option (Hp)
  | 0 => fun _ _ _ _ => none
  | n + 1 => bX12_cut_208  r7 (lX12_cut_208  r7 n)
set_option maxRecDepth 20000 in
theorem BX12_cut_208 {Z : ZT} {G : GT} {hr : Hp} (X : CX Z G cX12_cut RX12 8 2) (E : RX Z G none (none) hr) (hz : HZM Z) (r7 : Int32 → Hp → Option (Hp)) (hr7 : ∀ (x1 : Int32) (h : Hp), r7 x1 h = some hr → J Z G 8 h 7 [(0, .ref (Z.2.1 0)), (1, .int x1)] []) (r208 : Int32 → Int32 → Int32 → Hp → Option (Hp)) (hr208 : ∀ (x1 : Int32) (x3 : Int32) (x4 : Int32) (h : Hp), r208 x1 x3 x4 h = some hr → J Z G 8 h 208 [(0, .ref (Z.2.1 0)), (1, .int x1), (3, .int x3), (4, .int x4)] []) (x1 : Int32) (x3 : Int32) (x4 : Int32) (h : Hp) (hF : bX12_cut_208  r7 r208 x1 x3 x4 h = some hr) : J Z G 8 h 208 [(0, .ref (Z.2.1 0)), (1, .int x1), (3, .int x3), (4, .int x4)] [] := by
  unfold bX12_cut_208 at hF
  refine j_aload_n (pc := 208) 0 X dX12_cut_208 rfl ?_
  refine j_iload_n (pc := 209) 1 X dX12_cut_209 rfl ?_
  refine j_iload_n (pc := 210) 2 X dX12_cut_210 rfl ?_
  refine j_iadd (pc := 211) X dX12_cut_211 ?_
  refine j_cVi (pc := 212) (As := [.int (x1 + x3)]) (rest := []) X dX12_cut_212 ml_X12_235 ck_X12_byteAt cv_X12_byteAt (hz _ sh_0) rfl (Nat.le_of_ble_eq_true rfl) rfl (Nat.le_of_ble_eq_true rfl) rfl hF (tX12_byteAt Z (x1 + x3) hz h) (fun w2 h1 hF => ?_)
  refine j_cSi (pc := 215) (As := [.int w2]) (rest := []) X dX12_cut_215 ml_X12_247 ck_X12_isDigit sk_X12_isDigit (Nat.le_of_ble_eq_true rfl) rfl (Nat.le_of_ble_eq_true rfl) rfl hF (tX12_isDigit Z w2 trivial h1) (fun w4 h3 hF => ?_)
  refine j_if_eq (pc := 218) 250 X dX12_cut_218 rfl hF (fun hF => ?_) (fun hF => ?_)
  · refine j_aload_n (pc := 250) 0 X dX12_cut_250 rfl ?_
    refine j_iload_n (pc := 251) 2 X dX12_cut_251 rfl ?_
    refine j_iconst (pc := 252) 4 X dX12_cut_252 rfl ?_
    refine j_icmp_le (pc := 253) 260 X dX12_cut_253 rfl hF (fun hF => ?_) (fun hF => ?_)
    · refine j_iconst (pc := 260) 2 X dX12_cut_260 rfl ?_
      exact BX12_cut_261 X E hz r7 hr7 x1 x3 x4 2 h3 hF
    · refine j_iconst (pc := 256) 3 X dX12_cut_256 rfl ?_
      refine j_goto (pc := 257) 261 X dX12_cut_257 rfl ?_
      exact BX12_cut_261 X E hz r7 hr7 x1 x3 x4 3 h3 hF
  · refine j_iload_n (pc := 221) 2 X dX12_cut_221 rfl ?_
    refine j_iconst (pc := 222) 4 X dX12_cut_222 rfl ?_
    refine j_icmp_ge (pc := 223) 244 X dX12_cut_223 rfl hF (fun hF => ?_) (fun hF => ?_)
    · exact BX12_cut_244 X E hz r7 hr7 r208 hr208 x1 x3 x4 h3 hF
    · refine j_bipush (pc := 226) 10 X dX12_cut_226 rfl ?_
      refine j_iload (pc := 228) 3 X dX12_cut_228 rfl ?_
      refine j_imul (pc := 230) X dX12_cut_230 ?_
      refine j_aload_n (pc := 231) 0 X dX12_cut_231 rfl ?_
      refine j_iload_n (pc := 232) 1 X dX12_cut_232 rfl ?_
      refine j_iload_n (pc := 233) 2 X dX12_cut_233 rfl ?_
      refine j_iadd (pc := 234) X dX12_cut_234 ?_
      refine j_cVi (pc := 235) (As := [.int (x1 + x3)]) (rest := [.int ((10 : Int32) * x4)]) X dX12_cut_235 ml_X12_235 ck_X12_byteAt cv_X12_byteAt (hz _ sh_0) rfl (Nat.le_of_ble_eq_true rfl) rfl (Nat.le_of_ble_eq_true rfl) rfl hF (tX12_byteAt Z (x1 + x3) hz h3) (fun w6 h5 hF => ?_)
      refine j_iadd (pc := 238) X dX12_cut_238 ?_
      refine j_bipush (pc := 239) 48 X dX12_cut_239 rfl ?_
      refine j_isub (pc := 241) X dX12_cut_241 ?_
      refine j_istore (pc := 242) (fun y => [(4, .int y), (0, .ref (Z.2.1 0)), (1, .int x1), (3, .int x3)]) X dX12_cut_242 (by decide) (fun _ => rfl) hF (fun v7 hF => ?_)
      refine j_lv [(0, .ref (Z.2.1 0)), (1, .int x1), (3, .int x3), (4, .int v7)] [1, 2, 3, 0] rfl ?_
      exact BX12_cut_244 X E hz r7 hr7 r208 hr208 x1 x3 v7 h5 hF
theorem LX12_cut_208 {Z : ZT} {G : GT} {hr : Hp} (X : CX Z G cX12_cut RX12 8 2) (E : RX Z G none (none) hr) (hz : HZM Z) (r7 : Int32 → Hp → Option (Hp)) (hr7 : ∀ (x1 : Int32) (h : Hp), r7 x1 h = some hr → J Z G 8 h 7 [(0, .ref (Z.2.1 0)), (1, .int x1)] []) : ∀ (n : Nat) (x1 : Int32) (x3 : Int32) (x4 : Int32) (h : Hp), lX12_cut_208  r7 n x1 x3 x4 h = some hr → J Z G 8 h 208 [(0, .ref (Z.2.1 0)), (1, .int x1), (3, .int x3), (4, .int x4)] [] := by
  intro n
  induction n with
  | zero => intro x1 x3 x4 h hF; cases hF
  | succ n ih => intro x1 x3 x4 h hF; exact BX12_cut_208 X E hz r7 hr7 (lX12_cut_208  r7 n) ih x1 x3 x4 h hF
def bX12_cut_7   (r7 : Int32 → Hp → Option (Hp)) (x1 : Int32) (h : Hp) : Option (Hp) := (if 400 < (h.1 0 10) then some h else bi (fX12_byteAt x1 h) (fun w2 h1 => lt w2 (fun v3 => (if x1 < (h1.1 0 4) then (if v3 = 9 then bX12_cut_67 r7 x1 h1 else (if v3 = 10 then bX12_cut_67 r7 x1 h1 else (if v3 = 13 then bX12_cut_67 r7 x1 h1 else (if v3 = 32 then bX12_cut_67 r7 x1 h1 else bi (fX12_isLetter v3 h1) (fun w5 h4 => (if w5 = 0 then bi (fX12_isDigit v3 h4) (fun w7 h6 => (if w7 = 0 then bi (fX12_byteAt (x1 + 1) h6) (fun w9 h8 => bi (fX12_sign x1 v3 w9 h8) (fun w11 h10 => lt (x1 + w11) (fun v12 => bX12_cut_291 r7 v12 h10))) else lt 0 (fun v13 => lt 0 (fun v14 => lX12_cut_208 r7 FU x1 v13 v14 h6)))) else lt 0 (fun v15 => lt 0 (fun v16 => lX12_cut_85 r7 FU x1 v15 v16 h4)))))))) else bv (fX12_token 0 (h1.1 0 4) 0 0 h1) (fun h17 => some h17)))))
def lX12_cut_7   : Nat → Int32 → Hp → Option (Hp)
  | 0 => fun _ _ => none
  | n + 1 => bX12_cut_7   (lX12_cut_7   n)
set_option maxRecDepth 20000 in
theorem BX12_cut_7 {Z : ZT} {G : GT} {hr : Hp} (X : CX Z G cX12_cut RX12 8 2) (E : RX Z G none (none) hr) (hz : HZM Z)  (r7 : Int32 → Hp → Option (Hp)) (hr7 : ∀ (x1 : Int32) (h : Hp), r7 x1 h = some hr → J Z G 8 h 7 [(0, .ref (Z.2.1 0)), (1, .int x1)] []) (x1 : Int32) (h : Hp) (hF : bX12_cut_7   r7 x1 h = some hr) : J Z G 8 h 7 [(0, .ref (Z.2.1 0)), (1, .int x1)] [] := by
  unfold bX12_cut_7 at hF
  refine j_aload_n (pc := 7) 0 X dX12_cut_7 rfl ?_
  refine j_geti (pc := 8) X dX12_cut_8 (hz _ sh_0) fl_X12_232 rfl ?_
  refine j_sipush (pc := 11) 400 X dX12_cut_11 rfl ?_
  refine j_icmp_gt (pc := 14) 294 X dX12_cut_14 rfl hF (fun hF => ?_) (fun hF => ?_)
  · exact j_vret (pc := 294) X E dX12_cut_294 hF
  · refine j_aload_n (pc := 17) 0 X dX12_cut_17 rfl ?_
    refine j_iload_n (pc := 18) 1 X dX12_cut_18 rfl ?_
    refine j_cVi (pc := 19) (As := [.int x1]) (rest := []) X dX12_cut_19 ml_X12_235 ck_X12_byteAt cv_X12_byteAt (hz _ sh_0) rfl (Nat.le_of_ble_eq_true rfl) rfl (Nat.le_of_ble_eq_true rfl) rfl hF (tX12_byteAt Z x1 hz h) (fun w2 h1 hF => ?_)
    refine j_istore_n (pc := 22) (fun y => [(2, .int y), (0, .ref (Z.2.1 0)), (1, .int x1)]) X dX12_cut_22 (by decide) (fun _ => rfl) hF (fun v3 hF => ?_)
    refine j_iload_n (pc := 23) 2 X dX12_cut_23 rfl ?_
    refine j_aload_n (pc := 24) 1 X dX12_cut_24 rfl ?_
    refine j_geti (pc := 25) X dX12_cut_25 (hz _ sh_0) fl_X12_223 rfl ?_
    refine j_icmp_lt (pc := 28) 43 X dX12_cut_28 rfl hF (fun hF => ?_) (fun hF => ?_)
    · refine j_iload_n (pc := 43) 0 X dX12_cut_43 rfl ?_
      refine j_bipush (pc := 44) 9 X dX12_cut_44 rfl ?_
      refine j_icmp_eq (pc := 46) 67 X dX12_cut_46 rfl hF (fun hF => ?_) (fun hF => ?_)
      · refine j_lv [(0, .ref (Z.2.1 0)), (1, .int x1)] [1, 2] rfl ?_
        exact BX12_cut_67 X E hz r7 hr7 x1 h1 hF
      · refine j_iload_n (pc := 49) 0 X dX12_cut_49 rfl ?_
        refine j_bipush (pc := 50) 10 X dX12_cut_50 rfl ?_
        refine j_icmp_eq (pc := 52) 67 X dX12_cut_52 rfl hF (fun hF => ?_) (fun hF => ?_)
        · refine j_lv [(0, .ref (Z.2.1 0)), (1, .int x1)] [1, 2] rfl ?_
          exact BX12_cut_67 X E hz r7 hr7 x1 h1 hF
        · refine j_iload_n (pc := 55) 0 X dX12_cut_55 rfl ?_
          refine j_bipush (pc := 56) 13 X dX12_cut_56 rfl ?_
          refine j_icmp_eq (pc := 58) 67 X dX12_cut_58 rfl hF (fun hF => ?_) (fun hF => ?_)
          · refine j_lv [(0, .ref (Z.2.1 0)), (1, .int x1)] [1, 2] rfl ?_
            exact BX12_cut_67 X E hz r7 hr7 x1 h1 hF
          · refine j_iload_n (pc := 61) 0 X dX12_cut_61 rfl ?_
            refine j_bipush (pc := 62) 32 X dX12_cut_62 rfl ?_
            refine j_icmp_ne (pc := 64) 73 X dX12_cut_64 rfl hF (fun hF => ?_) (fun hF => ?_)
            · refine j_iload_n (pc := 73) 0 X dX12_cut_73 rfl ?_
              refine j_cSi (pc := 74) (As := [.int v3]) (rest := []) X dX12_cut_74 ml_X12_243 ck_X12_isLetter sk_X12_isLetter (Nat.le_of_ble_eq_true rfl) rfl (Nat.le_of_ble_eq_true rfl) rfl hF (tX12_isLetter Z v3 trivial h1) (fun w5 h4 hF => ?_)
              refine j_if_eq (pc := 77) 196 X dX12_cut_77 rfl hF (fun hF => ?_) (fun hF => ?_)
              · refine j_iload_n (pc := 196) 0 X dX12_cut_196 rfl ?_
                refine j_cSi (pc := 197) (As := [.int v3]) (rest := []) X dX12_cut_197 ml_X12_247 ck_X12_isDigit sk_X12_isDigit (Nat.le_of_ble_eq_true rfl) rfl (Nat.le_of_ble_eq_true rfl) rfl hF (tX12_isDigit Z v3 trivial h4) (fun w7 h6 hF => ?_)
                refine j_if_eq (pc := 200) 275 X dX12_cut_200 rfl hF (fun hF => ?_) (fun hF => ?_)
                · refine j_iload_n (pc := 275) 2 X dX12_cut_275 rfl ?_
                  refine j_aload_n (pc := 276) 1 X dX12_cut_276 rfl ?_
                  refine j_iload_n (pc := 277) 2 X dX12_cut_277 rfl ?_
                  refine j_iload_n (pc := 278) 0 X dX12_cut_278 rfl ?_
                  refine j_aload_n (pc := 279) 1 X dX12_cut_279 rfl ?_
                  refine j_iload_n (pc := 280) 2 X dX12_cut_280 rfl ?_
                  refine j_iconst (pc := 281) 1 X dX12_cut_281 rfl ?_
                  refine j_iadd (pc := 282) X dX12_cut_282 ?_
                  refine j_cVi (pc := 283) (As := [.int (x1 + 1)]) (rest := [.int v3, .int x1, .ref (Z.2.1 0), .int x1]) X dX12_cut_283 ml_X12_235 ck_X12_byteAt cv_X12_byteAt (hz _ sh_0) rfl (Nat.le_of_ble_eq_true rfl) rfl (Nat.le_of_ble_eq_true rfl) rfl hF (tX12_byteAt Z (x1 + 1) hz h6) (fun w9 h8 hF => ?_)
                  refine j_cVi (pc := 286) (As := [.int x1, .int v3, .int w9]) (rest := [.int x1]) X dX12_cut_286 ml_X12_250 ck_X12_sign cv_X12_sign (hz _ sh_0) rfl (Nat.le_of_ble_eq_true rfl) rfl (Nat.le_of_ble_eq_true rfl) rfl hF (tX12_sign Z x1 v3 w9 hz h8) (fun w11 h10 hF => ?_)
                  refine j_iadd (pc := 289) X dX12_cut_289 ?_
                  refine j_istore_n (pc := 290) (fun y => [(1, .int y), (2, .int v3), (0, .ref (Z.2.1 0))]) X dX12_cut_290 (by decide) (fun _ => rfl) hF (fun v12 hF => ?_)
                  refine j_lv [(0, .ref (Z.2.1 0)), (1, .int v12)] [2, 0] rfl ?_
                  exact BX12_cut_291 X E hz r7 hr7 v12 h10 hF
                · refine j_iconst (pc := 203) 0 X dX12_cut_203 rfl ?_
                  refine j_istore_n (pc := 204) (fun y => [(3, .int y), (2, .int v3), (0, .ref (Z.2.1 0)), (1, .int x1)]) X dX12_cut_204 (by decide) (fun _ => rfl) hF (fun v13 hF => ?_)
                  refine j_iconst (pc := 205) 0 X dX12_cut_205 rfl ?_
                  refine j_istore (pc := 206) (fun y => [(4, .int y), (3, .int v13), (2, .int v3), (0, .ref (Z.2.1 0)), (1, .int x1)]) X dX12_cut_206 (by decide) (fun _ => rfl) hF (fun v14 hF => ?_)
                  refine j_lv [(0, .ref (Z.2.1 0)), (1, .int x1), (3, .int v13), (4, .int v14)] [3, 4, 1, 0] rfl ?_
                  exact LX12_cut_208 X E hz r7 hr7 FU x1 v13 v14 h6 hF
              · refine j_iconst (pc := 80) 0 X dX12_cut_80 rfl ?_
                refine j_istore_n (pc := 81) (fun y => [(3, .int y), (2, .int v3), (0, .ref (Z.2.1 0)), (1, .int x1)]) X dX12_cut_81 (by decide) (fun _ => rfl) hF (fun v15 hF => ?_)
                refine j_lconst (pc := 82) 0 X dX12_cut_82 rfl ?_
                refine j_lstore (pc := 83) (fun y => [(4, .long y), (3, .int v15), (2, .int v3), (0, .ref (Z.2.1 0)), (1, .int x1)]) X dX12_cut_83 (by decide) (fun _ => rfl) hF (fun v16 hF => ?_)
                refine j_lv [(0, .ref (Z.2.1 0)), (1, .int x1), (3, .int v15), (4, .long v16)] [3, 4, 1, 0] rfl ?_
                exact LX12_cut_85 X E hz r7 hr7 FU x1 v15 v16 h4 hF
            · refine j_lv [(0, .ref (Z.2.1 0)), (1, .int x1)] [1, 2] rfl ?_
              exact BX12_cut_67 X E hz r7 hr7 x1 h1 hF
    · refine j_aload_n (pc := 31) 1 X dX12_cut_31 rfl ?_
      refine j_iconst (pc := 32) 0 X dX12_cut_32 rfl ?_
      refine j_aload_n (pc := 33) 1 X dX12_cut_33 rfl ?_
      refine j_geti (pc := 34) X dX12_cut_34 (hz _ sh_0) fl_X12_223 rfl ?_
      refine j_iconst (pc := 37) 0 X dX12_cut_37 rfl ?_
      refine j_lconst (pc := 38) 0 X dX12_cut_38 rfl ?_
      refine j_cVv (pc := 39) (As := [.int 0, .int (h1.1 0 4), .int 0, .long 0]) (rest := []) X dX12_cut_39 ml_X12_239 ck_X12_token cv_X12_token (hz _ sh_0) rfl (Nat.le_of_ble_eq_true rfl) rfl (Nat.le_of_ble_eq_true rfl) rfl hF (tX12_token Z 0 (h1.1 0 4) 0 0 hz h1) (fun h17 hF => ?_)
      exact j_vret (pc := 42) X E dX12_cut_42 hF
theorem LX12_cut_7 {Z : ZT} {G : GT} {hr : Hp} (X : CX Z G cX12_cut RX12 8 2) (E : RX Z G none (none) hr) (hz : HZM Z)  : ∀ (n : Nat) (x1 : Int32) (h : Hp), lX12_cut_7   n x1 h = some hr → J Z G 8 h 7 [(0, .ref (Z.2.1 0)), (1, .int x1)] [] := by
  intro n
  induction n with
  | zero => intro x1 h hF; cases hF
  | succ n ih => intro x1 h hF; exact BX12_cut_7 X E hz  (lX12_cut_7   n) ih x1 h hF
def fX12_cut  (h : Hp) : Option (Hp) := lt (wI h 0 10 0) (fun h1 => lt 0 (fun v2 => lX12_cut_7 FU v2 h1))
set_option maxRecDepth 20000 in
theorem tX12_cut (Z : ZT)  (hz : HZM Z) (h : Hp) (hr : Hp) (hF : fX12_cut  h = some hr) : MC Z yX12_cut cX12_cut 8 none 2 [.ref (Z.2.1 0)] h (none) hr := by
  unfold fX12_cut at hF
  refine mc_start (by decide) (Nat.le_of_ble_eq_true rfl) (fun G X E => ?_)
  refine j_aload_n (pc := 0) 0 X dX12_cut_0 rfl ?_
  refine j_iconst (pc := 1) 0 X dX12_cut_1 rfl ?_
  refine j_puti (pc := 2) X dX12_cut_2 (hz _ sh_0) fp_X12_232 rfl hF (fun h1 hF => ?_)
  refine j_iconst (pc := 5) 0 X dX12_cut_5 rfl ?_
  refine j_istore_n (pc := 6) (fun y => [(1, .int y), (0, .ref (Z.2.1 0))]) X dX12_cut_6 (by decide) (fun _ => rfl) hF (fun v2 hF => ?_)
  refine j_lv [(0, .ref (Z.2.1 0)), (1, .int v2)] [1, 0] rfl ?_
  exact LX12_cut_7 X E hz FU v2 h1 hF
theorem dX12_is_0 : decode cX12_is 0 = .ok (.aload_n 0, 1) := by decide +kernel
theorem dX12_is_1 : decode cX12_is 1 = .ok (.getfield 254, 3) := by decide +kernel
theorem dX12_is_4 : decode cX12_is 4 = .ok (.ifCond .ne 20, 3) := by decide +kernel
theorem dX12_is_7 : decode cX12_is 7 = .ok (.aload_n 0, 1) := by decide +kernel
theorem dX12_is_8 : decode cX12_is 8 = .ok (.getfield 20, 3) := by decide +kernel
theorem dX12_is_11 : decode cX12_is 11 = .ok (.aload_n 0, 1) := by decide +kernel
theorem dX12_is_12 : decode cX12_is 12 = .ok (.getfield 257, 3) := by decide +kernel
theorem dX12_is_15 : decode cX12_is 15 = .ok (.iaload, 1) := by decide +kernel
theorem dX12_is_16 : decode cX12_is 16 = .ok (.iload_n 1, 1) := by decide +kernel
theorem dX12_is_17 : decode cX12_is 17 = .ok (.if_icmp .ne 7, 3) := by decide +kernel
theorem dX12_is_20 : decode cX12_is 20 = .ok (.iconst 1, 1) := by decide +kernel
theorem dX12_is_21 : decode cX12_is 21 = .ok (.goto 4, 3) := by decide +kernel
theorem dX12_is_24 : decode cX12_is 24 = .ok (.iconst 0, 1) := by decide +kernel
theorem dX12_is_25 : decode cX12_is 25 = .ok (.ireturn, 1) := by decide +kernel
def fX12_is (a1 : Int32) (h : Hp) : Option (Int32 × Hp) := (if (h.1 0 13) = 0 then ck (inb (h.1 0 11) 403) ((if (h.1 3 (ix (h.1 0 11))) = a1 then ck (zb 1) (some (1, h)) else ck (zb 0) (some (0, h)))) else ck (zb 0) (some (0, h)))
set_option maxRecDepth 20000 in
theorem tX12_is (Z : ZT) (a1 : Int32) (hz : HZM Z) (h : Hp) (r : Int32) (hr : Hp) (hF : fX12_is a1 h = some (r, hr)) : MC Z yX12_is cX12_is 2 (some .boolean) 0 [.ref (Z.2.1 0), .int a1] h (some (.int r)) hr := by
  unfold fX12_is at hF
  refine mc_start (by decide) (Nat.le_of_ble_eq_true rfl) (fun G X E => ?_)
  refine j_aload_n (pc := 0) 0 X dX12_is_0 rfl ?_
  refine j_geti (pc := 1) X dX12_is_1 (hz _ sh_0) fl_X12_254 rfl ?_
  refine j_if_ne (pc := 4) 24 X dX12_is_4 rfl hF (fun hF => ?_) (fun hF => ?_)
  · refine j_iconst (pc := 24) 0 X dX12_is_24 rfl ?_
    exact j_zret (pc := 25) X E dX12_is_25 hF
  · refine j_aload_n (pc := 7) 0 X dX12_is_7 rfl ?_
    refine j_getr (pc := 8) X dX12_is_8 (hz _ sh_0) fl_X12_20 rfl ?_
    refine j_aload_n (pc := 11) 0 X dX12_is_11 rfl ?_
    refine j_geti (pc := 12) X dX12_is_12 (hz _ sh_0) fl_X12_257 rfl ?_
    refine j_iald (pc := 15) X dX12_is_15 (hz _ sh_3) hF (fun hF => ?_)
    refine j_iload_n (pc := 16) 1 X dX12_is_16 rfl ?_
    refine j_icmp_ne (pc := 17) 24 X dX12_is_17 rfl hF (fun hF => ?_) (fun hF => ?_)
    · refine j_iconst (pc := 24) 0 X dX12_is_24 rfl ?_
      exact j_zret (pc := 25) X E dX12_is_25 hF
    · refine j_iconst (pc := 20) 1 X dX12_is_20 rfl ?_
      refine j_goto (pc := 21) 25 X dX12_is_21 rfl ?_
      exact j_zret (pc := 25) X E dX12_is_25 hF
theorem dX12_fail_0 : decode cX12_fail 0 = .ok (.aload_n 0, 1) := by decide +kernel
theorem dX12_fail_1 : decode cX12_fail 1 = .ok (.getfield 254, 3) := by decide +kernel
theorem dX12_fail_4 : decode cX12_fail 4 = .ok (.ifCond .le 4, 3) := by decide +kernel
theorem dX12_fail_7 : decode cX12_fail 7 = .ok (.return_, 1) := by decide +kernel
theorem dX12_fail_8 : decode cX12_fail 8 = .ok (.aload_n 0, 1) := by decide +kernel
theorem dX12_fail_9 : decode cX12_fail 9 = .ok (.iload_n 1, 1) := by decide +kernel
theorem dX12_fail_10 : decode cX12_fail 10 = .ok (.putfield 254, 3) := by decide +kernel
theorem dX12_fail_13 : decode cX12_fail 13 = .ok (.aload_n 0, 1) := by decide +kernel
theorem dX12_fail_14 : decode cX12_fail 14 = .ok (.aload_n 0, 1) := by decide +kernel
theorem dX12_fail_15 : decode cX12_fail 15 = .ok (.getfield 24, 3) := by decide +kernel
theorem dX12_fail_18 : decode cX12_fail 18 = .ok (.aload_n 0, 1) := by decide +kernel
theorem dX12_fail_19 : decode cX12_fail 19 = .ok (.getfield 257, 3) := by decide +kernel
theorem dX12_fail_22 : decode cX12_fail 22 = .ok (.iaload, 1) := by decide +kernel
theorem dX12_fail_23 : decode cX12_fail 23 = .ok (.putfield 260, 3) := by decide +kernel
theorem dX12_fail_26 : decode cX12_fail 26 = .ok (.return_, 1) := by decide +kernel
def fX12_fail (a1 : Int32) (h : Hp) : Option (Hp) := (if (h.1 0 13) ≤ 0 then lt (wI h 0 13 a1) (fun h1 => ck (inb (h1.1 0 11) 403) (lt (wI h1 0 14 (h1.1 4 (ix (h1.1 0 11)))) (fun h2 => some h2))) else some h)
set_option maxRecDepth 20000 in
theorem tX12_fail (Z : ZT) (a1 : Int32) (hz : HZM Z) (h : Hp) (hr : Hp) (hF : fX12_fail a1 h = some hr) : MC Z yX12_fail cX12_fail 2 none 0 [.ref (Z.2.1 0), .int a1] h (none) hr := by
  unfold fX12_fail at hF
  refine mc_start (by decide) (Nat.le_of_ble_eq_true rfl) (fun G X E => ?_)
  refine j_aload_n (pc := 0) 0 X dX12_fail_0 rfl ?_
  refine j_geti (pc := 1) X dX12_fail_1 (hz _ sh_0) fl_X12_254 rfl ?_
  refine j_if_le (pc := 4) 8 X dX12_fail_4 rfl hF (fun hF => ?_) (fun hF => ?_)
  · refine j_aload_n (pc := 8) 0 X dX12_fail_8 rfl ?_
    refine j_iload_n (pc := 9) 1 X dX12_fail_9 rfl ?_
    refine j_puti (pc := 10) X dX12_fail_10 (hz _ sh_0) fp_X12_254 rfl hF (fun h1 hF => ?_)
    refine j_aload_n (pc := 13) 0 X dX12_fail_13 rfl ?_
    refine j_aload_n (pc := 14) 0 X dX12_fail_14 rfl ?_
    refine j_getr (pc := 15) X dX12_fail_15 (hz _ sh_0) fl_X12_24 rfl ?_
    refine j_aload_n (pc := 18) 0 X dX12_fail_18 rfl ?_
    refine j_geti (pc := 19) X dX12_fail_19 (hz _ sh_0) fl_X12_257 rfl ?_
    refine j_iald (pc := 22) X dX12_fail_22 (hz _ sh_4) hF (fun hF => ?_)
    refine j_puti (pc := 23) X dX12_fail_23 (hz _ sh_0) fp_X12_260 rfl hF (fun h2 hF => ?_)
    exact j_vret (pc := 26) X E dX12_fail_26 hF
  · exact j_vret (pc := 7) X E dX12_fail_7 hF
theorem dX12_amiss_0 : decode cX12_amiss 0 = .ok (.aload_n 0, 1) := by decide +kernel
theorem dX12_amiss_1 : decode cX12_amiss 1 = .ok (.getfield 24, 3) := by decide +kernel
theorem dX12_amiss_4 : decode cX12_amiss 4 = .ok (.iload_n 2, 1) := by decide +kernel
theorem dX12_amiss_5 : decode cX12_amiss 5 = .ok (.iaload, 1) := by decide +kernel
theorem dX12_amiss_6 : decode cX12_amiss 6 = .ok (.istore_n 3, 1) := by decide +kernel
theorem dX12_amiss_7 : decode cX12_amiss 7 = .ok (.aload_n 0, 1) := by decide +kernel
theorem dX12_amiss_8 : decode cX12_amiss 8 = .ok (.getfield 254, 3) := by decide +kernel
theorem dX12_amiss_11 : decode cX12_amiss 11 = .ok (.ifCond .gt 34, 3) := by decide +kernel
theorem dX12_amiss_14 : decode cX12_amiss 14 = .ok (.aload_n 0, 1) := by decide +kernel
theorem dX12_amiss_15 : decode cX12_amiss 15 = .ok (.getfield 263, 3) := by decide +kernel
theorem dX12_amiss_18 : decode cX12_amiss 18 = .ok (.ifCond .eq 28, 3) := by decide +kernel
theorem dX12_amiss_21 : decode cX12_amiss 21 = .ok (.iload_n 3, 1) := by decide +kernel
theorem dX12_amiss_22 : decode cX12_amiss 22 = .ok (.aload_n 0, 1) := by decide +kernel
theorem dX12_amiss_23 : decode cX12_amiss 23 = .ok (.getfield 266, 3) := by decide +kernel
theorem dX12_amiss_26 : decode cX12_amiss 26 = .ok (.if_icmp .gt 19, 3) := by decide +kernel
theorem dX12_amiss_29 : decode cX12_amiss 29 = .ok (.iload_n 3, 1) := by decide +kernel
theorem dX12_amiss_30 : decode cX12_amiss 30 = .ok (.aload_n 0, 1) := by decide +kernel
theorem dX12_amiss_31 : decode cX12_amiss 31 = .ok (.getfield 266, 3) := by decide +kernel
theorem dX12_amiss_34 : decode cX12_amiss 34 = .ok (.if_icmp .ne 12, 3) := by decide +kernel
theorem dX12_amiss_37 : decode cX12_amiss 37 = .ok (.iload_n 1, 1) := by decide +kernel
theorem dX12_amiss_38 : decode cX12_amiss 38 = .ok (.aload_n 0, 1) := by decide +kernel
theorem dX12_amiss_39 : decode cX12_amiss 39 = .ok (.getfield 263, 3) := by decide +kernel
theorem dX12_amiss_42 : decode cX12_amiss 42 = .ok (.if_icmp .lt 4, 3) := by decide +kernel
theorem dX12_amiss_45 : decode cX12_amiss 45 = .ok (.return_, 1) := by decide +kernel
theorem dX12_amiss_46 : decode cX12_amiss 46 = .ok (.aload_n 0, 1) := by decide +kernel
theorem dX12_amiss_47 : decode cX12_amiss 47 = .ok (.iload_n 1, 1) := by decide +kernel
theorem dX12_amiss_48 : decode cX12_amiss 48 = .ok (.putfield 263, 3) := by decide +kernel
theorem dX12_amiss_51 : decode cX12_amiss 51 = .ok (.aload_n 0, 1) := by decide +kernel
theorem dX12_amiss_52 : decode cX12_amiss 52 = .ok (.iload_n 3, 1) := by decide +kernel
theorem dX12_amiss_53 : decode cX12_amiss 53 = .ok (.putfield 266, 3) := by decide +kernel
theorem dX12_amiss_56 : decode cX12_amiss 56 = .ok (.return_, 1) := by decide +kernel
def bX12_amiss_46   (x1 : Int32) (x3 : Int32) (h : Hp) : Option (Hp) := lt (wI h 0 15 x1) (fun h1 => lt (wI h1 0 16 x3) (fun h2 => some h2))
set_option maxRecDepth 20000 in
theorem BX12_amiss_46 {Z : ZT} {G : GT} {hr : Hp} (X : CX Z G cX12_amiss RX12 4 0) (E : RX Z G none (none) hr) (hz : HZM Z)  (x1 : Int32) (x3 : Int32) (h : Hp) (hF : bX12_amiss_46   x1 x3 h = some hr) : J Z G 4 h 46 [(0, .ref (Z.2.1 0)), (1, .int x1), (3, .int x3)] [] := by
  unfold bX12_amiss_46 at hF
  refine j_aload_n (pc := 46) 0 X dX12_amiss_46 rfl ?_
  refine j_iload_n (pc := 47) 1 X dX12_amiss_47 rfl ?_
  refine j_puti (pc := 48) X dX12_amiss_48 (hz _ sh_0) fp_X12_263 rfl hF (fun h1 hF => ?_)
  refine j_aload_n (pc := 51) 0 X dX12_amiss_51 rfl ?_
  refine j_iload_n (pc := 52) 2 X dX12_amiss_52 rfl ?_
  refine j_puti (pc := 53) X dX12_amiss_53 (hz _ sh_0) fp_X12_266 rfl hF (fun h2 hF => ?_)
  exact j_vret (pc := 56) X E dX12_amiss_56 hF
def fX12_amiss (a1 : Int32) (a2 : Int32) (h : Hp) : Option (Hp) := ck (inb a2 403) (lt (h.1 4 (ix a2)) (fun v1 => (if 0 < (h.1 0 13) then some h else (if (h.1 0 15) = 0 then bX12_amiss_46 a1 v1 h else (if (h.1 0 16) < v1 then some h else (if v1 = (h.1 0 16) then (if a1 < (h.1 0 15) then bX12_amiss_46 a1 v1 h else some h) else bX12_amiss_46 a1 v1 h))))))
set_option maxRecDepth 20000 in
theorem tX12_amiss (Z : ZT) (a1 : Int32) (a2 : Int32) (hz : HZM Z) (h : Hp) (hr : Hp) (hF : fX12_amiss a1 a2 h = some hr) : MC Z yX12_amiss cX12_amiss 4 none 0 [.ref (Z.2.1 0), .int a1, .int a2] h (none) hr := by
  unfold fX12_amiss at hF
  refine mc_start (by decide) (Nat.le_of_ble_eq_true rfl) (fun G X E => ?_)
  refine j_aload_n (pc := 0) 0 X dX12_amiss_0 rfl ?_
  refine j_getr (pc := 1) X dX12_amiss_1 (hz _ sh_0) fl_X12_24 rfl ?_
  refine j_iload_n (pc := 4) 2 X dX12_amiss_4 rfl ?_
  refine j_iald (pc := 5) X dX12_amiss_5 (hz _ sh_4) hF (fun hF => ?_)
  refine j_istore_n (pc := 6) (fun y => [(3, .int y), (0, .ref (Z.2.1 0)), (1, .int a1), (2, .int a2)]) X dX12_amiss_6 (by decide) (fun _ => rfl) hF (fun v1 hF => ?_)
  refine j_aload_n (pc := 7) 1 X dX12_amiss_7 rfl ?_
  refine j_geti (pc := 8) X dX12_amiss_8 (hz _ sh_0) fl_X12_254 rfl ?_
  refine j_if_gt (pc := 11) 45 X dX12_amiss_11 rfl hF (fun hF => ?_) (fun hF => ?_)
  · exact j_vret (pc := 45) X E dX12_amiss_45 hF
  · refine j_aload_n (pc := 14) 1 X dX12_amiss_14 rfl ?_
    refine j_geti (pc := 15) X dX12_amiss_15 (hz _ sh_0) fl_X12_263 rfl ?_
    refine j_if_eq (pc := 18) 46 X dX12_amiss_18 rfl hF (fun hF => ?_) (fun hF => ?_)
    · refine j_lv [(0, .ref (Z.2.1 0)), (1, .int a1), (3, .int v1)] [1, 2, 0] rfl ?_
      exact BX12_amiss_46 X E hz a1 v1 h hF
    · refine j_iload_n (pc := 21) 0 X dX12_amiss_21 rfl ?_
      refine j_aload_n (pc := 22) 1 X dX12_amiss_22 rfl ?_
      refine j_geti (pc := 23) X dX12_amiss_23 (hz _ sh_0) fl_X12_266 rfl ?_
      refine j_icmp_gt (pc := 26) 45 X dX12_amiss_26 rfl hF (fun hF => ?_) (fun hF => ?_)
      · exact j_vret (pc := 45) X E dX12_amiss_45 hF
      · refine j_iload_n (pc := 29) 0 X dX12_amiss_29 rfl ?_
        refine j_aload_n (pc := 30) 1 X dX12_amiss_30 rfl ?_
        refine j_geti (pc := 31) X dX12_amiss_31 (hz _ sh_0) fl_X12_266 rfl ?_
        refine j_icmp_ne (pc := 34) 46 X dX12_amiss_34 rfl hF (fun hF => ?_) (fun hF => ?_)
        · refine j_lv [(0, .ref (Z.2.1 0)), (1, .int a1), (3, .int v1)] [1, 2, 0] rfl ?_
          exact BX12_amiss_46 X E hz a1 v1 h hF
        · refine j_iload_n (pc := 37) 2 X dX12_amiss_37 rfl ?_
          refine j_aload_n (pc := 38) 1 X dX12_amiss_38 rfl ?_
          refine j_geti (pc := 39) X dX12_amiss_39 (hz _ sh_0) fl_X12_263 rfl ?_
          refine j_icmp_lt (pc := 42) 46 X dX12_amiss_42 rfl hF (fun hF => ?_) (fun hF => ?_)
          · refine j_lv [(0, .ref (Z.2.1 0)), (1, .int a1), (3, .int v1)] [1, 2, 0] rfl ?_
            exact BX12_amiss_46 X E hz a1 v1 h hF
          · exact j_vret (pc := 45) X E dX12_amiss_45 hF
theorem dX12_goesOn_0 : decode cX12_goesOn 0 = .ok (.aload_n 0, 1) := by decide +kernel
theorem dX12_goesOn_1 : decode cX12_goesOn 1 = .ok (.getfield 257, 3) := by decide +kernel
theorem dX12_goesOn_4 : decode cX12_goesOn 4 = .ok (.sipush 400, 3) := by decide +kernel
theorem dX12_goesOn_7 : decode cX12_goesOn 7 = .ok (.if_icmp .ne 11, 3) := by decide +kernel
theorem dX12_goesOn_10 : decode cX12_goesOn 10 = .ok (.aload_n 0, 1) := by decide +kernel
theorem dX12_goesOn_11 : decode cX12_goesOn 11 = .ok (.iconst 2, 1) := by decide +kernel
theorem dX12_goesOn_12 : decode cX12_goesOn 12 = .ok (.invokevirtual 269, 3) := by decide +kernel
theorem dX12_goesOn_15 : decode cX12_goesOn 15 = .ok (.goto 13, 3) := by decide +kernel
theorem dX12_goesOn_18 : decode cX12_goesOn 18 = .ok (.aload_n 0, 1) := by decide +kernel
theorem dX12_goesOn_19 : decode cX12_goesOn 19 = .ok (.dup, 1) := by decide +kernel
theorem dX12_goesOn_20 : decode cX12_goesOn 20 = .ok (.getfield 257, 3) := by decide +kernel
theorem dX12_goesOn_23 : decode cX12_goesOn 23 = .ok (.iconst 1, 1) := by decide +kernel
theorem dX12_goesOn_24 : decode cX12_goesOn 24 = .ok (.iadd, 1) := by decide +kernel
theorem dX12_goesOn_25 : decode cX12_goesOn 25 = .ok (.putfield 257, 3) := by decide +kernel
theorem dX12_goesOn_28 : decode cX12_goesOn 28 = .ok (.return_, 1) := by decide +kernel
def fX12_goesOn  (h : Hp) : Option (Hp) := (if (h.1 0 11) = 400 then bv (fX12_fail 2 h) (fun h2 => some h2) else lt (wI h 0 11 ((h.1 0 11) + 1)) (fun h1 => some h1))
set_option maxRecDepth 20000 in
theorem tX12_goesOn (Z : ZT)  (hz : HZM Z) (h : Hp) (hr : Hp) (hF : fX12_goesOn  h = some hr) : MC Z yX12_goesOn cX12_goesOn 1 none 1 [.ref (Z.2.1 0)] h (none) hr := by
  unfold fX12_goesOn at hF
  refine mc_start (by decide) (Nat.le_of_ble_eq_true rfl) (fun G X E => ?_)
  refine j_aload_n (pc := 0) 0 X dX12_goesOn_0 rfl ?_
  refine j_geti (pc := 1) X dX12_goesOn_1 (hz _ sh_0) fl_X12_257 rfl ?_
  refine j_sipush (pc := 4) 400 X dX12_goesOn_4 rfl ?_
  refine j_icmp_ne (pc := 7) 18 X dX12_goesOn_7 rfl hF (fun hF => ?_) (fun hF => ?_)
  · refine j_aload_n (pc := 18) 0 X dX12_goesOn_18 rfl ?_
    refine j_dup (pc := 19) X dX12_goesOn_19 rfl ?_
    refine j_geti (pc := 20) X dX12_goesOn_20 (hz _ sh_0) fl_X12_257 rfl ?_
    refine j_iconst (pc := 23) 1 X dX12_goesOn_23 rfl ?_
    refine j_iadd (pc := 24) X dX12_goesOn_24 ?_
    refine j_puti (pc := 25) X dX12_goesOn_25 (hz _ sh_0) fp_X12_257 rfl hF (fun h1 hF => ?_)
    exact j_vret (pc := 28) X E dX12_goesOn_28 hF
  · refine j_aload_n (pc := 10) 0 X dX12_goesOn_10 rfl ?_
    refine j_iconst (pc := 11) 2 X dX12_goesOn_11 rfl ?_
    refine j_cVv (pc := 12) (As := [.int 2]) (rest := []) X dX12_goesOn_12 ml_X12_269 ck_X12_fail cv_X12_fail (hz _ sh_0) rfl (Nat.le_of_ble_eq_true rfl) rfl (Nat.le_of_ble_eq_true rfl) rfl hF (tX12_fail Z 2 hz h) (fun h2 hF => ?_)
    refine j_goto (pc := 15) 28 X dX12_goesOn_15 rfl ?_
    exact j_vret (pc := 28) X E dX12_goesOn_28 hF
theorem dX12_must_0 : decode cX12_must 0 = .ok (.aload_n 0, 1) := by decide +kernel
theorem dX12_must_1 : decode cX12_must 1 = .ok (.iload_n 1, 1) := by decide +kernel
theorem dX12_must_2 : decode cX12_must 2 = .ok (.invokevirtual 272, 3) := by decide +kernel
theorem dX12_must_5 : decode cX12_must 5 = .ok (.ifCond .eq 10, 3) := by decide +kernel
theorem dX12_must_8 : decode cX12_must 8 = .ok (.aload_n 0, 1) := by decide +kernel
theorem dX12_must_9 : decode cX12_must 9 = .ok (.invokevirtual 275, 3) := by decide +kernel
theorem dX12_must_12 : decode cX12_must 12 = .ok (.goto 8, 3) := by decide +kernel
theorem dX12_must_15 : decode cX12_must 15 = .ok (.aload_n 0, 1) := by decide +kernel
theorem dX12_must_16 : decode cX12_must 16 = .ok (.iconst 1, 1) := by decide +kernel
theorem dX12_must_17 : decode cX12_must 17 = .ok (.invokevirtual 269, 3) := by decide +kernel
theorem dX12_must_20 : decode cX12_must 20 = .ok (.return_, 1) := by decide +kernel
def fX12_must (a1 : Int32) (h : Hp) : Option (Hp) := bi (fX12_is a1 h) (fun w2 h1 => (if w2 = 0 then bv (fX12_fail 1 h1) (fun h3 => some h3) else bv (fX12_goesOn h1) (fun h4 => some h4)))
set_option maxRecDepth 20000 in
theorem tX12_must (Z : ZT) (a1 : Int32) (hz : HZM Z) (h : Hp) (hr : Hp) (hF : fX12_must a1 h = some hr) : MC Z yX12_must cX12_must 2 none 2 [.ref (Z.2.1 0), .int a1] h (none) hr := by
  unfold fX12_must at hF
  refine mc_start (by decide) (Nat.le_of_ble_eq_true rfl) (fun G X E => ?_)
  refine j_aload_n (pc := 0) 0 X dX12_must_0 rfl ?_
  refine j_iload_n (pc := 1) 1 X dX12_must_1 rfl ?_
  refine j_cVi (pc := 2) (As := [.int a1]) (rest := []) X dX12_must_2 ml_X12_272 ck_X12_is cv_X12_is (hz _ sh_0) rfl (Nat.le_of_ble_eq_true rfl) rfl (Nat.le_of_ble_eq_true rfl) rfl hF (tX12_is Z a1 hz h) (fun w2 h1 hF => ?_)
  refine j_if_eq (pc := 5) 15 X dX12_must_5 rfl hF (fun hF => ?_) (fun hF => ?_)
  · refine j_aload_n (pc := 15) 0 X dX12_must_15 rfl ?_
    refine j_iconst (pc := 16) 1 X dX12_must_16 rfl ?_
    refine j_cVv (pc := 17) (As := [.int 1]) (rest := []) X dX12_must_17 ml_X12_269 ck_X12_fail cv_X12_fail (hz _ sh_0) rfl (Nat.le_of_ble_eq_true rfl) rfl (Nat.le_of_ble_eq_true rfl) rfl hF (tX12_fail Z 1 hz h1) (fun h3 hF => ?_)
    exact j_vret (pc := 20) X E dX12_must_20 hF
  · refine j_aload_n (pc := 8) 0 X dX12_must_8 rfl ?_
    refine j_cVv (pc := 9) (As := []) (rest := []) X dX12_must_9 ml_X12_275 ck_X12_goesOn cv_X12_goesOn (hz _ sh_0) rfl (Nat.le_of_ble_eq_true rfl) rfl (Nat.le_of_ble_eq_true rfl) rfl hF (tX12_goesOn Z hz h1) (fun h4 hF => ?_)
    refine j_goto (pc := 12) 20 X dX12_must_12 rfl ?_
    exact j_vret (pc := 20) X E dX12_must_20 hF
theorem dX12_named_0 : decode cX12_named 0 = .ok (.aload_n 0, 1) := by decide +kernel
theorem dX12_named_1 : decode cX12_named 1 = .ok (.getfield 257, 3) := by decide +kernel
theorem dX12_named_4 : decode cX12_named 4 = .ok (.istore_n 1, 1) := by decide +kernel
theorem dX12_named_5 : decode cX12_named 5 = .ok (.aload_n 0, 1) := by decide +kernel
theorem dX12_named_6 : decode cX12_named 6 = .ok (.iconst 1, 1) := by decide +kernel
theorem dX12_named_7 : decode cX12_named 7 = .ok (.invokevirtual 331, 3) := by decide +kernel
theorem dX12_named_10 : decode cX12_named 10 = .ok (.iconst 0, 1) := by decide +kernel
theorem dX12_named_11 : decode cX12_named 11 = .ok (.istore_n 2, 1) := by decide +kernel
theorem dX12_named_12 : decode cX12_named 12 = .ok (.iload_n 2, 1) := by decide +kernel
theorem dX12_named_13 : decode cX12_named 13 = .ok (.aload_n 0, 1) := by decide +kernel
theorem dX12_named_14 : decode cX12_named 14 = .ok (.getfield 290, 3) := by decide +kernel
theorem dX12_named_17 : decode cX12_named 17 = .ok (.if_icmp .ge 38, 3) := by decide +kernel
theorem dX12_named_20 : decode cX12_named 20 = .ok (.aload_n 0, 1) := by decide +kernel
theorem dX12_named_21 : decode cX12_named 21 = .ok (.getfield 254, 3) := by decide +kernel
theorem dX12_named_24 : decode cX12_named 24 = .ok (.ifCond .ne 31, 3) := by decide +kernel
theorem dX12_named_27 : decode cX12_named 27 = .ok (.aload_n 0, 1) := by decide +kernel
theorem dX12_named_28 : decode cX12_named 28 = .ok (.getfield 40, 3) := by decide +kernel
theorem dX12_named_31 : decode cX12_named 31 = .ok (.iload_n 2, 1) := by decide +kernel
theorem dX12_named_32 : decode cX12_named 32 = .ok (.laload, 1) := by decide +kernel
theorem dX12_named_33 : decode cX12_named 33 = .ok (.aload_n 0, 1) := by decide +kernel
theorem dX12_named_34 : decode cX12_named 34 = .ok (.getfield 30, 3) := by decide +kernel
theorem dX12_named_37 : decode cX12_named 37 = .ok (.iload_n 1, 1) := by decide +kernel
theorem dX12_named_38 : decode cX12_named 38 = .ok (.laload, 1) := by decide +kernel
theorem dX12_named_39 : decode cX12_named 39 = .ok (.lcmp, 1) := by decide +kernel
theorem dX12_named_40 : decode cX12_named 40 = .ok (.ifCond .ne 9, 3) := by decide +kernel
theorem dX12_named_43 : decode cX12_named 43 = .ok (.aload_n 0, 1) := by decide +kernel
theorem dX12_named_44 : decode cX12_named 44 = .ok (.iconst 3, 1) := by decide +kernel
theorem dX12_named_45 : decode cX12_named 45 = .ok (.iload_n 1, 1) := by decide +kernel
theorem dX12_named_46 : decode cX12_named 46 = .ok (.invokevirtual 312, 3) := by decide +kernel
theorem dX12_named_49 : decode cX12_named 49 = .ok (.iinc 2 1, 3) := by decide +kernel
theorem dX12_named_52 : decode cX12_named 52 = .ok (.goto (-40), 3) := by decide +kernel
theorem dX12_named_55 : decode cX12_named 55 = .ok (.iload_n 1, 1) := by decide +kernel
theorem dX12_named_56 : decode cX12_named 56 = .ok (.ireturn, 1) := by decide +kernel
def bX12_named_49  (r12 : Int32 → Int32 → Hp → Option (Int32 × Hp)) (x1 : Int32) (x2 : Int32) (h : Hp) : Option (Int32 × Hp) := lt (x2 + 1) (fun v1 => r12 x1 v1 h)
set_option maxRecDepth 20000 in
theorem BX12_named_49 {Z : ZT} {G : GT} {r : Int32} {hr : Hp} (X : CX Z G cX12_named RX12 3 3) (E : RX Z G (some .int) (some (.int r)) hr) (hz : HZM Z) (r12 : Int32 → Int32 → Hp → Option (Int32 × Hp)) (hr12 : ∀ (x1 : Int32) (x2 : Int32) (h : Hp), r12 x1 x2 h = some (r, hr) → J Z G 3 h 12 [(0, .ref (Z.2.1 0)), (1, .int x1), (2, .int x2)] []) (x1 : Int32) (x2 : Int32) (h : Hp) (hF : bX12_named_49  r12 x1 x2 h = some (r, hr)) : J Z G 3 h 49 [(0, .ref (Z.2.1 0)), (1, .int x1), (2, .int x2)] [] := by
  unfold bX12_named_49 at hF
  refine j_iinc (pc := 49) 2 (x2 + 1) (fun y => [(2, .int y), (0, .ref (Z.2.1 0)), (1, .int x1)]) X dX12_named_49 rfl rfl (by decide) (fun _ => rfl) hF (fun v1 hF => ?_)
  refine j_goto (pc := 52) 12 X dX12_named_52 rfl ?_
  refine j_lv [(0, .ref (Z.2.1 0)), (1, .int x1), (2, .int v1)] [1, 2, 0] rfl ?_
  exact hr12 x1 v1 h hF
def bX12_named_12   (r12 : Int32 → Int32 → Hp → Option (Int32 × Hp)) (x1 : Int32) (x2 : Int32) (h : Hp) : Option (Int32 × Hp) := (if (h.1 0 20) ≤ x2 then some (x1, h) else (if (h.1 0 13) = 0 then ck (inb x2 24) (ck (inb x1 403) ((if (lg_cmp (h.2 8 (ix x2)) (h.2 6 (ix x1))) = 0 then bv (fX12_amiss 3 x1 h) (fun h1 => bX12_named_49 r12 x1 x2 h1) else bX12_named_49 r12 x1 x2 h))) else some (x1, h)))
def lX12_named_12   : Nat → Int32 → Int32 → Hp → Option (Int32 × Hp)
  | 0 => fun _ _ _ => none
  | n + 1 => bX12_named_12   (lX12_named_12   n)
set_option maxRecDepth 20000 in
theorem BX12_named_12 {Z : ZT} {G : GT} {r : Int32} {hr : Hp} (X : CX Z G cX12_named RX12 3 3) (E : RX Z G (some .int) (some (.int r)) hr) (hz : HZM Z)  (r12 : Int32 → Int32 → Hp → Option (Int32 × Hp)) (hr12 : ∀ (x1 : Int32) (x2 : Int32) (h : Hp), r12 x1 x2 h = some (r, hr) → J Z G 3 h 12 [(0, .ref (Z.2.1 0)), (1, .int x1), (2, .int x2)] []) (x1 : Int32) (x2 : Int32) (h : Hp) (hF : bX12_named_12   r12 x1 x2 h = some (r, hr)) : J Z G 3 h 12 [(0, .ref (Z.2.1 0)), (1, .int x1), (2, .int x2)] [] := by
  unfold bX12_named_12 at hF
  refine j_iload_n (pc := 12) 2 X dX12_named_12 rfl ?_
  refine j_aload_n (pc := 13) 0 X dX12_named_13 rfl ?_
  refine j_geti (pc := 14) X dX12_named_14 (hz _ sh_0) fl_X12_290 rfl ?_
  refine j_icmp_ge (pc := 17) 55 X dX12_named_17 rfl hF (fun hF => ?_) (fun hF => ?_)
  · refine j_iload_n (pc := 55) 1 X dX12_named_55 rfl ?_
    exact j_iret (pc := 56) X E dX12_named_56 hF
  · refine j_aload_n (pc := 20) 0 X dX12_named_20 rfl ?_
    refine j_geti (pc := 21) X dX12_named_21 (hz _ sh_0) fl_X12_254 rfl ?_
    refine j_if_ne (pc := 24) 55 X dX12_named_24 rfl hF (fun hF => ?_) (fun hF => ?_)
    · refine j_iload_n (pc := 55) 1 X dX12_named_55 rfl ?_
      exact j_iret (pc := 56) X E dX12_named_56 hF
    · refine j_aload_n (pc := 27) 0 X dX12_named_27 rfl ?_
      refine j_getr (pc := 28) X dX12_named_28 (hz _ sh_0) fl_X12_40 rfl ?_
      refine j_iload_n (pc := 31) 2 X dX12_named_31 rfl ?_
      refine j_lald (pc := 32) X dX12_named_32 (hz _ sh_8) hF (fun hF => ?_)
      refine j_aload_n (pc := 33) 0 X dX12_named_33 rfl ?_
      refine j_getr (pc := 34) X dX12_named_34 (hz _ sh_0) fl_X12_30 rfl ?_
      refine j_iload_n (pc := 37) 1 X dX12_named_37 rfl ?_
      refine j_lald (pc := 38) X dX12_named_38 (hz _ sh_6) hF (fun hF => ?_)
      refine j_lcmp (pc := 39) X dX12_named_39 ?_
      refine j_if_ne (pc := 40) 49 X dX12_named_40 rfl hF (fun hF => ?_) (fun hF => ?_)
      · exact BX12_named_49 X E hz r12 hr12 x1 x2 h hF
      · refine j_aload_n (pc := 43) 0 X dX12_named_43 rfl ?_
        refine j_iconst (pc := 44) 3 X dX12_named_44 rfl ?_
        refine j_iload_n (pc := 45) 1 X dX12_named_45 rfl ?_
        refine j_cVv (pc := 46) (As := [.int 3, .int x1]) (rest := []) X dX12_named_46 ml_X12_312 ck_X12_amiss cv_X12_amiss (hz _ sh_0) rfl (Nat.le_of_ble_eq_true rfl) rfl (Nat.le_of_ble_eq_true rfl) rfl hF (tX12_amiss Z 3 x1 hz h) (fun h1 hF => ?_)
        exact BX12_named_49 X E hz r12 hr12 x1 x2 h1 hF
theorem LX12_named_12 {Z : ZT} {G : GT} {r : Int32} {hr : Hp} (X : CX Z G cX12_named RX12 3 3) (E : RX Z G (some .int) (some (.int r)) hr) (hz : HZM Z)  : ∀ (n : Nat) (x1 : Int32) (x2 : Int32) (h : Hp), lX12_named_12   n x1 x2 h = some (r, hr) → J Z G 3 h 12 [(0, .ref (Z.2.1 0)), (1, .int x1), (2, .int x2)] [] := by
  intro n
  induction n with
  | zero => intro x1 x2 h hF; cases hF
  | succ n ih => intro x1 x2 h hF; exact BX12_named_12 X E hz  (lX12_named_12   n) ih x1 x2 h hF
def fX12_named  (h : Hp) : Option (Int32 × Hp) := lt (h.1 0 11) (fun v1 => bv (fX12_must 1 h) (fun h2 => lt 0 (fun v3 => lX12_named_12 FU v1 v3 h2)))
set_option maxRecDepth 20000 in
theorem tX12_named (Z : ZT)  (hz : HZM Z) (h : Hp) (r : Int32) (hr : Hp) (hF : fX12_named  h = some (r, hr)) : MC Z yX12_named cX12_named 3 (some .int) 3 [.ref (Z.2.1 0)] h (some (.int r)) hr := by
  unfold fX12_named at hF
  refine mc_start (by decide) (Nat.le_of_ble_eq_true rfl) (fun G X E => ?_)
  refine j_aload_n (pc := 0) 0 X dX12_named_0 rfl ?_
  refine j_geti (pc := 1) X dX12_named_1 (hz _ sh_0) fl_X12_257 rfl ?_
  refine j_istore_n (pc := 4) (fun y => [(1, .int y), (0, .ref (Z.2.1 0))]) X dX12_named_4 (by decide) (fun _ => rfl) hF (fun v1 hF => ?_)
  refine j_aload_n (pc := 5) 1 X dX12_named_5 rfl ?_
  refine j_iconst (pc := 6) 1 X dX12_named_6 rfl ?_
  refine j_cVv (pc := 7) (As := [.int 1]) (rest := []) X dX12_named_7 ml_X12_331 ck_X12_must cv_X12_must (hz _ sh_0) rfl (Nat.le_of_ble_eq_true rfl) rfl (Nat.le_of_ble_eq_true rfl) rfl hF (tX12_must Z 1 hz h) (fun h2 hF => ?_)
  refine j_iconst (pc := 10) 0 X dX12_named_10 rfl ?_
  refine j_istore_n (pc := 11) (fun y => [(2, .int y), (1, .int v1), (0, .ref (Z.2.1 0))]) X dX12_named_11 (by decide) (fun _ => rfl) hF (fun v3 hF => ?_)
  refine j_lv [(0, .ref (Z.2.1 0)), (1, .int v1), (2, .int v3)] [2, 1, 0] rfl ?_
  exact LX12_named_12 X E hz FU v1 v3 h2 hF
theorem dX12_bounded_0 : decode cX12_bounded 0 = .ok (.aload_n 0, 1) := by decide +kernel
theorem dX12_bounded_1 : decode cX12_bounded 1 = .ok (.getfield 254, 3) := by decide +kernel
theorem dX12_bounded_4 : decode cX12_bounded 4 = .ok (.ifCond .gt 11, 3) := by decide +kernel
theorem dX12_bounded_7 : decode cX12_bounded 7 = .ok (.aload_n 0, 1) := by decide +kernel
theorem dX12_bounded_8 : decode cX12_bounded 8 = .ok (.iconst 2, 1) := by decide +kernel
theorem dX12_bounded_9 : decode cX12_bounded 9 = .ok (.invokevirtual 272, 3) := by decide +kernel
theorem dX12_bounded_12 : decode cX12_bounded 12 = .ok (.ifCond .ne 10, 3) := by decide +kernel
theorem dX12_bounded_15 : decode cX12_bounded 15 = .ok (.aload_n 0, 1) := by decide +kernel
theorem dX12_bounded_16 : decode cX12_bounded 16 = .ok (.iconst 1, 1) := by decide +kernel
theorem dX12_bounded_17 : decode cX12_bounded 17 = .ok (.invokevirtual 269, 3) := by decide +kernel
theorem dX12_bounded_20 : decode cX12_bounded 20 = .ok (.iload_n 1, 1) := by decide +kernel
theorem dX12_bounded_21 : decode cX12_bounded 21 = .ok (.ireturn, 1) := by decide +kernel
theorem dX12_bounded_22 : decode cX12_bounded 22 = .ok (.aload_n 0, 1) := by decide +kernel
theorem dX12_bounded_23 : decode cX12_bounded 23 = .ok (.getfield 27, 3) := by decide +kernel
theorem dX12_bounded_26 : decode cX12_bounded 26 = .ok (.aload_n 0, 1) := by decide +kernel
theorem dX12_bounded_27 : decode cX12_bounded 27 = .ok (.getfield 257, 3) := by decide +kernel
theorem dX12_bounded_30 : decode cX12_bounded 30 = .ok (.iaload, 1) := by decide +kernel
theorem dX12_bounded_31 : decode cX12_bounded 31 = .ok (.istore_n 3, 1) := by decide +kernel
theorem dX12_bounded_32 : decode cX12_bounded 32 = .ok (.iload_n 3, 1) := by decide +kernel
theorem dX12_bounded_33 : decode cX12_bounded 33 = .ok (.iload_n 1, 1) := by decide +kernel
theorem dX12_bounded_34 : decode cX12_bounded 34 = .ok (.if_icmp .lt 8, 3) := by decide +kernel
theorem dX12_bounded_37 : decode cX12_bounded 37 = .ok (.iload_n 3, 1) := by decide +kernel
theorem dX12_bounded_38 : decode cX12_bounded 38 = .ok (.iload_n 2, 1) := by decide +kernel
theorem dX12_bounded_39 : decode cX12_bounded 39 = .ok (.if_icmp .le 12, 3) := by decide +kernel
theorem dX12_bounded_42 : decode cX12_bounded 42 = .ok (.aload_n 0, 1) := by decide +kernel
theorem dX12_bounded_43 : decode cX12_bounded 43 = .ok (.iconst 5, 1) := by decide +kernel
theorem dX12_bounded_44 : decode cX12_bounded 44 = .ok (.aload_n 0, 1) := by decide +kernel
theorem dX12_bounded_45 : decode cX12_bounded 45 = .ok (.getfield 257, 3) := by decide +kernel
theorem dX12_bounded_48 : decode cX12_bounded 48 = .ok (.invokevirtual 312, 3) := by decide +kernel
theorem dX12_bounded_51 : decode cX12_bounded 51 = .ok (.aload_n 0, 1) := by decide +kernel
theorem dX12_bounded_52 : decode cX12_bounded 52 = .ok (.invokevirtual 275, 3) := by decide +kernel
theorem dX12_bounded_55 : decode cX12_bounded 55 = .ok (.iload_n 3, 1) := by decide +kernel
theorem dX12_bounded_56 : decode cX12_bounded 56 = .ok (.ireturn, 1) := by decide +kernel
def bX12_bounded_15   (x1 : Int32) (h : Hp) : Option (Int32 × Hp) := bv (fX12_fail 1 h) (fun h1 => some (x1, h1))
set_option maxRecDepth 20000 in
theorem BX12_bounded_15 {Z : ZT} {G : GT} {r : Int32} {hr : Hp} (X : CX Z G cX12_bounded RX12 4 2) (E : RX Z G (some .int) (some (.int r)) hr) (hz : HZM Z)  (x1 : Int32) (h : Hp) (hF : bX12_bounded_15   x1 h = some (r, hr)) : J Z G 4 h 15 [(0, .ref (Z.2.1 0)), (1, .int x1)] [] := by
  unfold bX12_bounded_15 at hF
  refine j_aload_n (pc := 15) 0 X dX12_bounded_15 rfl ?_
  refine j_iconst (pc := 16) 1 X dX12_bounded_16 rfl ?_
  refine j_cVv (pc := 17) (As := [.int 1]) (rest := []) X dX12_bounded_17 ml_X12_269 ck_X12_fail cv_X12_fail (hz _ sh_0) rfl (Nat.le_of_ble_eq_true rfl) rfl (Nat.le_of_ble_eq_true rfl) rfl hF (tX12_fail Z 1 hz h) (fun h1 hF => ?_)
  refine j_iload_n (pc := 20) 1 X dX12_bounded_20 rfl ?_
  exact j_iret (pc := 21) X E dX12_bounded_21 hF
def bX12_bounded_51   (x3 : Int32) (h : Hp) : Option (Int32 × Hp) := bv (fX12_goesOn h) (fun h1 => some (x3, h1))
set_option maxRecDepth 20000 in
theorem BX12_bounded_51 {Z : ZT} {G : GT} {r : Int32} {hr : Hp} (X : CX Z G cX12_bounded RX12 4 2) (E : RX Z G (some .int) (some (.int r)) hr) (hz : HZM Z)  (x3 : Int32) (h : Hp) (hF : bX12_bounded_51   x3 h = some (r, hr)) : J Z G 4 h 51 [(0, .ref (Z.2.1 0)), (3, .int x3)] [] := by
  unfold bX12_bounded_51 at hF
  refine j_aload_n (pc := 51) 0 X dX12_bounded_51 rfl ?_
  refine j_cVv (pc := 52) (As := []) (rest := []) X dX12_bounded_52 ml_X12_275 ck_X12_goesOn cv_X12_goesOn (hz _ sh_0) rfl (Nat.le_of_ble_eq_true rfl) rfl (Nat.le_of_ble_eq_true rfl) rfl hF (tX12_goesOn Z hz h) (fun h1 hF => ?_)
  refine j_iload_n (pc := 55) 1 X dX12_bounded_55 rfl ?_
  exact j_iret (pc := 56) X E dX12_bounded_56 hF
def bX12_bounded_42   (x3 : Int32) (h : Hp) : Option (Int32 × Hp) := bv (fX12_amiss 5 (h.1 0 11) h) (fun h1 => bX12_bounded_51 x3 h1)
set_option maxRecDepth 20000 in
theorem BX12_bounded_42 {Z : ZT} {G : GT} {r : Int32} {hr : Hp} (X : CX Z G cX12_bounded RX12 4 2) (E : RX Z G (some .int) (some (.int r)) hr) (hz : HZM Z)  (x3 : Int32) (h : Hp) (hF : bX12_bounded_42   x3 h = some (r, hr)) : J Z G 4 h 42 [(0, .ref (Z.2.1 0)), (3, .int x3)] [] := by
  unfold bX12_bounded_42 at hF
  refine j_aload_n (pc := 42) 0 X dX12_bounded_42 rfl ?_
  refine j_iconst (pc := 43) 5 X dX12_bounded_43 rfl ?_
  refine j_aload_n (pc := 44) 0 X dX12_bounded_44 rfl ?_
  refine j_geti (pc := 45) X dX12_bounded_45 (hz _ sh_0) fl_X12_257 rfl ?_
  refine j_cVv (pc := 48) (As := [.int 5, .int (h.1 0 11)]) (rest := []) X dX12_bounded_48 ml_X12_312 ck_X12_amiss cv_X12_amiss (hz _ sh_0) rfl (Nat.le_of_ble_eq_true rfl) rfl (Nat.le_of_ble_eq_true rfl) rfl hF (tX12_amiss Z 5 (h.1 0 11) hz h) (fun h1 hF => ?_)
  exact BX12_bounded_51 X E hz x3 h1 hF
def fX12_bounded (a1 : Int32) (a2 : Int32) (h : Hp) : Option (Int32 × Hp) := (if 0 < (h.1 0 13) then bX12_bounded_15 a1 h else bi (fX12_is 2 h) (fun w2 h1 => (if w2 = 0 then bX12_bounded_15 a1 h1 else ck (inb (h1.1 0 11) 403) (lt (h1.1 5 (ix (h1.1 0 11))) (fun v3 => (if v3 < a1 then bX12_bounded_42 v3 h1 else (if v3 ≤ a2 then bX12_bounded_51 v3 h1 else bX12_bounded_42 v3 h1)))))))
set_option maxRecDepth 20000 in
theorem tX12_bounded (Z : ZT) (a1 : Int32) (a2 : Int32) (hz : HZM Z) (h : Hp) (r : Int32) (hr : Hp) (hF : fX12_bounded a1 a2 h = some (r, hr)) : MC Z yX12_bounded cX12_bounded 4 (some .int) 2 [.ref (Z.2.1 0), .int a1, .int a2] h (some (.int r)) hr := by
  unfold fX12_bounded at hF
  refine mc_start (by decide) (Nat.le_of_ble_eq_true rfl) (fun G X E => ?_)
  refine j_aload_n (pc := 0) 0 X dX12_bounded_0 rfl ?_
  refine j_geti (pc := 1) X dX12_bounded_1 (hz _ sh_0) fl_X12_254 rfl ?_
  refine j_if_gt (pc := 4) 15 X dX12_bounded_4 rfl hF (fun hF => ?_) (fun hF => ?_)
  · refine j_lv [(0, .ref (Z.2.1 0)), (1, .int a1)] [0, 1] rfl ?_
    exact BX12_bounded_15 X E hz a1 h hF
  · refine j_aload_n (pc := 7) 0 X dX12_bounded_7 rfl ?_
    refine j_iconst (pc := 8) 2 X dX12_bounded_8 rfl ?_
    refine j_cVi (pc := 9) (As := [.int 2]) (rest := []) X dX12_bounded_9 ml_X12_272 ck_X12_is cv_X12_is (hz _ sh_0) rfl (Nat.le_of_ble_eq_true rfl) rfl (Nat.le_of_ble_eq_true rfl) rfl hF (tX12_is Z 2 hz h) (fun w2 h1 hF => ?_)
    refine j_if_ne (pc := 12) 22 X dX12_bounded_12 rfl hF (fun hF => ?_) (fun hF => ?_)
    · refine j_aload_n (pc := 22) 0 X dX12_bounded_22 rfl ?_
      refine j_getr (pc := 23) X dX12_bounded_23 (hz _ sh_0) fl_X12_27 rfl ?_
      refine j_aload_n (pc := 26) 0 X dX12_bounded_26 rfl ?_
      refine j_geti (pc := 27) X dX12_bounded_27 (hz _ sh_0) fl_X12_257 rfl ?_
      refine j_iald (pc := 30) X dX12_bounded_30 (hz _ sh_5) hF (fun hF => ?_)
      refine j_istore_n (pc := 31) (fun y => [(3, .int y), (0, .ref (Z.2.1 0)), (1, .int a1), (2, .int a2)]) X dX12_bounded_31 (by decide) (fun _ => rfl) hF (fun v3 hF => ?_)
      refine j_iload_n (pc := 32) 0 X dX12_bounded_32 rfl ?_
      refine j_iload_n (pc := 33) 2 X dX12_bounded_33 rfl ?_
      refine j_icmp_lt (pc := 34) 42 X dX12_bounded_34 rfl hF (fun hF => ?_) (fun hF => ?_)
      · refine j_lv [(0, .ref (Z.2.1 0)), (3, .int v3)] [1, 0] rfl ?_
        exact BX12_bounded_42 X E hz v3 h1 hF
      · refine j_iload_n (pc := 37) 0 X dX12_bounded_37 rfl ?_
        refine j_iload_n (pc := 38) 3 X dX12_bounded_38 rfl ?_
        refine j_icmp_le (pc := 39) 51 X dX12_bounded_39 rfl hF (fun hF => ?_) (fun hF => ?_)
        · refine j_lv [(0, .ref (Z.2.1 0)), (3, .int v3)] [1, 0] rfl ?_
          exact BX12_bounded_51 X E hz v3 h1 hF
        · refine j_lv [(0, .ref (Z.2.1 0)), (3, .int v3)] [1, 0] rfl ?_
          exact BX12_bounded_42 X E hz v3 h1 hF
    · refine j_lv [(0, .ref (Z.2.1 0)), (1, .int a1)] [0, 1] rfl ?_
      exact BX12_bounded_15 X E hz a1 h1 hF
theorem dX12_notes_0 : decode cX12_notes 0 = .ok (.aload_n 0, 1) := by decide +kernel
theorem dX12_notes_1 : decode cX12_notes 1 = .ok (.getfield 40, 3) := by decide +kernel
theorem dX12_notes_4 : decode cX12_notes 4 = .ok (.aload_n 0, 1) := by decide +kernel
theorem dX12_notes_5 : decode cX12_notes 5 = .ok (.getfield 290, 3) := by decide +kernel
theorem dX12_notes_8 : decode cX12_notes 8 = .ok (.aload_n 0, 1) := by decide +kernel
theorem dX12_notes_9 : decode cX12_notes 9 = .ok (.getfield 30, 3) := by decide +kernel
theorem dX12_notes_12 : decode cX12_notes 12 = .ok (.iload_n 1, 1) := by decide +kernel
theorem dX12_notes_13 : decode cX12_notes 13 = .ok (.laload, 1) := by decide +kernel
theorem dX12_notes_14 : decode cX12_notes 14 = .ok (.lastore, 1) := by decide +kernel
theorem dX12_notes_15 : decode cX12_notes 15 = .ok (.aload_n 0, 1) := by decide +kernel
theorem dX12_notes_16 : decode cX12_notes 16 = .ok (.getfield 43, 3) := by decide +kernel
theorem dX12_notes_19 : decode cX12_notes 19 = .ok (.aload_n 0, 1) := by decide +kernel
theorem dX12_notes_20 : decode cX12_notes 20 = .ok (.getfield 290, 3) := by decide +kernel
theorem dX12_notes_23 : decode cX12_notes 23 = .ok (.iload_n 2, 1) := by decide +kernel
theorem dX12_notes_24 : decode cX12_notes 24 = .ok (.iastore, 1) := by decide +kernel
theorem dX12_notes_25 : decode cX12_notes 25 = .ok (.aload_n 0, 1) := by decide +kernel
theorem dX12_notes_26 : decode cX12_notes 26 = .ok (.getfield 46, 3) := by decide +kernel
theorem dX12_notes_29 : decode cX12_notes 29 = .ok (.aload_n 0, 1) := by decide +kernel
theorem dX12_notes_30 : decode cX12_notes 30 = .ok (.getfield 290, 3) := by decide +kernel
theorem dX12_notes_33 : decode cX12_notes 33 = .ok (.iload_n 3, 1) := by decide +kernel
theorem dX12_notes_34 : decode cX12_notes 34 = .ok (.iastore, 1) := by decide +kernel
theorem dX12_notes_35 : decode cX12_notes 35 = .ok (.aload_n 0, 1) := by decide +kernel
theorem dX12_notes_36 : decode cX12_notes 36 = .ok (.dup, 1) := by decide +kernel
theorem dX12_notes_37 : decode cX12_notes 37 = .ok (.getfield 290, 3) := by decide +kernel
theorem dX12_notes_40 : decode cX12_notes 40 = .ok (.iconst 1, 1) := by decide +kernel
theorem dX12_notes_41 : decode cX12_notes 41 = .ok (.iadd, 1) := by decide +kernel
theorem dX12_notes_42 : decode cX12_notes 42 = .ok (.putfield 290, 3) := by decide +kernel
theorem dX12_notes_45 : decode cX12_notes 45 = .ok (.return_, 1) := by decide +kernel
def fX12_notes (a1 : Int32) (a2 : Int32) (a3 : Int32) (h : Hp) : Option (Hp) := ck (inb a1 403) (ck (inb (h.1 0 20) 24) (lt (wL h 8 (ix (h.1 0 20)) (h.2 6 (ix a1))) (fun h1 => ck (inb (h1.1 0 20) 24) (lt (wI h1 9 (ix (h1.1 0 20)) a2) (fun h2 => ck (inb (h2.1 0 20) 24) (lt (wI h2 10 (ix (h2.1 0 20)) a3) (fun h3 => lt (wI h3 0 20 ((h3.1 0 20) + 1)) (fun h4 => some h4))))))))
set_option maxRecDepth 20000 in
theorem tX12_notes (Z : ZT) (a1 : Int32) (a2 : Int32) (a3 : Int32) (hz : HZM Z) (h : Hp) (hr : Hp) (hF : fX12_notes a1 a2 a3 h = some hr) : MC Z yX12_notes cX12_notes 4 none 0 [.ref (Z.2.1 0), .int a1, .int a2, .int a3] h (none) hr := by
  unfold fX12_notes at hF
  refine mc_start (by decide) (Nat.le_of_ble_eq_true rfl) (fun G X E => ?_)
  refine j_aload_n (pc := 0) 0 X dX12_notes_0 rfl ?_
  refine j_getr (pc := 1) X dX12_notes_1 (hz _ sh_0) fl_X12_40 rfl ?_
  refine j_aload_n (pc := 4) 0 X dX12_notes_4 rfl ?_
  refine j_geti (pc := 5) X dX12_notes_5 (hz _ sh_0) fl_X12_290 rfl ?_
  refine j_aload_n (pc := 8) 0 X dX12_notes_8 rfl ?_
  refine j_getr (pc := 9) X dX12_notes_9 (hz _ sh_0) fl_X12_30 rfl ?_
  refine j_iload_n (pc := 12) 1 X dX12_notes_12 rfl ?_
  refine j_lald (pc := 13) X dX12_notes_13 (hz _ sh_6) hF (fun hF => ?_)
  refine j_last (pc := 14) X dX12_notes_14 (hz _ sh_8) hF (fun h1 hF => ?_)
  refine j_aload_n (pc := 15) 0 X dX12_notes_15 rfl ?_
  refine j_getr (pc := 16) X dX12_notes_16 (hz _ sh_0) fl_X12_43 rfl ?_
  refine j_aload_n (pc := 19) 0 X dX12_notes_19 rfl ?_
  refine j_geti (pc := 20) X dX12_notes_20 (hz _ sh_0) fl_X12_290 rfl ?_
  refine j_iload_n (pc := 23) 2 X dX12_notes_23 rfl ?_
  refine j_iast (pc := 24) X dX12_notes_24 (hz _ sh_9) hF (fun h2 hF => ?_)
  refine j_aload_n (pc := 25) 0 X dX12_notes_25 rfl ?_
  refine j_getr (pc := 26) X dX12_notes_26 (hz _ sh_0) fl_X12_46 rfl ?_
  refine j_aload_n (pc := 29) 0 X dX12_notes_29 rfl ?_
  refine j_geti (pc := 30) X dX12_notes_30 (hz _ sh_0) fl_X12_290 rfl ?_
  refine j_iload_n (pc := 33) 3 X dX12_notes_33 rfl ?_
  refine j_iast (pc := 34) X dX12_notes_34 (hz _ sh_10) hF (fun h3 hF => ?_)
  refine j_aload_n (pc := 35) 0 X dX12_notes_35 rfl ?_
  refine j_dup (pc := 36) X dX12_notes_36 rfl ?_
  refine j_geti (pc := 37) X dX12_notes_37 (hz _ sh_0) fl_X12_290 rfl ?_
  refine j_iconst (pc := 40) 1 X dX12_notes_40 rfl ?_
  refine j_iadd (pc := 41) X dX12_notes_41 ?_
  refine j_puti (pc := 42) X dX12_notes_42 (hz _ sh_0) fp_X12_290 rfl hF (fun h4 hF => ?_)
  exact j_vret (pc := 45) X E dX12_notes_45 hF
theorem dX12_tellPerson_0 : decode cX12_tellPerson 0 = .ok (.aload_n 0, 1) := by decide +kernel
theorem dX12_tellPerson_1 : decode cX12_tellPerson 1 = .ok (.invokevirtual 275, 3) := by decide +kernel
theorem dX12_tellPerson_4 : decode cX12_tellPerson 4 = .ok (.aload_n 0, 1) := by decide +kernel
theorem dX12_tellPerson_5 : decode cX12_tellPerson 5 = .ok (.invokevirtual 337, 3) := by decide +kernel
theorem dX12_tellPerson_8 : decode cX12_tellPerson 8 = .ok (.istore_n 1, 1) := by decide +kernel
theorem dX12_tellPerson_9 : decode cX12_tellPerson 9 = .ok (.aload_n 0, 1) := by decide +kernel
theorem dX12_tellPerson_10 : decode cX12_tellPerson 10 = .ok (.iconst 0, 1) := by decide +kernel
theorem dX12_tellPerson_11 : decode cX12_tellPerson 11 = .ok (.bipush 99, 2) := by decide +kernel
theorem dX12_tellPerson_13 : decode cX12_tellPerson 13 = .ok (.invokevirtual 328, 3) := by decide +kernel
theorem dX12_tellPerson_16 : decode cX12_tellPerson 16 = .ok (.istore_n 2, 1) := by decide +kernel
theorem dX12_tellPerson_17 : decode cX12_tellPerson 17 = .ok (.aload_n 0, 1) := by decide +kernel
theorem dX12_tellPerson_18 : decode cX12_tellPerson 18 = .ok (.iconst 4, 1) := by decide +kernel
theorem dX12_tellPerson_19 : decode cX12_tellPerson 19 = .ok (.invokevirtual 331, 3) := by decide +kernel
theorem dX12_tellPerson_22 : decode cX12_tellPerson 22 = .ok (.aload_n 0, 1) := by decide +kernel
theorem dX12_tellPerson_23 : decode cX12_tellPerson 23 = .ok (.getfield 254, 3) := by decide +kernel
theorem dX12_tellPerson_26 : decode cX12_tellPerson 26 = .ok (.ifCond .le 4, 3) := by decide +kernel
theorem dX12_tellPerson_29 : decode cX12_tellPerson 29 = .ok (.return_, 1) := by decide +kernel
theorem dX12_tellPerson_30 : decode cX12_tellPerson 30 = .ok (.aload_n 0, 1) := by decide +kernel
theorem dX12_tellPerson_31 : decode cX12_tellPerson 31 = .ok (.getfield 52, 3) := by decide +kernel
theorem dX12_tellPerson_34 : decode cX12_tellPerson 34 = .ok (.bipush 10, 2) := by decide +kernel
theorem dX12_tellPerson_36 : decode cX12_tellPerson 36 = .ok (.aload_n 0, 1) := by decide +kernel
theorem dX12_tellPerson_37 : decode cX12_tellPerson 37 = .ok (.getfield 287, 3) := by decide +kernel
theorem dX12_tellPerson_40 : decode cX12_tellPerson 40 = .ok (.imul, 1) := by decide +kernel
theorem dX12_tellPerson_41 : decode cX12_tellPerson 41 = .ok (.aload_n 0, 1) := by decide +kernel
theorem dX12_tellPerson_42 : decode cX12_tellPerson 42 = .ok (.getfield 49, 3) := by decide +kernel
theorem dX12_tellPerson_45 : decode cX12_tellPerson 45 = .ok (.aload_n 0, 1) := by decide +kernel
theorem dX12_tellPerson_46 : decode cX12_tellPerson 46 = .ok (.getfield 287, 3) := by decide +kernel
theorem dX12_tellPerson_49 : decode cX12_tellPerson 49 = .ok (.iaload, 1) := by decide +kernel
theorem dX12_tellPerson_50 : decode cX12_tellPerson 50 = .ok (.iadd, 1) := by decide +kernel
theorem dX12_tellPerson_51 : decode cX12_tellPerson 51 = .ok (.iload_n 2, 1) := by decide +kernel
theorem dX12_tellPerson_52 : decode cX12_tellPerson 52 = .ok (.iastore, 1) := by decide +kernel
theorem dX12_tellPerson_53 : decode cX12_tellPerson 53 = .ok (.aload_n 0, 1) := by decide +kernel
theorem dX12_tellPerson_54 : decode cX12_tellPerson 54 = .ok (.iload_n 1, 1) := by decide +kernel
theorem dX12_tellPerson_55 : decode cX12_tellPerson 55 = .ok (.iconst 0, 1) := by decide +kernel
theorem dX12_tellPerson_56 : decode cX12_tellPerson 56 = .ok (.aload_n 0, 1) := by decide +kernel
theorem dX12_tellPerson_57 : decode cX12_tellPerson 57 = .ok (.getfield 49, 3) := by decide +kernel
theorem dX12_tellPerson_60 : decode cX12_tellPerson 60 = .ok (.aload_n 0, 1) := by decide +kernel
theorem dX12_tellPerson_61 : decode cX12_tellPerson 61 = .ok (.getfield 287, 3) := by decide +kernel
theorem dX12_tellPerson_64 : decode cX12_tellPerson 64 = .ok (.iaload, 1) := by decide +kernel
theorem dX12_tellPerson_65 : decode cX12_tellPerson 65 = .ok (.invokevirtual 341, 3) := by decide +kernel
theorem dX12_tellPerson_68 : decode cX12_tellPerson 68 = .ok (.aload_n 0, 1) := by decide +kernel
theorem dX12_tellPerson_69 : decode cX12_tellPerson 69 = .ok (.getfield 49, 3) := by decide +kernel
theorem dX12_tellPerson_72 : decode cX12_tellPerson 72 = .ok (.aload_n 0, 1) := by decide +kernel
theorem dX12_tellPerson_73 : decode cX12_tellPerson 73 = .ok (.getfield 287, 3) := by decide +kernel
theorem dX12_tellPerson_76 : decode cX12_tellPerson 76 = .ok (.dup2, 1) := by decide +kernel
theorem dX12_tellPerson_77 : decode cX12_tellPerson 77 = .ok (.iaload, 1) := by decide +kernel
theorem dX12_tellPerson_78 : decode cX12_tellPerson 78 = .ok (.iconst 1, 1) := by decide +kernel
theorem dX12_tellPerson_79 : decode cX12_tellPerson 79 = .ok (.iadd, 1) := by decide +kernel
theorem dX12_tellPerson_80 : decode cX12_tellPerson 80 = .ok (.iastore, 1) := by decide +kernel
theorem dX12_tellPerson_81 : decode cX12_tellPerson 81 = .ok (.return_, 1) := by decide +kernel
def fX12_tellPerson  (h : Hp) : Option (Hp) := bv (fX12_goesOn h) (fun h1 => bi (fX12_named h1) (fun w3 h2 => lt w3 (fun v4 => bi (fX12_bounded 0 99 h2) (fun w6 h5 => lt w6 (fun v7 => bv (fX12_must 4 h5) (fun h8 => (if (h8.1 0 13) ≤ 0 then ck (inb (h8.1 0 19) 2) (ck (inb (((10 : Int32) * (h8.1 0 19)) + (h8.1 11 (ix (h8.1 0 19)))) 20) (lt (wI h8 12 (ix (((10 : Int32) * (h8.1 0 19)) + (h8.1 11 (ix (h8.1 0 19))))) v7) (fun h9 => ck (inb (h9.1 0 19) 2) (bv (fX12_notes v4 0 (h9.1 11 (ix (h9.1 0 19))) h9) (fun h10 => ck (inb (h10.1 0 19) 2) (ck (inb (h10.1 0 19) 2) (lt (wI h10 11 (ix (h10.1 0 19)) ((h10.1 11 (ix (h10.1 0 19))) + 1)) (fun h11 => some h11)))))))) else some h8)))))))
set_option maxRecDepth 20000 in
theorem tX12_tellPerson (Z : ZT)  (hz : HZM Z) (h : Hp) (hr : Hp) (hF : fX12_tellPerson  h = some hr) : MC Z yX12_tellPerson cX12_tellPerson 3 none 4 [.ref (Z.2.1 0)] h (none) hr := by
  unfold fX12_tellPerson at hF
  refine mc_start (by decide) (Nat.le_of_ble_eq_true rfl) (fun G X E => ?_)
  refine j_aload_n (pc := 0) 0 X dX12_tellPerson_0 rfl ?_
  refine j_cVv (pc := 1) (As := []) (rest := []) X dX12_tellPerson_1 ml_X12_275 ck_X12_goesOn cv_X12_goesOn (hz _ sh_0) rfl (Nat.le_of_ble_eq_true rfl) rfl (Nat.le_of_ble_eq_true rfl) rfl hF (tX12_goesOn Z hz h) (fun h1 hF => ?_)
  refine j_aload_n (pc := 4) 0 X dX12_tellPerson_4 rfl ?_
  refine j_cVi (pc := 5) (As := []) (rest := []) X dX12_tellPerson_5 ml_X12_337 ck_X12_named cv_X12_named (hz _ sh_0) rfl (Nat.le_of_ble_eq_true rfl) rfl (Nat.le_of_ble_eq_true rfl) rfl hF (tX12_named Z hz h1) (fun w3 h2 hF => ?_)
  refine j_istore_n (pc := 8) (fun y => [(1, .int y), (0, .ref (Z.2.1 0))]) X dX12_tellPerson_8 (by decide) (fun _ => rfl) hF (fun v4 hF => ?_)
  refine j_aload_n (pc := 9) 1 X dX12_tellPerson_9 rfl ?_
  refine j_iconst (pc := 10) 0 X dX12_tellPerson_10 rfl ?_
  refine j_bipush (pc := 11) 99 X dX12_tellPerson_11 rfl ?_
  refine j_cVi (pc := 13) (As := [.int 0, .int 99]) (rest := []) X dX12_tellPerson_13 ml_X12_328 ck_X12_bounded cv_X12_bounded (hz _ sh_0) rfl (Nat.le_of_ble_eq_true rfl) rfl (Nat.le_of_ble_eq_true rfl) rfl hF (tX12_bounded Z 0 99 hz h2) (fun w6 h5 hF => ?_)
  refine j_istore_n (pc := 16) (fun y => [(2, .int y), (1, .int v4), (0, .ref (Z.2.1 0))]) X dX12_tellPerson_16 (by decide) (fun _ => rfl) hF (fun v7 hF => ?_)
  refine j_aload_n (pc := 17) 2 X dX12_tellPerson_17 rfl ?_
  refine j_iconst (pc := 18) 4 X dX12_tellPerson_18 rfl ?_
  refine j_cVv (pc := 19) (As := [.int 4]) (rest := []) X dX12_tellPerson_19 ml_X12_331 ck_X12_must cv_X12_must (hz _ sh_0) rfl (Nat.le_of_ble_eq_true rfl) rfl (Nat.le_of_ble_eq_true rfl) rfl hF (tX12_must Z 4 hz h5) (fun h8 hF => ?_)
  refine j_aload_n (pc := 22) 2 X dX12_tellPerson_22 rfl ?_
  refine j_geti (pc := 23) X dX12_tellPerson_23 (hz _ sh_0) fl_X12_254 rfl ?_
  refine j_if_le (pc := 26) 30 X dX12_tellPerson_26 rfl hF (fun hF => ?_) (fun hF => ?_)
  · refine j_aload_n (pc := 30) 2 X dX12_tellPerson_30 rfl ?_
    refine j_getr (pc := 31) X dX12_tellPerson_31 (hz _ sh_0) fl_X12_52 rfl ?_
    refine j_bipush (pc := 34) 10 X dX12_tellPerson_34 rfl ?_
    refine j_aload_n (pc := 36) 2 X dX12_tellPerson_36 rfl ?_
    refine j_geti (pc := 37) X dX12_tellPerson_37 (hz _ sh_0) fl_X12_287 rfl ?_
    refine j_imul (pc := 40) X dX12_tellPerson_40 ?_
    refine j_aload_n (pc := 41) 2 X dX12_tellPerson_41 rfl ?_
    refine j_getr (pc := 42) X dX12_tellPerson_42 (hz _ sh_0) fl_X12_49 rfl ?_
    refine j_aload_n (pc := 45) 2 X dX12_tellPerson_45 rfl ?_
    refine j_geti (pc := 46) X dX12_tellPerson_46 (hz _ sh_0) fl_X12_287 rfl ?_
    refine j_iald (pc := 49) X dX12_tellPerson_49 (hz _ sh_11) hF (fun hF => ?_)
    refine j_iadd (pc := 50) X dX12_tellPerson_50 ?_
    refine j_iload_n (pc := 51) 0 X dX12_tellPerson_51 rfl ?_
    refine j_iast (pc := 52) X dX12_tellPerson_52 (hz _ sh_12) hF (fun h9 hF => ?_)
    refine j_aload_n (pc := 53) 2 X dX12_tellPerson_53 rfl ?_
    refine j_iload_n (pc := 54) 1 X dX12_tellPerson_54 rfl ?_
    refine j_iconst (pc := 55) 0 X dX12_tellPerson_55 rfl ?_
    refine j_aload_n (pc := 56) 2 X dX12_tellPerson_56 rfl ?_
    refine j_getr (pc := 57) X dX12_tellPerson_57 (hz _ sh_0) fl_X12_49 rfl ?_
    refine j_aload_n (pc := 60) 2 X dX12_tellPerson_60 rfl ?_
    refine j_geti (pc := 61) X dX12_tellPerson_61 (hz _ sh_0) fl_X12_287 rfl ?_
    refine j_iald (pc := 64) X dX12_tellPerson_64 (hz _ sh_11) hF (fun hF => ?_)
    refine j_cVv (pc := 65) (As := [.int v4, .int 0, .int (h9.1 11 (ix (h9.1 0 19)))]) (rest := []) X dX12_tellPerson_65 ml_X12_341 ck_X12_notes cv_X12_notes (hz _ sh_0) rfl (Nat.le_of_ble_eq_true rfl) rfl (Nat.le_of_ble_eq_true rfl) rfl hF (tX12_notes Z v4 0 (h9.1 11 (ix (h9.1 0 19))) hz h9) (fun h10 hF => ?_)
    refine j_aload_n (pc := 68) 2 X dX12_tellPerson_68 rfl ?_
    refine j_getr (pc := 69) X dX12_tellPerson_69 (hz _ sh_0) fl_X12_49 rfl ?_
    refine j_aload_n (pc := 72) 2 X dX12_tellPerson_72 rfl ?_
    refine j_geti (pc := 73) X dX12_tellPerson_73 (hz _ sh_0) fl_X12_287 rfl ?_
    refine j_dup2 (pc := 76) X dX12_tellPerson_76 rfl rfl ?_
    refine j_iald (pc := 77) X dX12_tellPerson_77 (hz _ sh_11) hF (fun hF => ?_)
    refine j_iconst (pc := 78) 1 X dX12_tellPerson_78 rfl ?_
    refine j_iadd (pc := 79) X dX12_tellPerson_79 ?_
    refine j_iast (pc := 80) X dX12_tellPerson_80 (hz _ sh_11) hF (fun h11 hF => ?_)
    exact j_vret (pc := 81) X E dX12_tellPerson_81 hF
  · exact j_vret (pc := 29) X E dX12_tellPerson_29 hF
theorem dX12_tellClerk_0 : decode cX12_tellClerk 0 = .ok (.aload_n 0, 1) := by decide +kernel
theorem dX12_tellClerk_1 : decode cX12_tellClerk 1 = .ok (.invokevirtual 275, 3) := by decide +kernel
theorem dX12_tellClerk_4 : decode cX12_tellClerk 4 = .ok (.aload_n 0, 1) := by decide +kernel
theorem dX12_tellClerk_5 : decode cX12_tellClerk 5 = .ok (.invokevirtual 337, 3) := by decide +kernel
theorem dX12_tellClerk_8 : decode cX12_tellClerk 8 = .ok (.istore_n 1, 1) := by decide +kernel
theorem dX12_tellClerk_9 : decode cX12_tellClerk 9 = .ok (.aload_n 0, 1) := by decide +kernel
theorem dX12_tellClerk_10 : decode cX12_tellClerk 10 = .ok (.iconst 4, 1) := by decide +kernel
theorem dX12_tellClerk_11 : decode cX12_tellClerk 11 = .ok (.invokevirtual 331, 3) := by decide +kernel
theorem dX12_tellClerk_14 : decode cX12_tellClerk 14 = .ok (.aload_n 0, 1) := by decide +kernel
theorem dX12_tellClerk_15 : decode cX12_tellClerk 15 = .ok (.getfield 254, 3) := by decide +kernel
theorem dX12_tellClerk_18 : decode cX12_tellClerk 18 = .ok (.ifCond .le 4, 3) := by decide +kernel
theorem dX12_tellClerk_21 : decode cX12_tellClerk 21 = .ok (.return_, 1) := by decide +kernel
theorem dX12_tellClerk_22 : decode cX12_tellClerk 22 = .ok (.aload_n 0, 1) := by decide +kernel
theorem dX12_tellClerk_23 : decode cX12_tellClerk 23 = .ok (.iload_n 1, 1) := by decide +kernel
theorem dX12_tellClerk_24 : decode cX12_tellClerk 24 = .ok (.iconst 1, 1) := by decide +kernel
theorem dX12_tellClerk_25 : decode cX12_tellClerk 25 = .ok (.aload_n 0, 1) := by decide +kernel
theorem dX12_tellClerk_26 : decode cX12_tellClerk 26 = .ok (.getfield 55, 3) := by decide +kernel
theorem dX12_tellClerk_29 : decode cX12_tellClerk 29 = .ok (.aload_n 0, 1) := by decide +kernel
theorem dX12_tellClerk_30 : decode cX12_tellClerk 30 = .ok (.getfield 287, 3) := by decide +kernel
theorem dX12_tellClerk_33 : decode cX12_tellClerk 33 = .ok (.iaload, 1) := by decide +kernel
theorem dX12_tellClerk_34 : decode cX12_tellClerk 34 = .ok (.invokevirtual 341, 3) := by decide +kernel
theorem dX12_tellClerk_37 : decode cX12_tellClerk 37 = .ok (.aload_n 0, 1) := by decide +kernel
theorem dX12_tellClerk_38 : decode cX12_tellClerk 38 = .ok (.getfield 55, 3) := by decide +kernel
theorem dX12_tellClerk_41 : decode cX12_tellClerk 41 = .ok (.aload_n 0, 1) := by decide +kernel
theorem dX12_tellClerk_42 : decode cX12_tellClerk 42 = .ok (.getfield 287, 3) := by decide +kernel
theorem dX12_tellClerk_45 : decode cX12_tellClerk 45 = .ok (.dup2, 1) := by decide +kernel
theorem dX12_tellClerk_46 : decode cX12_tellClerk 46 = .ok (.iaload, 1) := by decide +kernel
theorem dX12_tellClerk_47 : decode cX12_tellClerk 47 = .ok (.iconst 1, 1) := by decide +kernel
theorem dX12_tellClerk_48 : decode cX12_tellClerk 48 = .ok (.iadd, 1) := by decide +kernel
theorem dX12_tellClerk_49 : decode cX12_tellClerk 49 = .ok (.iastore, 1) := by decide +kernel
theorem dX12_tellClerk_50 : decode cX12_tellClerk 50 = .ok (.return_, 1) := by decide +kernel
def fX12_tellClerk  (h : Hp) : Option (Hp) := bv (fX12_goesOn h) (fun h1 => bi (fX12_named h1) (fun w3 h2 => lt w3 (fun v4 => bv (fX12_must 4 h2) (fun h5 => (if (h5.1 0 13) ≤ 0 then ck (inb (h5.1 0 19) 2) (bv (fX12_notes v4 1 (h5.1 13 (ix (h5.1 0 19))) h5) (fun h6 => ck (inb (h6.1 0 19) 2) (ck (inb (h6.1 0 19) 2) (lt (wI h6 13 (ix (h6.1 0 19)) ((h6.1 13 (ix (h6.1 0 19))) + 1)) (fun h7 => some h7))))) else some h5)))))
set_option maxRecDepth 20000 in
theorem tX12_tellClerk (Z : ZT)  (hz : HZM Z) (h : Hp) (hr : Hp) (hF : fX12_tellClerk  h = some hr) : MC Z yX12_tellClerk cX12_tellClerk 2 none 4 [.ref (Z.2.1 0)] h (none) hr := by
  unfold fX12_tellClerk at hF
  refine mc_start (by decide) (Nat.le_of_ble_eq_true rfl) (fun G X E => ?_)
  refine j_aload_n (pc := 0) 0 X dX12_tellClerk_0 rfl ?_
  refine j_cVv (pc := 1) (As := []) (rest := []) X dX12_tellClerk_1 ml_X12_275 ck_X12_goesOn cv_X12_goesOn (hz _ sh_0) rfl (Nat.le_of_ble_eq_true rfl) rfl (Nat.le_of_ble_eq_true rfl) rfl hF (tX12_goesOn Z hz h) (fun h1 hF => ?_)
  refine j_aload_n (pc := 4) 0 X dX12_tellClerk_4 rfl ?_
  refine j_cVi (pc := 5) (As := []) (rest := []) X dX12_tellClerk_5 ml_X12_337 ck_X12_named cv_X12_named (hz _ sh_0) rfl (Nat.le_of_ble_eq_true rfl) rfl (Nat.le_of_ble_eq_true rfl) rfl hF (tX12_named Z hz h1) (fun w3 h2 hF => ?_)
  refine j_istore_n (pc := 8) (fun y => [(1, .int y), (0, .ref (Z.2.1 0))]) X dX12_tellClerk_8 (by decide) (fun _ => rfl) hF (fun v4 hF => ?_)
  refine j_aload_n (pc := 9) 1 X dX12_tellClerk_9 rfl ?_
  refine j_iconst (pc := 10) 4 X dX12_tellClerk_10 rfl ?_
  refine j_cVv (pc := 11) (As := [.int 4]) (rest := []) X dX12_tellClerk_11 ml_X12_331 ck_X12_must cv_X12_must (hz _ sh_0) rfl (Nat.le_of_ble_eq_true rfl) rfl (Nat.le_of_ble_eq_true rfl) rfl hF (tX12_must Z 4 hz h2) (fun h5 hF => ?_)
  refine j_aload_n (pc := 14) 1 X dX12_tellClerk_14 rfl ?_
  refine j_geti (pc := 15) X dX12_tellClerk_15 (hz _ sh_0) fl_X12_254 rfl ?_
  refine j_if_le (pc := 18) 22 X dX12_tellClerk_18 rfl hF (fun hF => ?_) (fun hF => ?_)
  · refine j_aload_n (pc := 22) 1 X dX12_tellClerk_22 rfl ?_
    refine j_iload_n (pc := 23) 0 X dX12_tellClerk_23 rfl ?_
    refine j_iconst (pc := 24) 1 X dX12_tellClerk_24 rfl ?_
    refine j_aload_n (pc := 25) 1 X dX12_tellClerk_25 rfl ?_
    refine j_getr (pc := 26) X dX12_tellClerk_26 (hz _ sh_0) fl_X12_55 rfl ?_
    refine j_aload_n (pc := 29) 1 X dX12_tellClerk_29 rfl ?_
    refine j_geti (pc := 30) X dX12_tellClerk_30 (hz _ sh_0) fl_X12_287 rfl ?_
    refine j_iald (pc := 33) X dX12_tellClerk_33 (hz _ sh_13) hF (fun hF => ?_)
    refine j_cVv (pc := 34) (As := [.int v4, .int 1, .int (h5.1 13 (ix (h5.1 0 19)))]) (rest := []) X dX12_tellClerk_34 ml_X12_341 ck_X12_notes cv_X12_notes (hz _ sh_0) rfl (Nat.le_of_ble_eq_true rfl) rfl (Nat.le_of_ble_eq_true rfl) rfl hF (tX12_notes Z v4 1 (h5.1 13 (ix (h5.1 0 19))) hz h5) (fun h6 hF => ?_)
    refine j_aload_n (pc := 37) 1 X dX12_tellClerk_37 rfl ?_
    refine j_getr (pc := 38) X dX12_tellClerk_38 (hz _ sh_0) fl_X12_55 rfl ?_
    refine j_aload_n (pc := 41) 1 X dX12_tellClerk_41 rfl ?_
    refine j_geti (pc := 42) X dX12_tellClerk_42 (hz _ sh_0) fl_X12_287 rfl ?_
    refine j_dup2 (pc := 45) X dX12_tellClerk_45 rfl rfl ?_
    refine j_iald (pc := 46) X dX12_tellClerk_46 (hz _ sh_13) hF (fun hF => ?_)
    refine j_iconst (pc := 47) 1 X dX12_tellClerk_47 rfl ?_
    refine j_iadd (pc := 48) X dX12_tellClerk_48 ?_
    refine j_iast (pc := 49) X dX12_tellClerk_49 (hz _ sh_13) hF (fun h7 hF => ?_)
    exact j_vret (pc := 50) X E dX12_tellClerk_50 hF
  · exact j_vret (pc := 21) X E dX12_tellClerk_21 hF
