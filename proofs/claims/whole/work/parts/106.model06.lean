theorem dX12_ring_0 : decode cX12_ring 0 = .ok (.aload_n 0, 1) := by decide +kernel
theorem dX12_ring_1 : decode cX12_ring 1 = .ok (.iload_n 1, 1) := by decide +kernel
theorem dX12_ring_2 : decode cX12_ring 2 = .ok (.invokevirtual 400, 3) := by decide +kernel
theorem dX12_ring_5 : decode cX12_ring 5 = .ok (.ifCond .ne 5, 3) := by decide +kernel
theorem dX12_ring_8 : decode cX12_ring 8 = .ok (.iconst (-1), 1) := by decide +kernel
theorem dX12_ring_9 : decode cX12_ring 9 = .ok (.ireturn, 1) := by decide +kernel
theorem dX12_ring_10 : decode cX12_ring 10 = .ok (.aload_n 0, 1) := by decide +kernel
theorem dX12_ring_11 : decode cX12_ring 11 = .ok (.iconst 0, 1) := by decide +kernel
theorem dX12_ring_12 : decode cX12_ring 12 = .ok (.invokevirtual 507, 3) := by decide +kernel
theorem dX12_ring_15 : decode cX12_ring 15 = .ok (.aload_n 0, 1) := by decide +kernel
theorem dX12_ring_16 : decode cX12_ring 16 = .ok (.iload_n 1, 1) := by decide +kernel
theorem dX12_ring_17 : decode cX12_ring 17 = .ok (.invokevirtual 510, 3) := by decide +kernel
theorem dX12_ring_20 : decode cX12_ring 20 = .ok (.ireturn, 1) := by decide +kernel
def fX12_ring (a1 : Int32) (h : Hp) : Option (Int32 × Hp) := bi (fX12_hasLetter a1 h) (fun w2 h1 => (if w2 = 0 then some ((-1), h1) else bv (fX12_closes 0 h1) (fun h3 => bi (fX12_ringOf a1 h3) (fun w5 h4 => some (w5, h4)))))
set_option maxRecDepth 20000 in
theorem tX12_ring (Z : ZT) (a1 : Int32) (hz : HZM Z) (h : Hp) (r : Int32) (hr : Hp) (hF : fX12_ring a1 h = some (r, hr)) : MC Z yX12_ring cX12_ring 2 (some .int) 2 [.ref (Z.2.1 0), .int a1] h (some (.int r)) hr := by
  unfold fX12_ring at hF
  refine mc_start (by decide) (Nat.le_of_ble_eq_true rfl) (fun G X E => ?_)
  refine j_aload_n (pc := 0) 0 X dX12_ring_0 rfl ?_
  refine j_iload_n (pc := 1) 1 X dX12_ring_1 rfl ?_
  refine j_cVi (pc := 2) (As := [.int a1]) (rest := []) X dX12_ring_2 ml_X12_400 ck_X12_hasLetter cv_X12_hasLetter (hz _ sh_0) rfl (Nat.le_of_ble_eq_true rfl) rfl (Nat.le_of_ble_eq_true rfl) rfl hF (tX12_hasLetter Z a1 hz h) (fun w2 h1 hF => ?_)
  refine j_if_ne (pc := 5) 10 X dX12_ring_5 rfl hF (fun hF => ?_) (fun hF => ?_)
  · refine j_aload_n (pc := 10) 0 X dX12_ring_10 rfl ?_
    refine j_iconst (pc := 11) 0 X dX12_ring_11 rfl ?_
    refine j_cVv (pc := 12) (As := [.int 0]) (rest := []) X dX12_ring_12 ml_X12_507 ck_X12_closes cv_X12_closes (hz _ sh_0) rfl (Nat.le_of_ble_eq_true rfl) rfl (Nat.le_of_ble_eq_true rfl) rfl hF (tX12_closes Z 0 hz h1) (fun h3 hF => ?_)
    refine j_aload_n (pc := 15) 0 X dX12_ring_15 rfl ?_
    refine j_iload_n (pc := 16) 1 X dX12_ring_16 rfl ?_
    refine j_cVi (pc := 17) (As := [.int a1]) (rest := []) X dX12_ring_17 ml_X12_510 ck_X12_ringOf cv_X12_ringOf (hz _ sh_0) rfl (Nat.le_of_ble_eq_true rfl) rfl (Nat.le_of_ble_eq_true rfl) rfl hF (tX12_ringOf Z a1 hz h3) (fun w5 h4 hF => ?_)
    exact j_iret (pc := 20) X E dX12_ring_20 hF
  · refine j_iconst (pc := 8) (-1) X dX12_ring_8 rfl ?_
    exact j_iret (pc := 9) X E dX12_ring_9 hF
theorem dX12_rings_0 : decode cX12_rings 0 = .ok (.aload_n 0, 1) := by decide +kernel
theorem dX12_rings_1 : decode cX12_rings 1 = .ok (.iconst 0, 1) := by decide +kernel
theorem dX12_rings_2 : decode cX12_rings 2 = .ok (.invokevirtual 507, 3) := by decide +kernel
theorem dX12_rings_5 : decode cX12_rings 5 = .ok (.iconst 0, 1) := by decide +kernel
theorem dX12_rings_6 : decode cX12_rings 6 = .ok (.istore_n 1, 1) := by decide +kernel
theorem dX12_rings_7 : decode cX12_rings 7 = .ok (.iconst 0, 1) := by decide +kernel
theorem dX12_rings_8 : decode cX12_rings 8 = .ok (.istore_n 2, 1) := by decide +kernel
theorem dX12_rings_9 : decode cX12_rings 9 = .ok (.iconst 0, 1) := by decide +kernel
theorem dX12_rings_10 : decode cX12_rings 10 = .ok (.istore_n 3, 1) := by decide +kernel
theorem dX12_rings_11 : decode cX12_rings 11 = .ok (.iload_n 3, 1) := by decide +kernel
theorem dX12_rings_12 : decode cX12_rings 12 = .ok (.aload_n 0, 1) := by decide +kernel
theorem dX12_rings_13 : decode cX12_rings 13 = .ok (.getfield 67, 3) := by decide +kernel
theorem dX12_rings_16 : decode cX12_rings 16 = .ok (.aload_n 0, 1) := by decide +kernel
theorem dX12_rings_17 : decode cX12_rings 17 = .ok (.getfield 284, 3) := by decide +kernel
theorem dX12_rings_20 : decode cX12_rings 20 = .ok (.iaload, 1) := by decide +kernel
theorem dX12_rings_21 : decode cX12_rings 21 = .ok (.if_icmp .ge 40, 3) := by decide +kernel
theorem dX12_rings_24 : decode cX12_rings 24 = .ok (.iload_n 2, 1) := by decide +kernel
theorem dX12_rings_25 : decode cX12_rings 25 = .ok (.iload_n 3, 1) := by decide +kernel
theorem dX12_rings_26 : decode cX12_rings 26 = .ok (.ishr, 1) := by decide +kernel
theorem dX12_rings_27 : decode cX12_rings 27 = .ok (.iconst 1, 1) := by decide +kernel
theorem dX12_rings_28 : decode cX12_rings 28 = .ok (.iand, 1) := by decide +kernel
theorem dX12_rings_29 : decode cX12_rings 29 = .ok (.iconst 1, 1) := by decide +kernel
theorem dX12_rings_30 : decode cX12_rings 30 = .ok (.if_icmp .eq 25, 3) := by decide +kernel
theorem dX12_rings_33 : decode cX12_rings 33 = .ok (.aload_n 0, 1) := by decide +kernel
theorem dX12_rings_34 : decode cX12_rings 34 = .ok (.iload_n 3, 1) := by decide +kernel
theorem dX12_rings_35 : decode cX12_rings 35 = .ok (.invokevirtual 510, 3) := by decide +kernel
theorem dX12_rings_38 : decode cX12_rings 38 = .ok (.ifCond .ne 6, 3) := by decide +kernel
theorem dX12_rings_41 : decode cX12_rings 41 = .ok (.goto 14, 3) := by decide +kernel
theorem dX12_rings_44 : decode cX12_rings 44 = .ok (.iload_n 2, 1) := by decide +kernel
theorem dX12_rings_45 : decode cX12_rings 45 = .ok (.aload_n 0, 1) := by decide +kernel
theorem dX12_rings_46 : decode cX12_rings 46 = .ok (.iload_n 3, 1) := by decide +kernel
theorem dX12_rings_47 : decode cX12_rings 47 = .ok (.invokevirtual 510, 3) := by decide +kernel
theorem dX12_rings_50 : decode cX12_rings 50 = .ok (.ior, 1) := by decide +kernel
theorem dX12_rings_51 : decode cX12_rings 51 = .ok (.istore_n 2, 1) := by decide +kernel
theorem dX12_rings_52 : decode cX12_rings 52 = .ok (.iinc 1 1, 3) := by decide +kernel
theorem dX12_rings_55 : decode cX12_rings 55 = .ok (.iinc 3 1, 3) := by decide +kernel
theorem dX12_rings_58 : decode cX12_rings 58 = .ok (.goto (-47), 3) := by decide +kernel
theorem dX12_rings_61 : decode cX12_rings 61 = .ok (.iload_n 1, 1) := by decide +kernel
theorem dX12_rings_62 : decode cX12_rings 62 = .ok (.ireturn, 1) := by decide +kernel
def bX12_rings_55  (r11 : Int32 → Int32 → Int32 → Hp → Option (Int32 × Hp)) (x1 : Int32) (x2 : Int32) (x3 : Int32) (h : Hp) : Option (Int32 × Hp) := lt (x3 + 1) (fun v1 => r11 x1 x2 v1 h)
set_option maxRecDepth 20000 in
theorem BX12_rings_55 {Z : ZT} {G : GT} {r : Int32} {hr : Hp} (X : CX Z G cX12_rings RX12 4 2) (E : RX Z G (some .int) (some (.int r)) hr) (hz : HZM Z) (r11 : Int32 → Int32 → Int32 → Hp → Option (Int32 × Hp)) (hr11 : ∀ (x1 : Int32) (x2 : Int32) (x3 : Int32) (h : Hp), r11 x1 x2 x3 h = some (r, hr) → J Z G 4 h 11 [(0, .ref (Z.2.1 0)), (1, .int x1), (2, .int x2), (3, .int x3)] []) (x1 : Int32) (x2 : Int32) (x3 : Int32) (h : Hp) (hF : bX12_rings_55  r11 x1 x2 x3 h = some (r, hr)) : J Z G 4 h 55 [(0, .ref (Z.2.1 0)), (1, .int x1), (2, .int x2), (3, .int x3)] [] := by
  unfold bX12_rings_55 at hF
  refine j_iinc (pc := 55) 3 (x3 + 1) (fun y => [(3, .int y), (0, .ref (Z.2.1 0)), (1, .int x1), (2, .int x2)]) X dX12_rings_55 rfl rfl (by decide) (fun _ => rfl) hF (fun v1 hF => ?_)
  refine j_goto (pc := 58) 11 X dX12_rings_58 rfl ?_
  refine j_lv [(0, .ref (Z.2.1 0)), (1, .int x1), (2, .int x2), (3, .int v1)] [1, 2, 3, 0] rfl ?_
  exact hr11 x1 x2 v1 h hF
def bX12_rings_11   (r11 : Int32 → Int32 → Int32 → Hp → Option (Int32 × Hp)) (x1 : Int32) (x2 : Int32) (x3 : Int32) (h : Hp) : Option (Int32 × Hp) := ck (inb (h.1 0 18) 2) ((if (h.1 17 (ix (h.1 0 18))) ≤ x3 then some (x1, h) else (if ((x2 >>> (x3 &&& 31)) &&& 1) = 1 then bX12_rings_55 r11 x1 x2 x3 h else bi (fX12_ringOf x3 h) (fun w2 h1 => (if w2 = 0 then bX12_rings_55 r11 x1 x2 x3 h1 else bi (fX12_ringOf x3 h1) (fun w4 h3 => lt (x2 ||| w4) (fun v5 => lt (x1 + 1) (fun v6 => bX12_rings_55 r11 v6 v5 x3 h3))))))))
def lX12_rings_11   : Nat → Int32 → Int32 → Int32 → Hp → Option (Int32 × Hp)
  | 0 => fun _ _ _ _ => none
  | n + 1 => bX12_rings_11   (lX12_rings_11   n)
set_option maxRecDepth 20000 in
theorem BX12_rings_11 {Z : ZT} {G : GT} {r : Int32} {hr : Hp} (X : CX Z G cX12_rings RX12 4 2) (E : RX Z G (some .int) (some (.int r)) hr) (hz : HZM Z)  (r11 : Int32 → Int32 → Int32 → Hp → Option (Int32 × Hp)) (hr11 : ∀ (x1 : Int32) (x2 : Int32) (x3 : Int32) (h : Hp), r11 x1 x2 x3 h = some (r, hr) → J Z G 4 h 11 [(0, .ref (Z.2.1 0)), (1, .int x1), (2, .int x2), (3, .int x3)] []) (x1 : Int32) (x2 : Int32) (x3 : Int32) (h : Hp) (hF : bX12_rings_11   r11 x1 x2 x3 h = some (r, hr)) : J Z G 4 h 11 [(0, .ref (Z.2.1 0)), (1, .int x1), (2, .int x2), (3, .int x3)] [] := by
  unfold bX12_rings_11 at hF
  refine j_iload_n (pc := 11) 3 X dX12_rings_11 rfl ?_
  refine j_aload_n (pc := 12) 0 X dX12_rings_12 rfl ?_
  refine j_getr (pc := 13) X dX12_rings_13 (hz _ sh_0) fl_X12_67 rfl ?_
  refine j_aload_n (pc := 16) 0 X dX12_rings_16 rfl ?_
  refine j_geti (pc := 17) X dX12_rings_17 (hz _ sh_0) fl_X12_284 rfl ?_
  refine j_iald (pc := 20) X dX12_rings_20 (hz _ sh_17) hF (fun hF => ?_)
  refine j_icmp_ge (pc := 21) 61 X dX12_rings_21 rfl hF (fun hF => ?_) (fun hF => ?_)
  · refine j_iload_n (pc := 61) 1 X dX12_rings_61 rfl ?_
    exact j_iret (pc := 62) X E dX12_rings_62 hF
  · refine j_iload_n (pc := 24) 2 X dX12_rings_24 rfl ?_
    refine j_iload_n (pc := 25) 3 X dX12_rings_25 rfl ?_
    refine j_ishr (pc := 26) X dX12_rings_26 ?_
    refine j_iconst (pc := 27) 1 X dX12_rings_27 rfl ?_
    refine j_iand (pc := 28) X dX12_rings_28 ?_
    refine j_iconst (pc := 29) 1 X dX12_rings_29 rfl ?_
    refine j_icmp_eq (pc := 30) 55 X dX12_rings_30 rfl hF (fun hF => ?_) (fun hF => ?_)
    · exact BX12_rings_55 X E hz r11 hr11 x1 x2 x3 h hF
    · refine j_aload_n (pc := 33) 0 X dX12_rings_33 rfl ?_
      refine j_iload_n (pc := 34) 3 X dX12_rings_34 rfl ?_
      refine j_cVi (pc := 35) (As := [.int x3]) (rest := []) X dX12_rings_35 ml_X12_510 ck_X12_ringOf cv_X12_ringOf (hz _ sh_0) rfl (Nat.le_of_ble_eq_true rfl) rfl (Nat.le_of_ble_eq_true rfl) rfl hF (tX12_ringOf Z x3 hz h) (fun w2 h1 hF => ?_)
      refine j_if_ne (pc := 38) 44 X dX12_rings_38 rfl hF (fun hF => ?_) (fun hF => ?_)
      · refine j_iload_n (pc := 44) 2 X dX12_rings_44 rfl ?_
        refine j_aload_n (pc := 45) 0 X dX12_rings_45 rfl ?_
        refine j_iload_n (pc := 46) 3 X dX12_rings_46 rfl ?_
        refine j_cVi (pc := 47) (As := [.int x3]) (rest := [.int x2]) X dX12_rings_47 ml_X12_510 ck_X12_ringOf cv_X12_ringOf (hz _ sh_0) rfl (Nat.le_of_ble_eq_true rfl) rfl (Nat.le_of_ble_eq_true rfl) rfl hF (tX12_ringOf Z x3 hz h1) (fun w4 h3 hF => ?_)
        refine j_ior (pc := 50) X dX12_rings_50 ?_
        refine j_istore_n (pc := 51) (fun y => [(2, .int y), (0, .ref (Z.2.1 0)), (1, .int x1), (3, .int x3)]) X dX12_rings_51 (by decide) (fun _ => rfl) hF (fun v5 hF => ?_)
        refine j_iinc (pc := 52) 2 (x1 + 1) (fun y => [(1, .int y), (2, .int v5), (0, .ref (Z.2.1 0)), (3, .int x3)]) X dX12_rings_52 rfl rfl (by decide) (fun _ => rfl) hF (fun v6 hF => ?_)
        refine j_lv [(0, .ref (Z.2.1 0)), (1, .int v6), (2, .int v5), (3, .int x3)] [2, 0, 1, 3] rfl ?_
        exact BX12_rings_55 X E hz r11 hr11 v6 v5 x3 h3 hF
      · refine j_goto (pc := 41) 55 X dX12_rings_41 rfl ?_
        exact BX12_rings_55 X E hz r11 hr11 x1 x2 x3 h1 hF
theorem LX12_rings_11 {Z : ZT} {G : GT} {r : Int32} {hr : Hp} (X : CX Z G cX12_rings RX12 4 2) (E : RX Z G (some .int) (some (.int r)) hr) (hz : HZM Z)  : ∀ (n : Nat) (x1 : Int32) (x2 : Int32) (x3 : Int32) (h : Hp), lX12_rings_11   n x1 x2 x3 h = some (r, hr) → J Z G 4 h 11 [(0, .ref (Z.2.1 0)), (1, .int x1), (2, .int x2), (3, .int x3)] [] := by
  intro n
  induction n with
  | zero => intro x1 x2 x3 h hF; cases hF
  | succ n ih => intro x1 x2 x3 h hF; exact BX12_rings_11 X E hz  (lX12_rings_11   n) ih x1 x2 x3 h hF
def fX12_rings  (h : Hp) : Option (Int32 × Hp) := bv (fX12_closes 0 h) (fun h1 => lt 0 (fun v2 => lt 0 (fun v3 => lt 0 (fun v4 => lX12_rings_11 FU v2 v3 v4 h1))))
set_option maxRecDepth 20000 in
theorem tX12_rings (Z : ZT)  (hz : HZM Z) (h : Hp) (r : Int32) (hr : Hp) (hF : fX12_rings  h = some (r, hr)) : MC Z yX12_rings cX12_rings 4 (some .int) 2 [.ref (Z.2.1 0)] h (some (.int r)) hr := by
  unfold fX12_rings at hF
  refine mc_start (by decide) (Nat.le_of_ble_eq_true rfl) (fun G X E => ?_)
  refine j_aload_n (pc := 0) 0 X dX12_rings_0 rfl ?_
  refine j_iconst (pc := 1) 0 X dX12_rings_1 rfl ?_
  refine j_cVv (pc := 2) (As := [.int 0]) (rest := []) X dX12_rings_2 ml_X12_507 ck_X12_closes cv_X12_closes (hz _ sh_0) rfl (Nat.le_of_ble_eq_true rfl) rfl (Nat.le_of_ble_eq_true rfl) rfl hF (tX12_closes Z 0 hz h) (fun h1 hF => ?_)
  refine j_iconst (pc := 5) 0 X dX12_rings_5 rfl ?_
  refine j_istore_n (pc := 6) (fun y => [(1, .int y), (0, .ref (Z.2.1 0))]) X dX12_rings_6 (by decide) (fun _ => rfl) hF (fun v2 hF => ?_)
  refine j_iconst (pc := 7) 0 X dX12_rings_7 rfl ?_
  refine j_istore_n (pc := 8) (fun y => [(2, .int y), (1, .int v2), (0, .ref (Z.2.1 0))]) X dX12_rings_8 (by decide) (fun _ => rfl) hF (fun v3 hF => ?_)
  refine j_iconst (pc := 9) 0 X dX12_rings_9 rfl ?_
  refine j_istore_n (pc := 10) (fun y => [(3, .int y), (2, .int v3), (1, .int v2), (0, .ref (Z.2.1 0))]) X dX12_rings_10 (by decide) (fun _ => rfl) hF (fun v4 hF => ?_)
  refine j_lv [(0, .ref (Z.2.1 0)), (1, .int v2), (2, .int v3), (3, .int v4)] [3, 2, 1, 0] rfl ?_
  exact LX12_rings_11 X E hz FU v2 v3 v4 h1 hF
theorem dX12_hasRings_0 : decode cX12_hasRings 0 = .ok (.aload_n 0, 1) := by decide +kernel
theorem dX12_hasRings_1 : decode cX12_hasRings 1 = .ok (.iload_n 1, 1) := by decide +kernel
theorem dX12_hasRings_2 : decode cX12_hasRings 2 = .ok (.invokevirtual 507, 3) := by decide +kernel
theorem dX12_hasRings_5 : decode cX12_hasRings 5 = .ok (.iconst 0, 1) := by decide +kernel
theorem dX12_hasRings_6 : decode cX12_hasRings 6 = .ok (.istore_n 2, 1) := by decide +kernel
theorem dX12_hasRings_7 : decode cX12_hasRings 7 = .ok (.iload_n 2, 1) := by decide +kernel
theorem dX12_hasRings_8 : decode cX12_hasRings 8 = .ok (.aload_n 0, 1) := by decide +kernel
theorem dX12_hasRings_9 : decode cX12_hasRings 9 = .ok (.getfield 67, 3) := by decide +kernel
theorem dX12_hasRings_12 : decode cX12_hasRings 12 = .ok (.aload_n 0, 1) := by decide +kernel
theorem dX12_hasRings_13 : decode cX12_hasRings 13 = .ok (.getfield 284, 3) := by decide +kernel
theorem dX12_hasRings_16 : decode cX12_hasRings 16 = .ok (.iaload, 1) := by decide +kernel
theorem dX12_hasRings_17 : decode cX12_hasRings 17 = .ok (.if_icmp .ge 25, 3) := by decide +kernel
theorem dX12_hasRings_20 : decode cX12_hasRings 20 = .ok (.aload_n 0, 1) := by decide +kernel
theorem dX12_hasRings_21 : decode cX12_hasRings 21 = .ok (.getfield 179, 3) := by decide +kernel
theorem dX12_hasRings_24 : decode cX12_hasRings 24 = .ok (.iload_n 2, 1) := by decide +kernel
theorem dX12_hasRings_25 : decode cX12_hasRings 25 = .ok (.iaload, 1) := by decide +kernel
theorem dX12_hasRings_26 : decode cX12_hasRings 26 = .ok (.iload_n 2, 1) := by decide +kernel
theorem dX12_hasRings_27 : decode cX12_hasRings 27 = .ok (.ishr, 1) := by decide +kernel
theorem dX12_hasRings_28 : decode cX12_hasRings 28 = .ok (.iconst 1, 1) := by decide +kernel
theorem dX12_hasRings_29 : decode cX12_hasRings 29 = .ok (.iand, 1) := by decide +kernel
theorem dX12_hasRings_30 : decode cX12_hasRings 30 = .ok (.iconst 1, 1) := by decide +kernel
theorem dX12_hasRings_31 : decode cX12_hasRings 31 = .ok (.if_icmp .ne 5, 3) := by decide +kernel
theorem dX12_hasRings_34 : decode cX12_hasRings 34 = .ok (.iconst 1, 1) := by decide +kernel
theorem dX12_hasRings_35 : decode cX12_hasRings 35 = .ok (.ireturn, 1) := by decide +kernel
theorem dX12_hasRings_36 : decode cX12_hasRings 36 = .ok (.iinc 2 1, 3) := by decide +kernel
theorem dX12_hasRings_39 : decode cX12_hasRings 39 = .ok (.goto (-32), 3) := by decide +kernel
theorem dX12_hasRings_42 : decode cX12_hasRings 42 = .ok (.iconst 0, 1) := by decide +kernel
theorem dX12_hasRings_43 : decode cX12_hasRings 43 = .ok (.ireturn, 1) := by decide +kernel
def bX12_hasRings_7   (r7 : Int32 → Hp → Option (Int32 × Hp)) (x2 : Int32) (h : Hp) : Option (Int32 × Hp) := ck (inb (h.1 0 18) 2) ((if (h.1 17 (ix (h.1 0 18))) ≤ x2 then ck (zb 0) (some (0, h)) else ck (inb x2 10) ((if (((h.1 54 (ix x2)) >>> (x2 &&& 31)) &&& 1) = 1 then ck (zb 1) (some (1, h)) else lt (x2 + 1) (fun v1 => r7 v1 h)))))
def lX12_hasRings_7   : Nat → Int32 → Hp → Option (Int32 × Hp)
  | 0 => fun _ _ => none
  | n + 1 => bX12_hasRings_7   (lX12_hasRings_7   n)
set_option maxRecDepth 20000 in
theorem BX12_hasRings_7 {Z : ZT} {G : GT} {r : Int32} {hr : Hp} (X : CX Z G cX12_hasRings RX12 3 2) (E : RX Z G (some .boolean) (some (.int r)) hr) (hz : HZM Z)  (r7 : Int32 → Hp → Option (Int32 × Hp)) (hr7 : ∀ (x2 : Int32) (h : Hp), r7 x2 h = some (r, hr) → J Z G 3 h 7 [(0, .ref (Z.2.1 0)), (2, .int x2)] []) (x2 : Int32) (h : Hp) (hF : bX12_hasRings_7   r7 x2 h = some (r, hr)) : J Z G 3 h 7 [(0, .ref (Z.2.1 0)), (2, .int x2)] [] := by
  unfold bX12_hasRings_7 at hF
  refine j_iload_n (pc := 7) 1 X dX12_hasRings_7 rfl ?_
  refine j_aload_n (pc := 8) 0 X dX12_hasRings_8 rfl ?_
  refine j_getr (pc := 9) X dX12_hasRings_9 (hz _ sh_0) fl_X12_67 rfl ?_
  refine j_aload_n (pc := 12) 0 X dX12_hasRings_12 rfl ?_
  refine j_geti (pc := 13) X dX12_hasRings_13 (hz _ sh_0) fl_X12_284 rfl ?_
  refine j_iald (pc := 16) X dX12_hasRings_16 (hz _ sh_17) hF (fun hF => ?_)
  refine j_icmp_ge (pc := 17) 42 X dX12_hasRings_17 rfl hF (fun hF => ?_) (fun hF => ?_)
  · refine j_iconst (pc := 42) 0 X dX12_hasRings_42 rfl ?_
    exact j_zret (pc := 43) X E dX12_hasRings_43 hF
  · refine j_aload_n (pc := 20) 0 X dX12_hasRings_20 rfl ?_
    refine j_getr (pc := 21) X dX12_hasRings_21 (hz _ sh_0) fl_X12_179 rfl ?_
    refine j_iload_n (pc := 24) 1 X dX12_hasRings_24 rfl ?_
    refine j_iald (pc := 25) X dX12_hasRings_25 (hz _ sh_54) hF (fun hF => ?_)
    refine j_iload_n (pc := 26) 1 X dX12_hasRings_26 rfl ?_
    refine j_ishr (pc := 27) X dX12_hasRings_27 ?_
    refine j_iconst (pc := 28) 1 X dX12_hasRings_28 rfl ?_
    refine j_iand (pc := 29) X dX12_hasRings_29 ?_
    refine j_iconst (pc := 30) 1 X dX12_hasRings_30 rfl ?_
    refine j_icmp_ne (pc := 31) 36 X dX12_hasRings_31 rfl hF (fun hF => ?_) (fun hF => ?_)
    · refine j_iinc (pc := 36) 1 (x2 + 1) (fun y => [(2, .int y), (0, .ref (Z.2.1 0))]) X dX12_hasRings_36 rfl rfl (by decide) (fun _ => rfl) hF (fun v1 hF => ?_)
      refine j_goto (pc := 39) 7 X dX12_hasRings_39 rfl ?_
      refine j_lv [(0, .ref (Z.2.1 0)), (2, .int v1)] [1, 0] rfl ?_
      exact hr7 v1 h hF
    · refine j_iconst (pc := 34) 1 X dX12_hasRings_34 rfl ?_
      exact j_zret (pc := 35) X E dX12_hasRings_35 hF
theorem LX12_hasRings_7 {Z : ZT} {G : GT} {r : Int32} {hr : Hp} (X : CX Z G cX12_hasRings RX12 3 2) (E : RX Z G (some .boolean) (some (.int r)) hr) (hz : HZM Z)  : ∀ (n : Nat) (x2 : Int32) (h : Hp), lX12_hasRings_7   n x2 h = some (r, hr) → J Z G 3 h 7 [(0, .ref (Z.2.1 0)), (2, .int x2)] [] := by
  intro n
  induction n with
  | zero => intro x2 h hF; cases hF
  | succ n ih => intro x2 h hF; exact BX12_hasRings_7 X E hz  (lX12_hasRings_7   n) ih x2 h hF
def fX12_hasRings (a1 : Int32) (h : Hp) : Option (Int32 × Hp) := bv (fX12_closes a1 h) (fun h1 => lt 0 (fun v2 => lX12_hasRings_7 FU v2 h1))
set_option maxRecDepth 20000 in
theorem tX12_hasRings (Z : ZT) (a1 : Int32) (hz : HZM Z) (h : Hp) (r : Int32) (hr : Hp) (hF : fX12_hasRings a1 h = some (r, hr)) : MC Z yX12_hasRings cX12_hasRings 3 (some .boolean) 2 [.ref (Z.2.1 0), .int a1] h (some (.int r)) hr := by
  unfold fX12_hasRings at hF
  refine mc_start (by decide) (Nat.le_of_ble_eq_true rfl) (fun G X E => ?_)
  refine j_aload_n (pc := 0) 0 X dX12_hasRings_0 rfl ?_
  refine j_iload_n (pc := 1) 1 X dX12_hasRings_1 rfl ?_
  refine j_cVv (pc := 2) (As := [.int a1]) (rest := []) X dX12_hasRings_2 ml_X12_507 ck_X12_closes cv_X12_closes (hz _ sh_0) rfl (Nat.le_of_ble_eq_true rfl) rfl (Nat.le_of_ble_eq_true rfl) rfl hF (tX12_closes Z a1 hz h) (fun h1 hF => ?_)
  refine j_iconst (pc := 5) 0 X dX12_hasRings_5 rfl ?_
  refine j_istore_n (pc := 6) (fun y => [(2, .int y), (0, .ref (Z.2.1 0)), (1, .int a1)]) X dX12_hasRings_6 (by decide) (fun _ => rfl) hF (fun v2 hF => ?_)
  refine j_lv [(0, .ref (Z.2.1 0)), (2, .int v2)] [1, 0] rfl ?_
  exact LX12_hasRings_7 X E hz FU v2 h1 hF
theorem dX12_burn_0 : decode cX12_burn 0 = .ok (.iconst (-1), 1) := by decide +kernel
theorem dX12_burn_1 : decode cX12_burn 1 = .ok (.istore_n 1, 1) := by decide +kernel
theorem dX12_burn_2 : decode cX12_burn 2 = .ok (.iconst 0, 1) := by decide +kernel
theorem dX12_burn_3 : decode cX12_burn 3 = .ok (.istore_n 2, 1) := by decide +kernel
theorem dX12_burn_4 : decode cX12_burn 4 = .ok (.iload_n 2, 1) := by decide +kernel
theorem dX12_burn_5 : decode cX12_burn 5 = .ok (.iconst 1, 1) := by decide +kernel
theorem dX12_burn_6 : decode cX12_burn 6 = .ok (.aload_n 0, 1) := by decide +kernel
theorem dX12_burn_7 : decode cX12_burn 7 = .ok (.getfield 67, 3) := by decide +kernel
theorem dX12_burn_10 : decode cX12_burn 10 = .ok (.aload_n 0, 1) := by decide +kernel
theorem dX12_burn_11 : decode cX12_burn 11 = .ok (.getfield 284, 3) := by decide +kernel
theorem dX12_burn_14 : decode cX12_burn 14 = .ok (.iaload, 1) := by decide +kernel
theorem dX12_burn_15 : decode cX12_burn 15 = .ok (.ishl, 1) := by decide +kernel
theorem dX12_burn_16 : decode cX12_burn 16 = .ok (.if_icmp .ge 38, 3) := by decide +kernel
theorem dX12_burn_19 : decode cX12_burn 19 = .ok (.iload_n 1, 1) := by decide +kernel
theorem dX12_burn_20 : decode cX12_burn 20 = .ok (.iconst (-1), 1) := by decide +kernel
theorem dX12_burn_21 : decode cX12_burn 21 = .ok (.if_icmp .eq 14, 3) := by decide +kernel
theorem dX12_burn_24 : decode cX12_burn 24 = .ok (.iload_n 2, 1) := by decide +kernel
theorem dX12_burn_25 : decode cX12_burn 25 = .ok (.invokestatic 513, 3) := by decide +kernel
theorem dX12_burn_28 : decode cX12_burn 28 = .ok (.iload_n 1, 1) := by decide +kernel
theorem dX12_burn_29 : decode cX12_burn 29 = .ok (.invokestatic 513, 3) := by decide +kernel
theorem dX12_burn_32 : decode cX12_burn 32 = .ok (.if_icmp .ge 16, 3) := by decide +kernel
theorem dX12_burn_35 : decode cX12_burn 35 = .ok (.aload_n 0, 1) := by decide +kernel
theorem dX12_burn_36 : decode cX12_burn 36 = .ok (.iload_n 2, 1) := by decide +kernel
theorem dX12_burn_37 : decode cX12_burn 37 = .ok (.invokevirtual 516, 3) := by decide +kernel
theorem dX12_burn_40 : decode cX12_burn 40 = .ok (.ifCond .eq 6, 3) := by decide +kernel
theorem dX12_burn_43 : decode cX12_burn 43 = .ok (.goto 5, 3) := by decide +kernel
theorem dX12_burn_46 : decode cX12_burn 46 = .ok (.iload_n 2, 1) := by decide +kernel
theorem dX12_burn_47 : decode cX12_burn 47 = .ok (.istore_n 1, 1) := by decide +kernel
theorem dX12_burn_48 : decode cX12_burn 48 = .ok (.iinc 2 1, 3) := by decide +kernel
theorem dX12_burn_51 : decode cX12_burn 51 = .ok (.goto (-47), 3) := by decide +kernel
theorem dX12_burn_54 : decode cX12_burn 54 = .ok (.iload_n 1, 1) := by decide +kernel
theorem dX12_burn_55 : decode cX12_burn 55 = .ok (.ireturn, 1) := by decide +kernel
def bX12_burn_48  (r4 : Int32 → Int32 → Hp → Option (Int32 × Hp)) (x1 : Int32) (x2 : Int32) (h : Hp) : Option (Int32 × Hp) := lt (x2 + 1) (fun v1 => r4 x1 v1 h)
set_option maxRecDepth 20000 in
theorem BX12_burn_48 {Z : ZT} {G : GT} {r : Int32} {hr : Hp} (X : CX Z G cX12_burn RX12 3 3) (E : RX Z G (some .int) (some (.int r)) hr) (hz : HZM Z) (r4 : Int32 → Int32 → Hp → Option (Int32 × Hp)) (hr4 : ∀ (x1 : Int32) (x2 : Int32) (h : Hp), r4 x1 x2 h = some (r, hr) → J Z G 3 h 4 [(0, .ref (Z.2.1 0)), (1, .int x1), (2, .int x2)] []) (x1 : Int32) (x2 : Int32) (h : Hp) (hF : bX12_burn_48  r4 x1 x2 h = some (r, hr)) : J Z G 3 h 48 [(0, .ref (Z.2.1 0)), (1, .int x1), (2, .int x2)] [] := by
  unfold bX12_burn_48 at hF
  refine j_iinc (pc := 48) 2 (x2 + 1) (fun y => [(2, .int y), (0, .ref (Z.2.1 0)), (1, .int x1)]) X dX12_burn_48 rfl rfl (by decide) (fun _ => rfl) hF (fun v1 hF => ?_)
  refine j_goto (pc := 51) 4 X dX12_burn_51 rfl ?_
  refine j_lv [(0, .ref (Z.2.1 0)), (1, .int x1), (2, .int v1)] [1, 2, 0] rfl ?_
  exact hr4 x1 v1 h hF
def bX12_burn_35  (r4 : Int32 → Int32 → Hp → Option (Int32 × Hp)) (x1 : Int32) (x2 : Int32) (h : Hp) : Option (Int32 × Hp) := bi (fX12_hasRings x2 h) (fun w2 h1 => (if w2 = 0 then lt x2 (fun v3 => bX12_burn_48 r4 v3 x2 h1) else bX12_burn_48 r4 x1 x2 h1))
set_option maxRecDepth 20000 in
theorem BX12_burn_35 {Z : ZT} {G : GT} {r : Int32} {hr : Hp} (X : CX Z G cX12_burn RX12 3 3) (E : RX Z G (some .int) (some (.int r)) hr) (hz : HZM Z) (r4 : Int32 → Int32 → Hp → Option (Int32 × Hp)) (hr4 : ∀ (x1 : Int32) (x2 : Int32) (h : Hp), r4 x1 x2 h = some (r, hr) → J Z G 3 h 4 [(0, .ref (Z.2.1 0)), (1, .int x1), (2, .int x2)] []) (x1 : Int32) (x2 : Int32) (h : Hp) (hF : bX12_burn_35  r4 x1 x2 h = some (r, hr)) : J Z G 3 h 35 [(0, .ref (Z.2.1 0)), (1, .int x1), (2, .int x2)] [] := by
  unfold bX12_burn_35 at hF
  refine j_aload_n (pc := 35) 0 X dX12_burn_35 rfl ?_
  refine j_iload_n (pc := 36) 2 X dX12_burn_36 rfl ?_
  refine j_cVi (pc := 37) (As := [.int x2]) (rest := []) X dX12_burn_37 ml_X12_516 ck_X12_hasRings cv_X12_hasRings (hz _ sh_0) rfl (Nat.le_of_ble_eq_true rfl) rfl (Nat.le_of_ble_eq_true rfl) rfl hF (tX12_hasRings Z x2 hz h) (fun w2 h1 hF => ?_)
  refine j_if_eq (pc := 40) 46 X dX12_burn_40 rfl hF (fun hF => ?_) (fun hF => ?_)
  · refine j_iload_n (pc := 46) 2 X dX12_burn_46 rfl ?_
    refine j_istore_n (pc := 47) (fun y => [(1, .int y), (0, .ref (Z.2.1 0)), (2, .int x2)]) X dX12_burn_47 (by decide) (fun _ => rfl) hF (fun v3 hF => ?_)
    refine j_lv [(0, .ref (Z.2.1 0)), (1, .int v3), (2, .int x2)] [1, 0, 2] rfl ?_
    exact BX12_burn_48 X E hz r4 hr4 v3 x2 h1 hF
  · refine j_goto (pc := 43) 48 X dX12_burn_43 rfl ?_
    exact BX12_burn_48 X E hz r4 hr4 x1 x2 h1 hF
def bX12_burn_4   (r4 : Int32 → Int32 → Hp → Option (Int32 × Hp)) (x1 : Int32) (x2 : Int32) (h : Hp) : Option (Int32 × Hp) := ck (inb (h.1 0 18) 2) ((if ((1 : Int32) <<< ((h.1 17 (ix (h.1 0 18))) &&& 31)) ≤ x2 then some (x1, h) else (if x1 = (-1) then bX12_burn_35 r4 x1 x2 h else bi (fX12_bits x2 h) (fun w2 h1 => bi (fX12_bits x1 h1) (fun w4 h3 => (if w4 ≤ w2 then bX12_burn_48 r4 x1 x2 h3 else bX12_burn_35 r4 x1 x2 h3))))))
def lX12_burn_4   : Nat → Int32 → Int32 → Hp → Option (Int32 × Hp)
  | 0 => fun _ _ _ => none
  | n + 1 => bX12_burn_4   (lX12_burn_4   n)
set_option maxRecDepth 20000 in
theorem BX12_burn_4 {Z : ZT} {G : GT} {r : Int32} {hr : Hp} (X : CX Z G cX12_burn RX12 3 3) (E : RX Z G (some .int) (some (.int r)) hr) (hz : HZM Z)  (r4 : Int32 → Int32 → Hp → Option (Int32 × Hp)) (hr4 : ∀ (x1 : Int32) (x2 : Int32) (h : Hp), r4 x1 x2 h = some (r, hr) → J Z G 3 h 4 [(0, .ref (Z.2.1 0)), (1, .int x1), (2, .int x2)] []) (x1 : Int32) (x2 : Int32) (h : Hp) (hF : bX12_burn_4   r4 x1 x2 h = some (r, hr)) : J Z G 3 h 4 [(0, .ref (Z.2.1 0)), (1, .int x1), (2, .int x2)] [] := by
  unfold bX12_burn_4 at hF
  refine j_iload_n (pc := 4) 2 X dX12_burn_4 rfl ?_
  refine j_iconst (pc := 5) 1 X dX12_burn_5 rfl ?_
  refine j_aload_n (pc := 6) 0 X dX12_burn_6 rfl ?_
  refine j_getr (pc := 7) X dX12_burn_7 (hz _ sh_0) fl_X12_67 rfl ?_
  refine j_aload_n (pc := 10) 0 X dX12_burn_10 rfl ?_
  refine j_geti (pc := 11) X dX12_burn_11 (hz _ sh_0) fl_X12_284 rfl ?_
  refine j_iald (pc := 14) X dX12_burn_14 (hz _ sh_17) hF (fun hF => ?_)
  refine j_ishl (pc := 15) X dX12_burn_15 ?_
  refine j_icmp_ge (pc := 16) 54 X dX12_burn_16 rfl hF (fun hF => ?_) (fun hF => ?_)
  · refine j_iload_n (pc := 54) 1 X dX12_burn_54 rfl ?_
    exact j_iret (pc := 55) X E dX12_burn_55 hF
  · refine j_iload_n (pc := 19) 1 X dX12_burn_19 rfl ?_
    refine j_iconst (pc := 20) (-1) X dX12_burn_20 rfl ?_
    refine j_icmp_eq (pc := 21) 35 X dX12_burn_21 rfl hF (fun hF => ?_) (fun hF => ?_)
    · exact BX12_burn_35 X E hz r4 hr4 x1 x2 h hF
    · refine j_iload_n (pc := 24) 2 X dX12_burn_24 rfl ?_
      refine j_cSi (pc := 25) (As := [.int x2]) (rest := []) X dX12_burn_25 ml_X12_513 ck_X12_bits sk_X12_bits (Nat.le_of_ble_eq_true rfl) rfl (Nat.le_of_ble_eq_true rfl) rfl hF (tX12_bits Z x2 trivial h) (fun w2 h1 hF => ?_)
      refine j_iload_n (pc := 28) 1 X dX12_burn_28 rfl ?_
      refine j_cSi (pc := 29) (As := [.int x1]) (rest := [.int w2]) X dX12_burn_29 ml_X12_513 ck_X12_bits sk_X12_bits (Nat.le_of_ble_eq_true rfl) rfl (Nat.le_of_ble_eq_true rfl) rfl hF (tX12_bits Z x1 trivial h1) (fun w4 h3 hF => ?_)
      refine j_icmp_ge (pc := 32) 48 X dX12_burn_32 rfl hF (fun hF => ?_) (fun hF => ?_)
      · exact BX12_burn_48 X E hz r4 hr4 x1 x2 h3 hF
      · exact BX12_burn_35 X E hz r4 hr4 x1 x2 h3 hF
theorem LX12_burn_4 {Z : ZT} {G : GT} {r : Int32} {hr : Hp} (X : CX Z G cX12_burn RX12 3 3) (E : RX Z G (some .int) (some (.int r)) hr) (hz : HZM Z)  : ∀ (n : Nat) (x1 : Int32) (x2 : Int32) (h : Hp), lX12_burn_4   n x1 x2 h = some (r, hr) → J Z G 3 h 4 [(0, .ref (Z.2.1 0)), (1, .int x1), (2, .int x2)] [] := by
  intro n
  induction n with
  | zero => intro x1 x2 h hF; cases hF
  | succ n ih => intro x1 x2 h hF; exact BX12_burn_4 X E hz  (lX12_burn_4   n) ih x1 x2 h hF
def fX12_burn  (h : Hp) : Option (Int32 × Hp) := lt (-1) (fun v1 => lt 0 (fun v2 => lX12_burn_4 FU v1 v2 h))
set_option maxRecDepth 20000 in
theorem tX12_burn (Z : ZT)  (hz : HZM Z) (h : Hp) (r : Int32) (hr : Hp) (hF : fX12_burn  h = some (r, hr)) : MC Z yX12_burn cX12_burn 3 (some .int) 3 [.ref (Z.2.1 0)] h (some (.int r)) hr := by
  unfold fX12_burn at hF
  refine mc_start (by decide) (Nat.le_of_ble_eq_true rfl) (fun G X E => ?_)
  refine j_iconst (pc := 0) (-1) X dX12_burn_0 rfl ?_
  refine j_istore_n (pc := 1) (fun y => [(1, .int y), (0, .ref (Z.2.1 0))]) X dX12_burn_1 (by decide) (fun _ => rfl) hF (fun v1 hF => ?_)
  refine j_iconst (pc := 2) 0 X dX12_burn_2 rfl ?_
  refine j_istore_n (pc := 3) (fun y => [(2, .int y), (1, .int v1), (0, .ref (Z.2.1 0))]) X dX12_burn_3 (by decide) (fun _ => rfl) hF (fun v2 hF => ?_)
  refine j_lv [(0, .ref (Z.2.1 0)), (1, .int v1), (2, .int v2)] [2, 1, 0] rfl ?_
  exact LX12_burn_4 X E hz FU v1 v2 h hF
theorem dX12_needs_0 : decode cX12_needs 0 = .ok (.aload_n 0, 1) := by decide +kernel
theorem dX12_needs_1 : decode cX12_needs 1 = .ok (.iconst 4, 1) := by decide +kernel
theorem dX12_needs_2 : decode cX12_needs 2 = .ok (.putfield 519, 3) := by decide +kernel
theorem dX12_needs_5 : decode cX12_needs 5 = .ok (.iconst 0, 1) := by decide +kernel
theorem dX12_needs_6 : decode cX12_needs 6 = .ok (.istore 5, 2) := by decide +kernel
theorem dX12_needs_8 : decode cX12_needs 8 = .ok (.iload 5, 2) := by decide +kernel
theorem dX12_needs_10 : decode cX12_needs 10 = .ok (.iconst 1, 1) := by decide +kernel
theorem dX12_needs_11 : decode cX12_needs 11 = .ok (.aload_n 0, 1) := by decide +kernel
theorem dX12_needs_12 : decode cX12_needs 12 = .ok (.getfield 49, 3) := by decide +kernel
theorem dX12_needs_15 : decode cX12_needs 15 = .ok (.aload_n 0, 1) := by decide +kernel
theorem dX12_needs_16 : decode cX12_needs 16 = .ok (.getfield 284, 3) := by decide +kernel
theorem dX12_needs_19 : decode cX12_needs 19 = .ok (.iaload, 1) := by decide +kernel
theorem dX12_needs_20 : decode cX12_needs 20 = .ok (.ishl, 1) := by decide +kernel
theorem dX12_needs_21 : decode cX12_needs 21 = .ok (.if_icmp .ge 155, 3) := by decide +kernel
theorem dX12_needs_24 : decode cX12_needs 24 = .ok (.iload 5, 2) := by decide +kernel
theorem dX12_needs_26 : decode cX12_needs 26 = .ok (.iload_n 3, 1) := by decide +kernel
theorem dX12_needs_27 : decode cX12_needs 27 = .ok (.iand, 1) := by decide +kernel
theorem dX12_needs_28 : decode cX12_needs 28 = .ok (.ifCond .ne 142, 3) := by decide +kernel
theorem dX12_needs_31 : decode cX12_needs 31 = .ok (.iload 5, 2) := by decide +kernel
theorem dX12_needs_33 : decode cX12_needs 33 = .ok (.invokestatic 513, 3) := by decide +kernel
theorem dX12_needs_36 : decode cX12_needs 36 = .ok (.iconst 3, 1) := by decide +kernel
theorem dX12_needs_37 : decode cX12_needs 37 = .ok (.if_icmp .le 6, 3) := by decide +kernel
theorem dX12_needs_40 : decode cX12_needs 40 = .ok (.goto 130, 3) := by decide +kernel
theorem dX12_needs_43 : decode cX12_needs 43 = .ok (.iconst 0, 1) := by decide +kernel
theorem dX12_needs_44 : decode cX12_needs 44 = .ok (.istore 6, 2) := by decide +kernel
theorem dX12_needs_46 : decode cX12_needs 46 = .ok (.iload 6, 2) := by decide +kernel
theorem dX12_needs_48 : decode cX12_needs 48 = .ok (.iconst 1, 1) := by decide +kernel
theorem dX12_needs_49 : decode cX12_needs 49 = .ok (.aload_n 0, 1) := by decide +kernel
theorem dX12_needs_50 : decode cX12_needs 50 = .ok (.getfield 67, 3) := by decide +kernel
theorem dX12_needs_53 : decode cX12_needs 53 = .ok (.aload_n 0, 1) := by decide +kernel
theorem dX12_needs_54 : decode cX12_needs 54 = .ok (.getfield 284, 3) := by decide +kernel
theorem dX12_needs_57 : decode cX12_needs 57 = .ok (.iaload, 1) := by decide +kernel
theorem dX12_needs_58 : decode cX12_needs 58 = .ok (.ishl, 1) := by decide +kernel
theorem dX12_needs_59 : decode cX12_needs 59 = .ok (.if_icmp .ge 111, 3) := by decide +kernel
theorem dX12_needs_62 : decode cX12_needs 62 = .ok (.iload 5, 2) := by decide +kernel
theorem dX12_needs_64 : decode cX12_needs 64 = .ok (.invokestatic 513, 3) := by decide +kernel
theorem dX12_needs_67 : decode cX12_needs 67 = .ok (.iload 6, 2) := by decide +kernel
theorem dX12_needs_69 : decode cX12_needs 69 = .ok (.invokestatic 513, 3) := by decide +kernel
theorem dX12_needs_72 : decode cX12_needs 72 = .ok (.iadd, 1) := by decide +kernel
theorem dX12_needs_73 : decode cX12_needs 73 = .ok (.istore 7, 2) := by decide +kernel
theorem dX12_needs_75 : decode cX12_needs 75 = .ok (.iload 6, 2) := by decide +kernel
theorem dX12_needs_77 : decode cX12_needs 77 = .ok (.iload 4, 2) := by decide +kernel
theorem dX12_needs_79 : decode cX12_needs 79 = .ok (.iand, 1) := by decide +kernel
theorem dX12_needs_80 : decode cX12_needs 80 = .ok (.ifCond .ne 84, 3) := by decide +kernel
theorem dX12_needs_83 : decode cX12_needs 83 = .ok (.iload 7, 2) := by decide +kernel
theorem dX12_needs_85 : decode cX12_needs 85 = .ok (.iconst 3, 1) := by decide +kernel
theorem dX12_needs_86 : decode cX12_needs 86 = .ok (.if_icmp .gt 78, 3) := by decide +kernel
theorem dX12_needs_89 : decode cX12_needs 89 = .ok (.iload 7, 2) := by decide +kernel
theorem dX12_needs_91 : decode cX12_needs 91 = .ok (.aload_n 0, 1) := by decide +kernel
theorem dX12_needs_92 : decode cX12_needs 92 = .ok (.getfield 519, 3) := by decide +kernel
theorem dX12_needs_95 : decode cX12_needs 95 = .ok (.if_icmp .gt 69, 3) := by decide +kernel
theorem dX12_needs_98 : decode cX12_needs 98 = .ok (.iload 7, 2) := by decide +kernel
theorem dX12_needs_100 : decode cX12_needs 100 = .ok (.aload_n 0, 1) := by decide +kernel
theorem dX12_needs_101 : decode cX12_needs 101 = .ok (.getfield 519, 3) := by decide +kernel
theorem dX12_needs_104 : decode cX12_needs 104 = .ok (.if_icmp .ne 21, 3) := by decide +kernel
theorem dX12_needs_107 : decode cX12_needs 107 = .ok (.iload 5, 2) := by decide +kernel
theorem dX12_needs_109 : decode cX12_needs 109 = .ok (.invokestatic 513, 3) := by decide +kernel
theorem dX12_needs_112 : decode cX12_needs 112 = .ok (.aload_n 0, 1) := by decide +kernel
theorem dX12_needs_113 : decode cX12_needs 113 = .ok (.getfield 522, 3) := by decide +kernel
theorem dX12_needs_116 : decode cX12_needs 116 = .ok (.invokestatic 513, 3) := by decide +kernel
theorem dX12_needs_119 : decode cX12_needs 119 = .ok (.if_icmp .lt 6, 3) := by decide +kernel
theorem dX12_needs_122 : decode cX12_needs 122 = .ok (.goto 42, 3) := by decide +kernel
theorem dX12_needs_125 : decode cX12_needs 125 = .ok (.aload_n 0, 1) := by decide +kernel
theorem dX12_needs_126 : decode cX12_needs 126 = .ok (.iload_n 1, 1) := by decide +kernel
theorem dX12_needs_127 : decode cX12_needs 127 = .ok (.iload_n 2, 1) := by decide +kernel
theorem dX12_needs_128 : decode cX12_needs 128 = .ok (.iload_n 3, 1) := by decide +kernel
theorem dX12_needs_129 : decode cX12_needs 129 = .ok (.iload 5, 2) := by decide +kernel
theorem dX12_needs_131 : decode cX12_needs 131 = .ok (.ior, 1) := by decide +kernel
theorem dX12_needs_132 : decode cX12_needs 132 = .ok (.iload 4, 2) := by decide +kernel
theorem dX12_needs_134 : decode cX12_needs 134 = .ok (.iload 6, 2) := by decide +kernel
theorem dX12_needs_136 : decode cX12_needs 136 = .ok (.ior, 1) := by decide +kernel
theorem dX12_needs_137 : decode cX12_needs 137 = .ok (.invokevirtual 456, 3) := by decide +kernel
theorem dX12_needs_140 : decode cX12_needs 140 = .ok (.ifCond .ne 6, 3) := by decide +kernel
theorem dX12_needs_143 : decode cX12_needs 143 = .ok (.goto 21, 3) := by decide +kernel
theorem dX12_needs_146 : decode cX12_needs 146 = .ok (.aload_n 0, 1) := by decide +kernel
theorem dX12_needs_147 : decode cX12_needs 147 = .ok (.iload 7, 2) := by decide +kernel
theorem dX12_needs_149 : decode cX12_needs 149 = .ok (.putfield 519, 3) := by decide +kernel
theorem dX12_needs_152 : decode cX12_needs 152 = .ok (.aload_n 0, 1) := by decide +kernel
theorem dX12_needs_153 : decode cX12_needs 153 = .ok (.iload 5, 2) := by decide +kernel
theorem dX12_needs_155 : decode cX12_needs 155 = .ok (.putfield 522, 3) := by decide +kernel
theorem dX12_needs_158 : decode cX12_needs 158 = .ok (.aload_n 0, 1) := by decide +kernel
theorem dX12_needs_159 : decode cX12_needs 159 = .ok (.iload 6, 2) := by decide +kernel
theorem dX12_needs_161 : decode cX12_needs 161 = .ok (.putfield 525, 3) := by decide +kernel
theorem dX12_needs_164 : decode cX12_needs 164 = .ok (.iinc 6 1, 3) := by decide +kernel
theorem dX12_needs_167 : decode cX12_needs 167 = .ok (.goto (-121), 3) := by decide +kernel
theorem dX12_needs_170 : decode cX12_needs 170 = .ok (.iinc 5 1, 3) := by decide +kernel
theorem dX12_needs_173 : decode cX12_needs 173 = .ok (.goto (-165), 3) := by decide +kernel
theorem dX12_needs_176 : decode cX12_needs 176 = .ok (.return_, 1) := by decide +kernel
def bX12_needs_170  (r8 : Int32 → Int32 → Int32 → Int32 → Int32 → Hp → Option (Hp)) (x1 : Int32) (x2 : Int32) (x3 : Int32) (x4 : Int32) (x5 : Int32) (h : Hp) : Option (Hp) := lt (x5 + 1) (fun v1 => r8 x1 x2 x3 x4 v1 h)
set_option maxRecDepth 20000 in
theorem BX12_needs_170 {Z : ZT} {G : GT} {hr : Hp} (X : CX Z G cX12_needs RX12 8 4) (E : RX Z G none (none) hr) (hz : HZM Z) (r8 : Int32 → Int32 → Int32 → Int32 → Int32 → Hp → Option (Hp)) (hr8 : ∀ (x1 : Int32) (x2 : Int32) (x3 : Int32) (x4 : Int32) (x5 : Int32) (h : Hp), r8 x1 x2 x3 x4 x5 h = some hr → J Z G 8 h 8 [(0, .ref (Z.2.1 0)), (1, .int x1), (2, .int x2), (3, .int x3), (4, .int x4), (5, .int x5)] []) (x1 : Int32) (x2 : Int32) (x3 : Int32) (x4 : Int32) (x5 : Int32) (h : Hp) (hF : bX12_needs_170  r8 x1 x2 x3 x4 x5 h = some hr) : J Z G 8 h 170 [(0, .ref (Z.2.1 0)), (1, .int x1), (2, .int x2), (3, .int x3), (4, .int x4), (5, .int x5)] [] := by
  unfold bX12_needs_170 at hF
  refine j_iinc (pc := 170) 5 (x5 + 1) (fun y => [(5, .int y), (0, .ref (Z.2.1 0)), (1, .int x1), (2, .int x2), (3, .int x3), (4, .int x4)]) X dX12_needs_170 rfl rfl (by decide) (fun _ => rfl) hF (fun v1 hF => ?_)
  refine j_goto (pc := 173) 8 X dX12_needs_173 rfl ?_
  refine j_lv [(0, .ref (Z.2.1 0)), (1, .int x1), (2, .int x2), (3, .int x3), (4, .int x4), (5, .int v1)] [1, 2, 3, 4, 5, 0] rfl ?_
  exact hr8 x1 x2 x3 x4 v1 h hF
def bX12_needs_164  (r8 : Int32 → Int32 → Int32 → Int32 → Int32 → Hp → Option (Hp)) (r46 : Int32 → Int32 → Int32 → Int32 → Int32 → Int32 → Hp → Option (Hp)) (x1 : Int32) (x2 : Int32) (x3 : Int32) (x4 : Int32) (x5 : Int32) (x6 : Int32) (h : Hp) : Option (Hp) := lt (x6 + 1) (fun v1 => r46 x1 x2 x3 x4 x5 v1 h)
set_option maxRecDepth 20000 in
theorem BX12_needs_164 {Z : ZT} {G : GT} {hr : Hp} (X : CX Z G cX12_needs RX12 8 4) (E : RX Z G none (none) hr) (hz : HZM Z) (r8 : Int32 → Int32 → Int32 → Int32 → Int32 → Hp → Option (Hp)) (hr8 : ∀ (x1 : Int32) (x2 : Int32) (x3 : Int32) (x4 : Int32) (x5 : Int32) (h : Hp), r8 x1 x2 x3 x4 x5 h = some hr → J Z G 8 h 8 [(0, .ref (Z.2.1 0)), (1, .int x1), (2, .int x2), (3, .int x3), (4, .int x4), (5, .int x5)] []) (r46 : Int32 → Int32 → Int32 → Int32 → Int32 → Int32 → Hp → Option (Hp)) (hr46 : ∀ (x1 : Int32) (x2 : Int32) (x3 : Int32) (x4 : Int32) (x5 : Int32) (x6 : Int32) (h : Hp), r46 x1 x2 x3 x4 x5 x6 h = some hr → J Z G 8 h 46 [(0, .ref (Z.2.1 0)), (1, .int x1), (2, .int x2), (3, .int x3), (4, .int x4), (5, .int x5), (6, .int x6)] []) (x1 : Int32) (x2 : Int32) (x3 : Int32) (x4 : Int32) (x5 : Int32) (x6 : Int32) (h : Hp) (hF : bX12_needs_164  r8 r46 x1 x2 x3 x4 x5 x6 h = some hr) : J Z G 8 h 164 [(0, .ref (Z.2.1 0)), (1, .int x1), (2, .int x2), (3, .int x3), (4, .int x4), (5, .int x5), (6, .int x6)] [] := by
  unfold bX12_needs_164 at hF
  refine j_iinc (pc := 164) 6 (x6 + 1) (fun y => [(6, .int y), (0, .ref (Z.2.1 0)), (1, .int x1), (2, .int x2), (3, .int x3), (4, .int x4), (5, .int x5)]) X dX12_needs_164 rfl rfl (by decide) (fun _ => rfl) hF (fun v1 hF => ?_)
  refine j_goto (pc := 167) 46 X dX12_needs_167 rfl ?_
  refine j_lv [(0, .ref (Z.2.1 0)), (1, .int x1), (2, .int x2), (3, .int x3), (4, .int x4), (5, .int x5), (6, .int v1)] [1, 2, 3, 4, 5, 6, 0] rfl ?_
  exact hr46 x1 x2 x3 x4 x5 v1 h hF
def bX12_needs_125  (r8 : Int32 → Int32 → Int32 → Int32 → Int32 → Hp → Option (Hp)) (r46 : Int32 → Int32 → Int32 → Int32 → Int32 → Int32 → Hp → Option (Hp)) (x1 : Int32) (x2 : Int32) (x3 : Int32) (x4 : Int32) (x5 : Int32) (x6 : Int32) (x7 : Int32) (h : Hp) : Option (Hp) := bi (fX12_holdsFor x1 x2 (x3 ||| x5) (x4 ||| x6) h) (fun w2 h1 => (if w2 = 0 then bX12_needs_164 r8 r46 x1 x2 x3 x4 x5 x6 h1 else lt (wI h1 0 79 x7) (fun h3 => lt (wI h3 0 80 x5) (fun h4 => lt (wI h4 0 81 x6) (fun h5 => bX12_needs_164 r8 r46 x1 x2 x3 x4 x5 x6 h5)))))
set_option maxRecDepth 20000 in
theorem BX12_needs_125 {Z : ZT} {G : GT} {hr : Hp} (X : CX Z G cX12_needs RX12 8 4) (E : RX Z G none (none) hr) (hz : HZM Z) (r8 : Int32 → Int32 → Int32 → Int32 → Int32 → Hp → Option (Hp)) (hr8 : ∀ (x1 : Int32) (x2 : Int32) (x3 : Int32) (x4 : Int32) (x5 : Int32) (h : Hp), r8 x1 x2 x3 x4 x5 h = some hr → J Z G 8 h 8 [(0, .ref (Z.2.1 0)), (1, .int x1), (2, .int x2), (3, .int x3), (4, .int x4), (5, .int x5)] []) (r46 : Int32 → Int32 → Int32 → Int32 → Int32 → Int32 → Hp → Option (Hp)) (hr46 : ∀ (x1 : Int32) (x2 : Int32) (x3 : Int32) (x4 : Int32) (x5 : Int32) (x6 : Int32) (h : Hp), r46 x1 x2 x3 x4 x5 x6 h = some hr → J Z G 8 h 46 [(0, .ref (Z.2.1 0)), (1, .int x1), (2, .int x2), (3, .int x3), (4, .int x4), (5, .int x5), (6, .int x6)] []) (x1 : Int32) (x2 : Int32) (x3 : Int32) (x4 : Int32) (x5 : Int32) (x6 : Int32) (x7 : Int32) (h : Hp) (hF : bX12_needs_125  r8 r46 x1 x2 x3 x4 x5 x6 x7 h = some hr) : J Z G 8 h 125 [(0, .ref (Z.2.1 0)), (1, .int x1), (2, .int x2), (3, .int x3), (4, .int x4), (5, .int x5), (6, .int x6), (7, .int x7)] [] := by
  unfold bX12_needs_125 at hF
  refine j_aload_n (pc := 125) 0 X dX12_needs_125 rfl ?_
  refine j_iload_n (pc := 126) 1 X dX12_needs_126 rfl ?_
  refine j_iload_n (pc := 127) 2 X dX12_needs_127 rfl ?_
  refine j_iload_n (pc := 128) 3 X dX12_needs_128 rfl ?_
  refine j_iload (pc := 129) 5 X dX12_needs_129 rfl ?_
  refine j_ior (pc := 131) X dX12_needs_131 ?_
  refine j_iload (pc := 132) 4 X dX12_needs_132 rfl ?_
  refine j_iload (pc := 134) 6 X dX12_needs_134 rfl ?_
  refine j_ior (pc := 136) X dX12_needs_136 ?_
  refine j_cVi (pc := 137) (As := [.int x1, .int x2, .int (x3 ||| x5), .int (x4 ||| x6)]) (rest := []) X dX12_needs_137 ml_X12_456 ck_X12_holdsFor cv_X12_holdsFor (hz _ sh_0) rfl (Nat.le_of_ble_eq_true rfl) rfl (Nat.le_of_ble_eq_true rfl) rfl hF (tX12_holdsFor Z x1 x2 (x3 ||| x5) (x4 ||| x6) hz h) (fun w2 h1 hF => ?_)
  refine j_if_ne (pc := 140) 146 X dX12_needs_140 rfl hF (fun hF => ?_) (fun hF => ?_)
  · refine j_aload_n (pc := 146) 0 X dX12_needs_146 rfl ?_
    refine j_iload (pc := 147) 7 X dX12_needs_147 rfl ?_
    refine j_puti (pc := 149) X dX12_needs_149 (hz _ sh_0) fp_X12_519 rfl hF (fun h3 hF => ?_)
    refine j_aload_n (pc := 152) 0 X dX12_needs_152 rfl ?_
    refine j_iload (pc := 153) 5 X dX12_needs_153 rfl ?_
    refine j_puti (pc := 155) X dX12_needs_155 (hz _ sh_0) fp_X12_522 rfl hF (fun h4 hF => ?_)
    refine j_aload_n (pc := 158) 0 X dX12_needs_158 rfl ?_
    refine j_iload (pc := 159) 6 X dX12_needs_159 rfl ?_
    refine j_puti (pc := 161) X dX12_needs_161 (hz _ sh_0) fp_X12_525 rfl hF (fun h5 hF => ?_)
    refine j_lv [(0, .ref (Z.2.1 0)), (1, .int x1), (2, .int x2), (3, .int x3), (4, .int x4), (5, .int x5), (6, .int x6)] [0, 1, 2, 3, 4, 5, 6] rfl ?_
    exact BX12_needs_164 X E hz r8 hr8 r46 hr46 x1 x2 x3 x4 x5 x6 h5 hF
  · refine j_goto (pc := 143) 164 X dX12_needs_143 rfl ?_
    refine j_lv [(0, .ref (Z.2.1 0)), (1, .int x1), (2, .int x2), (3, .int x3), (4, .int x4), (5, .int x5), (6, .int x6)] [0, 1, 2, 3, 4, 5, 6] rfl ?_
    exact BX12_needs_164 X E hz r8 hr8 r46 hr46 x1 x2 x3 x4 x5 x6 h1 hF
def bX12_needs_46  (r8 : Int32 → Int32 → Int32 → Int32 → Int32 → Hp → Option (Hp)) (r46 : Int32 → Int32 → Int32 → Int32 → Int32 → Int32 → Hp → Option (Hp)) (x1 : Int32) (x2 : Int32) (x3 : Int32) (x4 : Int32) (x5 : Int32) (x6 : Int32) (h : Hp) : Option (Hp) := ck (inb (h.1 0 18) 2) ((if ((1 : Int32) <<< ((h.1 17 (ix (h.1 0 18))) &&& 31)) ≤ x6 then bX12_needs_170 r8 x1 x2 x3 x4 x5 h else bi (fX12_bits x5 h) (fun w2 h1 => bi (fX12_bits x6 h1) (fun w4 h3 => lt (w2 + w4) (fun v5 => (if (x6 &&& x4) = 0 then (if 3 < v5 then bX12_needs_164 r8 r46 x1 x2 x3 x4 x5 x6 h3 else (if (h3.1 0 79) < v5 then bX12_needs_164 r8 r46 x1 x2 x3 x4 x5 x6 h3 else (if v5 = (h3.1 0 79) then bi (fX12_bits x5 h3) (fun w7 h6 => bi (fX12_bits (h6.1 0 80) h6) (fun w9 h8 => (if w7 < w9 then bX12_needs_125 r8 r46 x1 x2 x3 x4 x5 x6 v5 h8 else bX12_needs_164 r8 r46 x1 x2 x3 x4 x5 x6 h8))) else bX12_needs_125 r8 r46 x1 x2 x3 x4 x5 x6 v5 h3))) else bX12_needs_164 r8 r46 x1 x2 x3 x4 x5 x6 h3))))))
def lX12_needs_46  (r8 : Int32 → Int32 → Int32 → Int32 → Int32 → Hp → Option (Hp)) : Nat → Int32 → Int32 → Int32 → Int32 → Int32 → Int32 → Hp → Option (Hp)
  | 0 => fun _ _ _ _ _ _ _ => none
  | n + 1 => bX12_needs_46  r8 (lX12_needs_46  r8 n)
set_option maxRecDepth 20000 in
theorem BX12_needs_46 {Z : ZT} {G : GT} {hr : Hp} (X : CX Z G cX12_needs RX12 8 4) (E : RX Z G none (none) hr) (hz : HZM Z) (r8 : Int32 → Int32 → Int32 → Int32 → Int32 → Hp → Option (Hp)) (hr8 : ∀ (x1 : Int32) (x2 : Int32) (x3 : Int32) (x4 : Int32) (x5 : Int32) (h : Hp), r8 x1 x2 x3 x4 x5 h = some hr → J Z G 8 h 8 [(0, .ref (Z.2.1 0)), (1, .int x1), (2, .int x2), (3, .int x3), (4, .int x4), (5, .int x5)] []) (r46 : Int32 → Int32 → Int32 → Int32 → Int32 → Int32 → Hp → Option (Hp)) (hr46 : ∀ (x1 : Int32) (x2 : Int32) (x3 : Int32) (x4 : Int32) (x5 : Int32) (x6 : Int32) (h : Hp), r46 x1 x2 x3 x4 x5 x6 h = some hr → J Z G 8 h 46 [(0, .ref (Z.2.1 0)), (1, .int x1), (2, .int x2), (3, .int x3), (4, .int x4), (5, .int x5), (6, .int x6)] []) (x1 : Int32) (x2 : Int32) (x3 : Int32) (x4 : Int32) (x5 : Int32) (x6 : Int32) (h : Hp) (hF : bX12_needs_46  r8 r46 x1 x2 x3 x4 x5 x6 h = some hr) : J Z G 8 h 46 [(0, .ref (Z.2.1 0)), (1, .int x1), (2, .int x2), (3, .int x3), (4, .int x4), (5, .int x5), (6, .int x6)] [] := by
  unfold bX12_needs_46 at hF
  refine j_iload (pc := 46) 6 X dX12_needs_46 rfl ?_
  refine j_iconst (pc := 48) 1 X dX12_needs_48 rfl ?_
  refine j_aload_n (pc := 49) 0 X dX12_needs_49 rfl ?_
  refine j_getr (pc := 50) X dX12_needs_50 (hz _ sh_0) fl_X12_67 rfl ?_
  refine j_aload_n (pc := 53) 0 X dX12_needs_53 rfl ?_
  refine j_geti (pc := 54) X dX12_needs_54 (hz _ sh_0) fl_X12_284 rfl ?_
  refine j_iald (pc := 57) X dX12_needs_57 (hz _ sh_17) hF (fun hF => ?_)
  refine j_ishl (pc := 58) X dX12_needs_58 ?_
  refine j_icmp_ge (pc := 59) 170 X dX12_needs_59 rfl hF (fun hF => ?_) (fun hF => ?_)
  · refine j_lv [(0, .ref (Z.2.1 0)), (1, .int x1), (2, .int x2), (3, .int x3), (4, .int x4), (5, .int x5)] [0, 1, 2, 3, 4, 5] rfl ?_
    exact BX12_needs_170 X E hz r8 hr8 x1 x2 x3 x4 x5 h hF
  · refine j_iload (pc := 62) 5 X dX12_needs_62 rfl ?_
    refine j_cSi (pc := 64) (As := [.int x5]) (rest := []) X dX12_needs_64 ml_X12_513 ck_X12_bits sk_X12_bits (Nat.le_of_ble_eq_true rfl) rfl (Nat.le_of_ble_eq_true rfl) rfl hF (tX12_bits Z x5 trivial h) (fun w2 h1 hF => ?_)
    refine j_iload (pc := 67) 6 X dX12_needs_67 rfl ?_
    refine j_cSi (pc := 69) (As := [.int x6]) (rest := [.int w2]) X dX12_needs_69 ml_X12_513 ck_X12_bits sk_X12_bits (Nat.le_of_ble_eq_true rfl) rfl (Nat.le_of_ble_eq_true rfl) rfl hF (tX12_bits Z x6 trivial h1) (fun w4 h3 hF => ?_)
    refine j_iadd (pc := 72) X dX12_needs_72 ?_
    refine j_istore (pc := 73) (fun y => [(7, .int y), (0, .ref (Z.2.1 0)), (1, .int x1), (2, .int x2), (3, .int x3), (4, .int x4), (5, .int x5), (6, .int x6)]) X dX12_needs_73 (by decide) (fun _ => rfl) hF (fun v5 hF => ?_)
    refine j_iload (pc := 75) 7 X dX12_needs_75 rfl ?_
    refine j_iload (pc := 77) 5 X dX12_needs_77 rfl ?_
    refine j_iand (pc := 79) X dX12_needs_79 ?_
    refine j_if_ne (pc := 80) 164 X dX12_needs_80 rfl hF (fun hF => ?_) (fun hF => ?_)
    · refine j_lv [(0, .ref (Z.2.1 0)), (1, .int x1), (2, .int x2), (3, .int x3), (4, .int x4), (5, .int x5), (6, .int x6)] [1, 2, 3, 4, 5, 6, 7] rfl ?_
      exact BX12_needs_164 X E hz r8 hr8 r46 hr46 x1 x2 x3 x4 x5 x6 h3 hF
    · refine j_iload (pc := 83) 0 X dX12_needs_83 rfl ?_
      refine j_iconst (pc := 85) 3 X dX12_needs_85 rfl ?_
      refine j_icmp_gt (pc := 86) 164 X dX12_needs_86 rfl hF (fun hF => ?_) (fun hF => ?_)
      · refine j_lv [(0, .ref (Z.2.1 0)), (1, .int x1), (2, .int x2), (3, .int x3), (4, .int x4), (5, .int x5), (6, .int x6)] [1, 2, 3, 4, 5, 6, 7] rfl ?_
        exact BX12_needs_164 X E hz r8 hr8 r46 hr46 x1 x2 x3 x4 x5 x6 h3 hF
      · refine j_iload (pc := 89) 0 X dX12_needs_89 rfl ?_
        refine j_aload_n (pc := 91) 1 X dX12_needs_91 rfl ?_
        refine j_geti (pc := 92) X dX12_needs_92 (hz _ sh_0) fl_X12_519 rfl ?_
        refine j_icmp_gt (pc := 95) 164 X dX12_needs_95 rfl hF (fun hF => ?_) (fun hF => ?_)
        · refine j_lv [(0, .ref (Z.2.1 0)), (1, .int x1), (2, .int x2), (3, .int x3), (4, .int x4), (5, .int x5), (6, .int x6)] [1, 2, 3, 4, 5, 6, 7] rfl ?_
          exact BX12_needs_164 X E hz r8 hr8 r46 hr46 x1 x2 x3 x4 x5 x6 h3 hF
        · refine j_iload (pc := 98) 0 X dX12_needs_98 rfl ?_
          refine j_aload_n (pc := 100) 1 X dX12_needs_100 rfl ?_
          refine j_geti (pc := 101) X dX12_needs_101 (hz _ sh_0) fl_X12_519 rfl ?_
          refine j_icmp_ne (pc := 104) 125 X dX12_needs_104 rfl hF (fun hF => ?_) (fun hF => ?_)
          · refine j_lv [(0, .ref (Z.2.1 0)), (1, .int x1), (2, .int x2), (3, .int x3), (4, .int x4), (5, .int x5), (6, .int x6), (7, .int v5)] [1, 2, 3, 4, 5, 6, 7, 0] rfl ?_
            exact BX12_needs_125 X E hz r8 hr8 r46 hr46 x1 x2 x3 x4 x5 x6 v5 h3 hF
          · refine j_iload (pc := 107) 6 X dX12_needs_107 rfl ?_
            refine j_cSi (pc := 109) (As := [.int x5]) (rest := []) X dX12_needs_109 ml_X12_513 ck_X12_bits sk_X12_bits (Nat.le_of_ble_eq_true rfl) rfl (Nat.le_of_ble_eq_true rfl) rfl hF (tX12_bits Z x5 trivial h3) (fun w7 h6 hF => ?_)
            refine j_aload_n (pc := 112) 1 X dX12_needs_112 rfl ?_
            refine j_geti (pc := 113) X dX12_needs_113 (hz _ sh_0) fl_X12_522 rfl ?_
            refine j_cSi (pc := 116) (As := [.int (h6.1 0 80)]) (rest := [.int w7]) X dX12_needs_116 ml_X12_513 ck_X12_bits sk_X12_bits (Nat.le_of_ble_eq_true rfl) rfl (Nat.le_of_ble_eq_true rfl) rfl hF (tX12_bits Z (h6.1 0 80) trivial h6) (fun w9 h8 hF => ?_)
            refine j_icmp_lt (pc := 119) 125 X dX12_needs_119 rfl hF (fun hF => ?_) (fun hF => ?_)
            · refine j_lv [(0, .ref (Z.2.1 0)), (1, .int x1), (2, .int x2), (3, .int x3), (4, .int x4), (5, .int x5), (6, .int x6), (7, .int v5)] [1, 2, 3, 4, 5, 6, 7, 0] rfl ?_
              exact BX12_needs_125 X E hz r8 hr8 r46 hr46 x1 x2 x3 x4 x5 x6 v5 h8 hF
            · refine j_goto (pc := 122) 164 X dX12_needs_122 rfl ?_
              refine j_lv [(0, .ref (Z.2.1 0)), (1, .int x1), (2, .int x2), (3, .int x3), (4, .int x4), (5, .int x5), (6, .int x6)] [1, 2, 3, 4, 5, 6, 7] rfl ?_
              exact BX12_needs_164 X E hz r8 hr8 r46 hr46 x1 x2 x3 x4 x5 x6 h8 hF
theorem LX12_needs_46 {Z : ZT} {G : GT} {hr : Hp} (X : CX Z G cX12_needs RX12 8 4) (E : RX Z G none (none) hr) (hz : HZM Z) (r8 : Int32 → Int32 → Int32 → Int32 → Int32 → Hp → Option (Hp)) (hr8 : ∀ (x1 : Int32) (x2 : Int32) (x3 : Int32) (x4 : Int32) (x5 : Int32) (h : Hp), r8 x1 x2 x3 x4 x5 h = some hr → J Z G 8 h 8 [(0, .ref (Z.2.1 0)), (1, .int x1), (2, .int x2), (3, .int x3), (4, .int x4), (5, .int x5)] []) : ∀ (n : Nat) (x1 : Int32) (x2 : Int32) (x3 : Int32) (x4 : Int32) (x5 : Int32) (x6 : Int32) (h : Hp), lX12_needs_46  r8 n x1 x2 x3 x4 x5 x6 h = some hr → J Z G 8 h 46 [(0, .ref (Z.2.1 0)), (1, .int x1), (2, .int x2), (3, .int x3), (4, .int x4), (5, .int x5), (6, .int x6)] [] := by
  intro n
  induction n with
  | zero => intro x1 x2 x3 x4 x5 x6 h hF; cases hF
  | succ n ih => intro x1 x2 x3 x4 x5 x6 h hF; exact BX12_needs_46 X E hz r8 hr8 (lX12_needs_46  r8 n) ih x1 x2 x3 x4 x5 x6 h hF
def bX12_needs_8   (r8 : Int32 → Int32 → Int32 → Int32 → Int32 → Hp → Option (Hp)) (x1 : Int32) (x2 : Int32) (x3 : Int32) (x4 : Int32) (x5 : Int32) (h : Hp) : Option (Hp) := ck (inb (h.1 0 18) 2) ((if ((1 : Int32) <<< ((h.1 11 (ix (h.1 0 18))) &&& 31)) ≤ x5 then some h else (if (x5 &&& x3) = 0 then bi (fX12_bits x5 h) (fun w2 h1 => (if w2 ≤ 3 then lt 0 (fun v3 => lX12_needs_46 r8 FU x1 x2 x3 x4 x5 v3 h1) else bX12_needs_170 r8 x1 x2 x3 x4 x5 h1)) else bX12_needs_170 r8 x1 x2 x3 x4 x5 h)))
def lX12_needs_8   : Nat → Int32 → Int32 → Int32 → Int32 → Int32 → Hp → Option (Hp)
  | 0 => fun _ _ _ _ _ _ => none
  | n + 1 => bX12_needs_8   (lX12_needs_8   n)
set_option maxRecDepth 20000 in
theorem BX12_needs_8 {Z : ZT} {G : GT} {hr : Hp} (X : CX Z G cX12_needs RX12 8 4) (E : RX Z G none (none) hr) (hz : HZM Z)  (r8 : Int32 → Int32 → Int32 → Int32 → Int32 → Hp → Option (Hp)) (hr8 : ∀ (x1 : Int32) (x2 : Int32) (x3 : Int32) (x4 : Int32) (x5 : Int32) (h : Hp), r8 x1 x2 x3 x4 x5 h = some hr → J Z G 8 h 8 [(0, .ref (Z.2.1 0)), (1, .int x1), (2, .int x2), (3, .int x3), (4, .int x4), (5, .int x5)] []) (x1 : Int32) (x2 : Int32) (x3 : Int32) (x4 : Int32) (x5 : Int32) (h : Hp) (hF : bX12_needs_8   r8 x1 x2 x3 x4 x5 h = some hr) : J Z G 8 h 8 [(0, .ref (Z.2.1 0)), (1, .int x1), (2, .int x2), (3, .int x3), (4, .int x4), (5, .int x5)] [] := by
  unfold bX12_needs_8 at hF
  refine j_iload (pc := 8) 5 X dX12_needs_8 rfl ?_
  refine j_iconst (pc := 10) 1 X dX12_needs_10 rfl ?_
  refine j_aload_n (pc := 11) 0 X dX12_needs_11 rfl ?_
  refine j_getr (pc := 12) X dX12_needs_12 (hz _ sh_0) fl_X12_49 rfl ?_
  refine j_aload_n (pc := 15) 0 X dX12_needs_15 rfl ?_
  refine j_geti (pc := 16) X dX12_needs_16 (hz _ sh_0) fl_X12_284 rfl ?_
  refine j_iald (pc := 19) X dX12_needs_19 (hz _ sh_11) hF (fun hF => ?_)
  refine j_ishl (pc := 20) X dX12_needs_20 ?_
  refine j_icmp_ge (pc := 21) 176 X dX12_needs_21 rfl hF (fun hF => ?_) (fun hF => ?_)
  · exact j_vret (pc := 176) X E dX12_needs_176 hF
  · refine j_iload (pc := 24) 5 X dX12_needs_24 rfl ?_
    refine j_iload_n (pc := 26) 3 X dX12_needs_26 rfl ?_
    refine j_iand (pc := 27) X dX12_needs_27 ?_
    refine j_if_ne (pc := 28) 170 X dX12_needs_28 rfl hF (fun hF => ?_) (fun hF => ?_)
    · exact BX12_needs_170 X E hz r8 hr8 x1 x2 x3 x4 x5 h hF
    · refine j_iload (pc := 31) 5 X dX12_needs_31 rfl ?_
      refine j_cSi (pc := 33) (As := [.int x5]) (rest := []) X dX12_needs_33 ml_X12_513 ck_X12_bits sk_X12_bits (Nat.le_of_ble_eq_true rfl) rfl (Nat.le_of_ble_eq_true rfl) rfl hF (tX12_bits Z x5 trivial h) (fun w2 h1 hF => ?_)
      refine j_iconst (pc := 36) 3 X dX12_needs_36 rfl ?_
      refine j_icmp_le (pc := 37) 43 X dX12_needs_37 rfl hF (fun hF => ?_) (fun hF => ?_)
      · refine j_iconst (pc := 43) 0 X dX12_needs_43 rfl ?_
        refine j_istore (pc := 44) (fun y => [(6, .int y), (0, .ref (Z.2.1 0)), (1, .int x1), (2, .int x2), (3, .int x3), (4, .int x4), (5, .int x5)]) X dX12_needs_44 (by decide) (fun _ => rfl) hF (fun v3 hF => ?_)
        refine j_lv [(0, .ref (Z.2.1 0)), (1, .int x1), (2, .int x2), (3, .int x3), (4, .int x4), (5, .int x5), (6, .int v3)] [1, 2, 3, 4, 5, 6, 0] rfl ?_
        exact LX12_needs_46 X E hz r8 hr8 FU x1 x2 x3 x4 x5 v3 h1 hF
      · refine j_goto (pc := 40) 170 X dX12_needs_40 rfl ?_
        exact BX12_needs_170 X E hz r8 hr8 x1 x2 x3 x4 x5 h1 hF
theorem LX12_needs_8 {Z : ZT} {G : GT} {hr : Hp} (X : CX Z G cX12_needs RX12 8 4) (E : RX Z G none (none) hr) (hz : HZM Z)  : ∀ (n : Nat) (x1 : Int32) (x2 : Int32) (x3 : Int32) (x4 : Int32) (x5 : Int32) (h : Hp), lX12_needs_8   n x1 x2 x3 x4 x5 h = some hr → J Z G 8 h 8 [(0, .ref (Z.2.1 0)), (1, .int x1), (2, .int x2), (3, .int x3), (4, .int x4), (5, .int x5)] [] := by
  intro n
  induction n with
  | zero => intro x1 x2 x3 x4 x5 h hF; cases hF
  | succ n ih => intro x1 x2 x3 x4 x5 h hF; exact BX12_needs_8 X E hz  (lX12_needs_8   n) ih x1 x2 x3 x4 x5 h hF
def fX12_needs (a1 : Int32) (a2 : Int32) (a3 : Int32) (a4 : Int32) (h : Hp) : Option (Hp) := lt (wI h 0 79 4) (fun h1 => lt 0 (fun v2 => lX12_needs_8 FU a1 a2 a3 a4 v2 h1))
set_option maxRecDepth 20000 in
theorem tX12_needs (Z : ZT) (a1 : Int32) (a2 : Int32) (a3 : Int32) (a4 : Int32) (hz : HZM Z) (h : Hp) (hr : Hp) (hF : fX12_needs a1 a2 a3 a4 h = some hr) : MC Z yX12_needs cX12_needs 8 none 4 [.ref (Z.2.1 0), .int a1, .int a2, .int a3, .int a4] h (none) hr := by
  unfold fX12_needs at hF
  refine mc_start (by decide) (Nat.le_of_ble_eq_true rfl) (fun G X E => ?_)
  refine j_aload_n (pc := 0) 0 X dX12_needs_0 rfl ?_
  refine j_iconst (pc := 1) 4 X dX12_needs_1 rfl ?_
  refine j_puti (pc := 2) X dX12_needs_2 (hz _ sh_0) fp_X12_519 rfl hF (fun h1 hF => ?_)
  refine j_iconst (pc := 5) 0 X dX12_needs_5 rfl ?_
  refine j_istore (pc := 6) (fun y => [(5, .int y), (0, .ref (Z.2.1 0)), (1, .int a1), (2, .int a2), (3, .int a3), (4, .int a4)]) X dX12_needs_6 (by decide) (fun _ => rfl) hF (fun v2 hF => ?_)
  refine j_lv [(0, .ref (Z.2.1 0)), (1, .int a1), (2, .int a2), (3, .int a3), (4, .int a4), (5, .int v2)] [1, 2, 3, 4, 5, 0] rfl ?_
  exact LX12_needs_8 X E hz FU a1 a2 a3 a4 v2 h1 hF
theorem dX12_areSets_0 : decode cX12_areSets 0 = .ok (.iload_n 1, 1) := by decide +kernel
theorem dX12_areSets_1 : decode cX12_areSets 1 = .ok (.iconst 0, 1) := by decide +kernel
theorem dX12_areSets_2 : decode cX12_areSets 2 = .ok (.iconst 1, 1) := by decide +kernel
theorem dX12_areSets_3 : decode cX12_areSets 3 = .ok (.aload_n 0, 1) := by decide +kernel
theorem dX12_areSets_4 : decode cX12_areSets 4 = .ok (.getfield 49, 3) := by decide +kernel
theorem dX12_areSets_7 : decode cX12_areSets 7 = .ok (.aload_n 0, 1) := by decide +kernel
theorem dX12_areSets_8 : decode cX12_areSets 8 = .ok (.getfield 284, 3) := by decide +kernel
theorem dX12_areSets_11 : decode cX12_areSets 11 = .ok (.iaload, 1) := by decide +kernel
theorem dX12_areSets_12 : decode cX12_areSets 12 = .ok (.ishl, 1) := by decide +kernel
theorem dX12_areSets_13 : decode cX12_areSets 13 = .ok (.iconst 1, 1) := by decide +kernel
theorem dX12_areSets_14 : decode cX12_areSets 14 = .ok (.isub, 1) := by decide +kernel
theorem dX12_areSets_15 : decode cX12_areSets 15 = .ok (.invokestatic 383, 3) := by decide +kernel
theorem dX12_areSets_18 : decode cX12_areSets 18 = .ok (.ifCond .eq 28, 3) := by decide +kernel
theorem dX12_areSets_21 : decode cX12_areSets 21 = .ok (.iload_n 2, 1) := by decide +kernel
theorem dX12_areSets_22 : decode cX12_areSets 22 = .ok (.iconst 0, 1) := by decide +kernel
theorem dX12_areSets_23 : decode cX12_areSets 23 = .ok (.iconst 1, 1) := by decide +kernel
theorem dX12_areSets_24 : decode cX12_areSets 24 = .ok (.aload_n 0, 1) := by decide +kernel
theorem dX12_areSets_25 : decode cX12_areSets 25 = .ok (.getfield 67, 3) := by decide +kernel
theorem dX12_areSets_28 : decode cX12_areSets 28 = .ok (.aload_n 0, 1) := by decide +kernel
theorem dX12_areSets_29 : decode cX12_areSets 29 = .ok (.getfield 284, 3) := by decide +kernel
theorem dX12_areSets_32 : decode cX12_areSets 32 = .ok (.iaload, 1) := by decide +kernel
theorem dX12_areSets_33 : decode cX12_areSets 33 = .ok (.ishl, 1) := by decide +kernel
theorem dX12_areSets_34 : decode cX12_areSets 34 = .ok (.iconst 1, 1) := by decide +kernel
theorem dX12_areSets_35 : decode cX12_areSets 35 = .ok (.isub, 1) := by decide +kernel
theorem dX12_areSets_36 : decode cX12_areSets 36 = .ok (.invokestatic 383, 3) := by decide +kernel
theorem dX12_areSets_39 : decode cX12_areSets 39 = .ok (.ifCond .eq 7, 3) := by decide +kernel
theorem dX12_areSets_42 : decode cX12_areSets 42 = .ok (.iconst 1, 1) := by decide +kernel
theorem dX12_areSets_43 : decode cX12_areSets 43 = .ok (.goto 4, 3) := by decide +kernel
theorem dX12_areSets_46 : decode cX12_areSets 46 = .ok (.iconst 0, 1) := by decide +kernel
theorem dX12_areSets_47 : decode cX12_areSets 47 = .ok (.ireturn, 1) := by decide +kernel
def fX12_areSets (a1 : Int32) (a2 : Int32) (h : Hp) : Option (Int32 × Hp) := ck (inb (h.1 0 18) 2) (bi (fX12_in a1 0 (((1 : Int32) <<< ((h.1 11 (ix (h.1 0 18))) &&& 31)) - 1) h) (fun w2 h1 => (if w2 = 0 then ck (zb 0) (some (0, h1)) else ck (inb (h1.1 0 18) 2) (bi (fX12_in a2 0 (((1 : Int32) <<< ((h1.1 17 (ix (h1.1 0 18))) &&& 31)) - 1) h1) (fun w4 h3 => (if w4 = 0 then ck (zb 0) (some (0, h3)) else ck (zb 1) (some (1, h3))))))))
set_option maxRecDepth 20000 in
theorem tX12_areSets (Z : ZT) (a1 : Int32) (a2 : Int32) (hz : HZM Z) (h : Hp) (r : Int32) (hr : Hp) (hF : fX12_areSets a1 a2 h = some (r, hr)) : MC Z yX12_areSets cX12_areSets 3 (some .boolean) 1 [.ref (Z.2.1 0), .int a1, .int a2] h (some (.int r)) hr := by
  unfold fX12_areSets at hF
  refine mc_start (by decide) (Nat.le_of_ble_eq_true rfl) (fun G X E => ?_)
  refine j_iload_n (pc := 0) 1 X dX12_areSets_0 rfl ?_
  refine j_iconst (pc := 1) 0 X dX12_areSets_1 rfl ?_
  refine j_iconst (pc := 2) 1 X dX12_areSets_2 rfl ?_
  refine j_aload_n (pc := 3) 0 X dX12_areSets_3 rfl ?_
  refine j_getr (pc := 4) X dX12_areSets_4 (hz _ sh_0) fl_X12_49 rfl ?_
  refine j_aload_n (pc := 7) 0 X dX12_areSets_7 rfl ?_
  refine j_geti (pc := 8) X dX12_areSets_8 (hz _ sh_0) fl_X12_284 rfl ?_
  refine j_iald (pc := 11) X dX12_areSets_11 (hz _ sh_11) hF (fun hF => ?_)
  refine j_ishl (pc := 12) X dX12_areSets_12 ?_
  refine j_iconst (pc := 13) 1 X dX12_areSets_13 rfl ?_
  refine j_isub (pc := 14) X dX12_areSets_14 ?_
  refine j_cSi (pc := 15) (As := [.int a1, .int 0, .int (((1 : Int32) <<< ((h.1 11 (ix (h.1 0 18))) &&& 31)) - 1)]) (rest := []) X dX12_areSets_15 ml_X12_383 ck_X12_in sk_X12_in (Nat.le_of_ble_eq_true rfl) rfl (Nat.le_of_ble_eq_true rfl) rfl hF (tX12_in Z a1 0 (((1 : Int32) <<< ((h.1 11 (ix (h.1 0 18))) &&& 31)) - 1) trivial h) (fun w2 h1 hF => ?_)
  refine j_if_eq (pc := 18) 46 X dX12_areSets_18 rfl hF (fun hF => ?_) (fun hF => ?_)
  · refine j_iconst (pc := 46) 0 X dX12_areSets_46 rfl ?_
    exact j_zret (pc := 47) X E dX12_areSets_47 hF
  · refine j_iload_n (pc := 21) 2 X dX12_areSets_21 rfl ?_
    refine j_iconst (pc := 22) 0 X dX12_areSets_22 rfl ?_
    refine j_iconst (pc := 23) 1 X dX12_areSets_23 rfl ?_
    refine j_aload_n (pc := 24) 0 X dX12_areSets_24 rfl ?_
    refine j_getr (pc := 25) X dX12_areSets_25 (hz _ sh_0) fl_X12_67 rfl ?_
    refine j_aload_n (pc := 28) 0 X dX12_areSets_28 rfl ?_
    refine j_geti (pc := 29) X dX12_areSets_29 (hz _ sh_0) fl_X12_284 rfl ?_
    refine j_iald (pc := 32) X dX12_areSets_32 (hz _ sh_17) hF (fun hF => ?_)
    refine j_ishl (pc := 33) X dX12_areSets_33 ?_
    refine j_iconst (pc := 34) 1 X dX12_areSets_34 rfl ?_
    refine j_isub (pc := 35) X dX12_areSets_35 ?_
    refine j_cSi (pc := 36) (As := [.int a2, .int 0, .int (((1 : Int32) <<< ((h1.1 17 (ix (h1.1 0 18))) &&& 31)) - 1)]) (rest := []) X dX12_areSets_36 ml_X12_383 ck_X12_in sk_X12_in (Nat.le_of_ble_eq_true rfl) rfl (Nat.le_of_ble_eq_true rfl) rfl hF (tX12_in Z a2 0 (((1 : Int32) <<< ((h1.1 17 (ix (h1.1 0 18))) &&& 31)) - 1) trivial h1) (fun w4 h3 hF => ?_)
    refine j_if_eq (pc := 39) 46 X dX12_areSets_39 rfl hF (fun hF => ?_) (fun hF => ?_)
    · refine j_iconst (pc := 46) 0 X dX12_areSets_46 rfl ?_
      exact j_zret (pc := 47) X E dX12_areSets_47 hF
    · refine j_iconst (pc := 42) 1 X dX12_areSets_42 rfl ?_
      refine j_goto (pc := 43) 47 X dX12_areSets_43 rfl ?_
      exact j_zret (pc := 47) X E dX12_areSets_47 hF
theorem dX12_need_0 : decode cX12_need 0 = .ok (.aload_n 0, 1) := by decide +kernel
theorem dX12_need_1 : decode cX12_need 1 = .ok (.iload_n 1, 1) := by decide +kernel
theorem dX12_need_2 : decode cX12_need 2 = .ok (.invokevirtual 400, 3) := by decide +kernel
theorem dX12_need_5 : decode cX12_need 5 = .ok (.ifCond .eq 30, 3) := by decide +kernel
theorem dX12_need_8 : decode cX12_need 8 = .ok (.iload_n 2, 1) := by decide +kernel
theorem dX12_need_9 : decode cX12_need 9 = .ok (.invokestatic 412, 3) := by decide +kernel
theorem dX12_need_12 : decode cX12_need 12 = .ok (.ifCond .eq 23, 3) := by decide +kernel
theorem dX12_need_15 : decode cX12_need 15 = .ok (.aload_n 0, 1) := by decide +kernel
theorem dX12_need_16 : decode cX12_need 16 = .ok (.iload_n 3, 1) := by decide +kernel
theorem dX12_need_17 : decode cX12_need 17 = .ok (.iload 4, 2) := by decide +kernel
theorem dX12_need_19 : decode cX12_need 19 = .ok (.invokevirtual 528, 3) := by decide +kernel
theorem dX12_need_22 : decode cX12_need 22 = .ok (.ifCond .eq 13, 3) := by decide +kernel
theorem dX12_need_25 : decode cX12_need 25 = .ok (.iload 5, 2) := by decide +kernel
theorem dX12_need_27 : decode cX12_need 27 = .ok (.iconst 0, 1) := by decide +kernel
theorem dX12_need_28 : decode cX12_need 28 = .ok (.iconst 2, 1) := by decide +kernel
theorem dX12_need_29 : decode cX12_need 29 = .ok (.invokestatic 383, 3) := by decide +kernel
theorem dX12_need_32 : decode cX12_need 32 = .ok (.ifCond .ne 5, 3) := by decide +kernel
theorem dX12_need_35 : decode cX12_need 35 = .ok (.iconst (-1), 1) := by decide +kernel
theorem dX12_need_36 : decode cX12_need 36 = .ok (.ireturn, 1) := by decide +kernel
theorem dX12_need_37 : decode cX12_need 37 = .ok (.aload_n 0, 1) := by decide +kernel
theorem dX12_need_38 : decode cX12_need 38 = .ok (.iload_n 1, 1) := by decide +kernel
theorem dX12_need_39 : decode cX12_need 39 = .ok (.iload_n 2, 1) := by decide +kernel
theorem dX12_need_40 : decode cX12_need 40 = .ok (.iload_n 3, 1) := by decide +kernel
theorem dX12_need_41 : decode cX12_need 41 = .ok (.iload 4, 2) := by decide +kernel
theorem dX12_need_43 : decode cX12_need 43 = .ok (.invokevirtual 531, 3) := by decide +kernel
theorem dX12_need_46 : decode cX12_need 46 = .ok (.aload_n 0, 1) := by decide +kernel
theorem dX12_need_47 : decode cX12_need 47 = .ok (.getfield 519, 3) := by decide +kernel
theorem dX12_need_50 : decode cX12_need 50 = .ok (.iconst 4, 1) := by decide +kernel
theorem dX12_need_51 : decode cX12_need 51 = .ok (.if_icmp .ne 8, 3) := by decide +kernel
theorem dX12_need_54 : decode cX12_need 54 = .ok (.bipush (-2), 2) := by decide +kernel
theorem dX12_need_56 : decode cX12_need 56 = .ok (.goto 32, 3) := by decide +kernel
theorem dX12_need_59 : decode cX12_need 59 = .ok (.iload 5, 2) := by decide +kernel
theorem dX12_need_61 : decode cX12_need 61 = .ok (.ifCond .ne 10, 3) := by decide +kernel
theorem dX12_need_64 : decode cX12_need 64 = .ok (.aload_n 0, 1) := by decide +kernel
theorem dX12_need_65 : decode cX12_need 65 = .ok (.getfield 519, 3) := by decide +kernel
theorem dX12_need_68 : decode cX12_need 68 = .ok (.goto 20, 3) := by decide +kernel
theorem dX12_need_71 : decode cX12_need 71 = .ok (.iload 5, 2) := by decide +kernel
theorem dX12_need_73 : decode cX12_need 73 = .ok (.iconst 1, 1) := by decide +kernel
theorem dX12_need_74 : decode cX12_need 74 = .ok (.if_icmp .ne 10, 3) := by decide +kernel
theorem dX12_need_77 : decode cX12_need 77 = .ok (.aload_n 0, 1) := by decide +kernel
theorem dX12_need_78 : decode cX12_need 78 = .ok (.getfield 522, 3) := by decide +kernel
theorem dX12_need_81 : decode cX12_need 81 = .ok (.goto 7, 3) := by decide +kernel
theorem dX12_need_84 : decode cX12_need 84 = .ok (.aload_n 0, 1) := by decide +kernel
theorem dX12_need_85 : decode cX12_need 85 = .ok (.getfield 525, 3) := by decide +kernel
theorem dX12_need_88 : decode cX12_need 88 = .ok (.ireturn, 1) := by decide +kernel
def fX12_need (a1 : Int32) (a2 : Int32) (a3 : Int32) (a4 : Int32) (a5 : Int32) (h : Hp) : Option (Int32 × Hp) := bi (fX12_hasLetter a1 h) (fun w2 h1 => (if w2 = 0 then some ((-1), h1) else bi (fX12_isYear a2 h1) (fun w4 h3 => (if w4 = 0 then some ((-1), h3) else bi (fX12_areSets a3 a4 h3) (fun w6 h5 => (if w6 = 0 then some ((-1), h5) else bi (fX12_in a5 0 2 h5) (fun w8 h7 => (if w8 = 0 then some ((-1), h7) else bv (fX12_needs a1 a2 a3 a4 h7) (fun h9 => (if (h9.1 0 79) = 4 then some ((-2), h9) else (if a5 = 0 then some ((h9.1 0 79), h9) else (if a5 = 1 then some ((h9.1 0 80), h9) else some ((h9.1 0 81), h9)))))))))))))
set_option maxRecDepth 20000 in
theorem tX12_need (Z : ZT) (a1 : Int32) (a2 : Int32) (a3 : Int32) (a4 : Int32) (a5 : Int32) (hz : HZM Z) (h : Hp) (r : Int32) (hr : Hp) (hF : fX12_need a1 a2 a3 a4 a5 h = some (r, hr)) : MC Z yX12_need cX12_need 6 (some .int) 5 [.ref (Z.2.1 0), .int a1, .int a2, .int a3, .int a4, .int a5] h (some (.int r)) hr := by
  unfold fX12_need at hF
  refine mc_start (by decide) (Nat.le_of_ble_eq_true rfl) (fun G X E => ?_)
  refine j_aload_n (pc := 0) 0 X dX12_need_0 rfl ?_
  refine j_iload_n (pc := 1) 1 X dX12_need_1 rfl ?_
  refine j_cVi (pc := 2) (As := [.int a1]) (rest := []) X dX12_need_2 ml_X12_400 ck_X12_hasLetter cv_X12_hasLetter (hz _ sh_0) rfl (Nat.le_of_ble_eq_true rfl) rfl (Nat.le_of_ble_eq_true rfl) rfl hF (tX12_hasLetter Z a1 hz h) (fun w2 h1 hF => ?_)
  refine j_if_eq (pc := 5) 35 X dX12_need_5 rfl hF (fun hF => ?_) (fun hF => ?_)
  · refine j_iconst (pc := 35) (-1) X dX12_need_35 rfl ?_
    exact j_iret (pc := 36) X E dX12_need_36 hF
  · refine j_iload_n (pc := 8) 2 X dX12_need_8 rfl ?_
    refine j_cSi (pc := 9) (As := [.int a2]) (rest := []) X dX12_need_9 ml_X12_412 ck_X12_isYear sk_X12_isYear (Nat.le_of_ble_eq_true rfl) rfl (Nat.le_of_ble_eq_true rfl) rfl hF (tX12_isYear Z a2 trivial h1) (fun w4 h3 hF => ?_)
    refine j_if_eq (pc := 12) 35 X dX12_need_12 rfl hF (fun hF => ?_) (fun hF => ?_)
    · refine j_iconst (pc := 35) (-1) X dX12_need_35 rfl ?_
      exact j_iret (pc := 36) X E dX12_need_36 hF
    · refine j_aload_n (pc := 15) 0 X dX12_need_15 rfl ?_
      refine j_iload_n (pc := 16) 3 X dX12_need_16 rfl ?_
      refine j_iload (pc := 17) 4 X dX12_need_17 rfl ?_
      refine j_cVi (pc := 19) (As := [.int a3, .int a4]) (rest := []) X dX12_need_19 ml_X12_528 ck_X12_areSets cv_X12_areSets (hz _ sh_0) rfl (Nat.le_of_ble_eq_true rfl) rfl (Nat.le_of_ble_eq_true rfl) rfl hF (tX12_areSets Z a3 a4 hz h3) (fun w6 h5 hF => ?_)
      refine j_if_eq (pc := 22) 35 X dX12_need_22 rfl hF (fun hF => ?_) (fun hF => ?_)
      · refine j_iconst (pc := 35) (-1) X dX12_need_35 rfl ?_
        exact j_iret (pc := 36) X E dX12_need_36 hF
      · refine j_iload (pc := 25) 5 X dX12_need_25 rfl ?_
        refine j_iconst (pc := 27) 0 X dX12_need_27 rfl ?_
        refine j_iconst (pc := 28) 2 X dX12_need_28 rfl ?_
        refine j_cSi (pc := 29) (As := [.int a5, .int 0, .int 2]) (rest := []) X dX12_need_29 ml_X12_383 ck_X12_in sk_X12_in (Nat.le_of_ble_eq_true rfl) rfl (Nat.le_of_ble_eq_true rfl) rfl hF (tX12_in Z a5 0 2 trivial h5) (fun w8 h7 hF => ?_)
        refine j_if_ne (pc := 32) 37 X dX12_need_32 rfl hF (fun hF => ?_) (fun hF => ?_)
        · refine j_aload_n (pc := 37) 0 X dX12_need_37 rfl ?_
          refine j_iload_n (pc := 38) 1 X dX12_need_38 rfl ?_
          refine j_iload_n (pc := 39) 2 X dX12_need_39 rfl ?_
          refine j_iload_n (pc := 40) 3 X dX12_need_40 rfl ?_
          refine j_iload (pc := 41) 4 X dX12_need_41 rfl ?_
          refine j_cVv (pc := 43) (As := [.int a1, .int a2, .int a3, .int a4]) (rest := []) X dX12_need_43 ml_X12_531 ck_X12_needs cv_X12_needs (hz _ sh_0) rfl (Nat.le_of_ble_eq_true rfl) rfl (Nat.le_of_ble_eq_true rfl) rfl hF (tX12_needs Z a1 a2 a3 a4 hz h7) (fun h9 hF => ?_)
          refine j_aload_n (pc := 46) 0 X dX12_need_46 rfl ?_
          refine j_geti (pc := 47) X dX12_need_47 (hz _ sh_0) fl_X12_519 rfl ?_
          refine j_iconst (pc := 50) 4 X dX12_need_50 rfl ?_
          refine j_icmp_ne (pc := 51) 59 X dX12_need_51 rfl hF (fun hF => ?_) (fun hF => ?_)
          · refine j_iload (pc := 59) 5 X dX12_need_59 rfl ?_
            refine j_if_ne (pc := 61) 71 X dX12_need_61 rfl hF (fun hF => ?_) (fun hF => ?_)
            · refine j_iload (pc := 71) 5 X dX12_need_71 rfl ?_
              refine j_iconst (pc := 73) 1 X dX12_need_73 rfl ?_
              refine j_icmp_ne (pc := 74) 84 X dX12_need_74 rfl hF (fun hF => ?_) (fun hF => ?_)
              · refine j_aload_n (pc := 84) 0 X dX12_need_84 rfl ?_
                refine j_geti (pc := 85) X dX12_need_85 (hz _ sh_0) fl_X12_525 rfl ?_
                exact j_iret (pc := 88) X E dX12_need_88 hF
              · refine j_aload_n (pc := 77) 0 X dX12_need_77 rfl ?_
                refine j_geti (pc := 78) X dX12_need_78 (hz _ sh_0) fl_X12_522 rfl ?_
                refine j_goto (pc := 81) 88 X dX12_need_81 rfl ?_
                exact j_iret (pc := 88) X E dX12_need_88 hF
            · refine j_aload_n (pc := 64) 0 X dX12_need_64 rfl ?_
              refine j_geti (pc := 65) X dX12_need_65 (hz _ sh_0) fl_X12_519 rfl ?_
              refine j_goto (pc := 68) 88 X dX12_need_68 rfl ?_
              exact j_iret (pc := 88) X E dX12_need_88 hF
          · refine j_bipush (pc := 54) (-2) X dX12_need_54 rfl ?_
            refine j_goto (pc := 56) 88 X dX12_need_56 rfl ?_
            exact j_iret (pc := 88) X E dX12_need_88 hF
        · refine j_iconst (pc := 35) (-1) X dX12_need_35 rfl ?_
          exact j_iret (pc := 36) X E dX12_need_36 hF
theorem dX12_mayBeOpened_0 : decode cX12_mayBeOpened 0 = .ok (.iload_n 3, 1) := by decide +kernel
theorem dX12_mayBeOpened_1 : decode cX12_mayBeOpened 1 = .ok (.aload_n 0, 1) := by decide +kernel
theorem dX12_mayBeOpened_2 : decode cX12_mayBeOpened 2 = .ok (.iload_n 1, 1) := by decide +kernel
theorem dX12_mayBeOpened_3 : decode cX12_mayBeOpened 3 = .ok (.invokevirtual 406, 3) := by decide +kernel
theorem dX12_mayBeOpened_6 : decode cX12_mayBeOpened 6 = .ok (.ishr, 1) := by decide +kernel
theorem dX12_mayBeOpened_7 : decode cX12_mayBeOpened 7 = .ok (.iconst 1, 1) := by decide +kernel
theorem dX12_mayBeOpened_8 : decode cX12_mayBeOpened 8 = .ok (.iand, 1) := by decide +kernel
theorem dX12_mayBeOpened_9 : decode cX12_mayBeOpened 9 = .ok (.ifCond .ne 28, 3) := by decide +kernel
theorem dX12_mayBeOpened_12 : decode cX12_mayBeOpened 12 = .ok (.aload_n 0, 1) := by decide +kernel
theorem dX12_mayBeOpened_13 : decode cX12_mayBeOpened 13 = .ok (.iload_n 1, 1) := by decide +kernel
theorem dX12_mayBeOpened_14 : decode cX12_mayBeOpened 14 = .ok (.iload_n 2, 1) := by decide +kernel
theorem dX12_mayBeOpened_15 : decode cX12_mayBeOpened 15 = .ok (.invokevirtual 463, 3) := by decide +kernel
theorem dX12_mayBeOpened_18 : decode cX12_mayBeOpened 18 = .ok (.ifCond .ne 19, 3) := by decide +kernel
theorem dX12_mayBeOpened_21 : decode cX12_mayBeOpened 21 = .ok (.aload_n 0, 1) := by decide +kernel
theorem dX12_mayBeOpened_22 : decode cX12_mayBeOpened 22 = .ok (.iload_n 1, 1) := by decide +kernel
theorem dX12_mayBeOpened_23 : decode cX12_mayBeOpened 23 = .ok (.iload_n 2, 1) := by decide +kernel
theorem dX12_mayBeOpened_24 : decode cX12_mayBeOpened 24 = .ok (.iload_n 3, 1) := by decide +kernel
theorem dX12_mayBeOpened_25 : decode cX12_mayBeOpened 25 = .ok (.iload 4, 2) := by decide +kernel
theorem dX12_mayBeOpened_27 : decode cX12_mayBeOpened 27 = .ok (.invokevirtual 456, 3) := by decide +kernel
theorem dX12_mayBeOpened_30 : decode cX12_mayBeOpened 30 = .ok (.ifCond .eq 7, 3) := by decide +kernel
theorem dX12_mayBeOpened_33 : decode cX12_mayBeOpened 33 = .ok (.iconst 1, 1) := by decide +kernel
theorem dX12_mayBeOpened_34 : decode cX12_mayBeOpened 34 = .ok (.goto 4, 3) := by decide +kernel
theorem dX12_mayBeOpened_37 : decode cX12_mayBeOpened 37 = .ok (.iconst 0, 1) := by decide +kernel
theorem dX12_mayBeOpened_38 : decode cX12_mayBeOpened 38 = .ok (.ireturn, 1) := by decide +kernel
def fX12_mayBeOpened (a1 : Int32) (a2 : Int32) (a3 : Int32) (a4 : Int32) (h : Hp) : Option (Int32 × Hp) := bi (fX12_reader a1 h) (fun w2 h1 => (if ((a3 >>> (w2 &&& 31)) &&& 1) = 0 then bi (fX12_isClerkBarred a1 a2 h1) (fun w4 h3 => (if w4 = 0 then bi (fX12_holdsFor a1 a2 a3 a4 h3) (fun w6 h5 => (if w6 = 0 then ck (zb 0) (some (0, h5)) else ck (zb 1) (some (1, h5)))) else ck (zb 0) (some (0, h3)))) else ck (zb 0) (some (0, h1))))
set_option maxRecDepth 20000 in
theorem tX12_mayBeOpened (Z : ZT) (a1 : Int32) (a2 : Int32) (a3 : Int32) (a4 : Int32) (hz : HZM Z) (h : Hp) (r : Int32) (hr : Hp) (hF : fX12_mayBeOpened a1 a2 a3 a4 h = some (r, hr)) : MC Z yX12_mayBeOpened cX12_mayBeOpened 5 (some .boolean) 4 [.ref (Z.2.1 0), .int a1, .int a2, .int a3, .int a4] h (some (.int r)) hr := by
  unfold fX12_mayBeOpened at hF
  refine mc_start (by decide) (Nat.le_of_ble_eq_true rfl) (fun G X E => ?_)
  refine j_iload_n (pc := 0) 3 X dX12_mayBeOpened_0 rfl ?_
  refine j_aload_n (pc := 1) 0 X dX12_mayBeOpened_1 rfl ?_
  refine j_iload_n (pc := 2) 1 X dX12_mayBeOpened_2 rfl ?_
  refine j_cVi (pc := 3) (As := [.int a1]) (rest := [.int a3]) X dX12_mayBeOpened_3 ml_X12_406 ck_X12_reader cv_X12_reader (hz _ sh_0) rfl (Nat.le_of_ble_eq_true rfl) rfl (Nat.le_of_ble_eq_true rfl) rfl hF (tX12_reader Z a1 hz h) (fun w2 h1 hF => ?_)
  refine j_ishr (pc := 6) X dX12_mayBeOpened_6 ?_
  refine j_iconst (pc := 7) 1 X dX12_mayBeOpened_7 rfl ?_
  refine j_iand (pc := 8) X dX12_mayBeOpened_8 ?_
  refine j_if_ne (pc := 9) 37 X dX12_mayBeOpened_9 rfl hF (fun hF => ?_) (fun hF => ?_)
  · refine j_iconst (pc := 37) 0 X dX12_mayBeOpened_37 rfl ?_
    exact j_zret (pc := 38) X E dX12_mayBeOpened_38 hF
  · refine j_aload_n (pc := 12) 0 X dX12_mayBeOpened_12 rfl ?_
    refine j_iload_n (pc := 13) 1 X dX12_mayBeOpened_13 rfl ?_
    refine j_iload_n (pc := 14) 2 X dX12_mayBeOpened_14 rfl ?_
    refine j_cVi (pc := 15) (As := [.int a1, .int a2]) (rest := []) X dX12_mayBeOpened_15 ml_X12_463 ck_X12_isClerkBarred cv_X12_isClerkBarred (hz _ sh_0) rfl (Nat.le_of_ble_eq_true rfl) rfl (Nat.le_of_ble_eq_true rfl) rfl hF (tX12_isClerkBarred Z a1 a2 hz h1) (fun w4 h3 hF => ?_)
    refine j_if_ne (pc := 18) 37 X dX12_mayBeOpened_18 rfl hF (fun hF => ?_) (fun hF => ?_)
    · refine j_iconst (pc := 37) 0 X dX12_mayBeOpened_37 rfl ?_
      exact j_zret (pc := 38) X E dX12_mayBeOpened_38 hF
    · refine j_aload_n (pc := 21) 0 X dX12_mayBeOpened_21 rfl ?_
      refine j_iload_n (pc := 22) 1 X dX12_mayBeOpened_22 rfl ?_
      refine j_iload_n (pc := 23) 2 X dX12_mayBeOpened_23 rfl ?_
      refine j_iload_n (pc := 24) 3 X dX12_mayBeOpened_24 rfl ?_
      refine j_iload (pc := 25) 4 X dX12_mayBeOpened_25 rfl ?_
      refine j_cVi (pc := 27) (As := [.int a1, .int a2, .int a3, .int a4]) (rest := []) X dX12_mayBeOpened_27 ml_X12_456 ck_X12_holdsFor cv_X12_holdsFor (hz _ sh_0) rfl (Nat.le_of_ble_eq_true rfl) rfl (Nat.le_of_ble_eq_true rfl) rfl hF (tX12_holdsFor Z a1 a2 a3 a4 hz h3) (fun w6 h5 hF => ?_)
      refine j_if_eq (pc := 30) 37 X dX12_mayBeOpened_30 rfl hF (fun hF => ?_) (fun hF => ?_)
      · refine j_iconst (pc := 37) 0 X dX12_mayBeOpened_37 rfl ?_
        exact j_zret (pc := 38) X E dX12_mayBeOpened_38 hF
      · refine j_iconst (pc := 33) 1 X dX12_mayBeOpened_33 rfl ?_
        refine j_goto (pc := 34) 38 X dX12_mayBeOpened_34 rfl ?_
        exact j_zret (pc := 38) X E dX12_mayBeOpened_38 hF
theorem dX12_fillLooks_0 : decode cX12_fillLooks 0 = .ok (.iconst 0, 1) := by decide +kernel
theorem dX12_fillLooks_1 : decode cX12_fillLooks 1 = .ok (.istore_n 2, 1) := by decide +kernel
theorem dX12_fillLooks_2 : decode cX12_fillLooks 2 = .ok (.iload_n 2, 1) := by decide +kernel
theorem dX12_fillLooks_3 : decode cX12_fillLooks 3 = .ok (.iconst 1, 1) := by decide +kernel
theorem dX12_fillLooks_4 : decode cX12_fillLooks 4 = .ok (.aload_n 0, 1) := by decide +kernel
theorem dX12_fillLooks_5 : decode cX12_fillLooks 5 = .ok (.getfield 49, 3) := by decide +kernel
theorem dX12_fillLooks_8 : decode cX12_fillLooks 8 = .ok (.aload_n 0, 1) := by decide +kernel
theorem dX12_fillLooks_9 : decode cX12_fillLooks 9 = .ok (.getfield 284, 3) := by decide +kernel
theorem dX12_fillLooks_12 : decode cX12_fillLooks 12 = .ok (.iaload, 1) := by decide +kernel
theorem dX12_fillLooks_13 : decode cX12_fillLooks 13 = .ok (.ishl, 1) := by decide +kernel
theorem dX12_fillLooks_14 : decode cX12_fillLooks 14 = .ok (.if_icmp .ge 122, 3) := by decide +kernel
theorem dX12_fillLooks_17 : decode cX12_fillLooks 17 = .ok (.iconst 1, 1) := by decide +kernel
theorem dX12_fillLooks_18 : decode cX12_fillLooks 18 = .ok (.aload_n 0, 1) := by decide +kernel
theorem dX12_fillLooks_19 : decode cX12_fillLooks 19 = .ok (.getfield 67, 3) := by decide +kernel
theorem dX12_fillLooks_22 : decode cX12_fillLooks 22 = .ok (.aload_n 0, 1) := by decide +kernel
theorem dX12_fillLooks_23 : decode cX12_fillLooks 23 = .ok (.getfield 284, 3) := by decide +kernel
theorem dX12_fillLooks_26 : decode cX12_fillLooks 26 = .ok (.iaload, 1) := by decide +kernel
theorem dX12_fillLooks_27 : decode cX12_fillLooks 27 = .ok (.ishl, 1) := by decide +kernel
theorem dX12_fillLooks_28 : decode cX12_fillLooks 28 = .ok (.iconst 1, 1) := by decide +kernel
theorem dX12_fillLooks_29 : decode cX12_fillLooks 29 = .ok (.isub, 1) := by decide +kernel
theorem dX12_fillLooks_30 : decode cX12_fillLooks 30 = .ok (.istore_n 3, 1) := by decide +kernel
theorem dX12_fillLooks_31 : decode cX12_fillLooks 31 = .ok (.iload_n 3, 1) := by decide +kernel
theorem dX12_fillLooks_32 : decode cX12_fillLooks 32 = .ok (.ifCond .lt 98, 3) := by decide +kernel
theorem dX12_fillLooks_35 : decode cX12_fillLooks 35 = .ok (.iload_n 3, 1) := by decide +kernel
theorem dX12_fillLooks_36 : decode cX12_fillLooks 36 = .ok (.istore 4, 2) := by decide +kernel
theorem dX12_fillLooks_38 : decode cX12_fillLooks 38 = .ok (.aload_n 0, 1) := by decide +kernel
theorem dX12_fillLooks_39 : decode cX12_fillLooks 39 = .ok (.getfield 67, 3) := by decide +kernel
theorem dX12_fillLooks_42 : decode cX12_fillLooks 42 = .ok (.aload_n 0, 1) := by decide +kernel
theorem dX12_fillLooks_43 : decode cX12_fillLooks 43 = .ok (.getfield 284, 3) := by decide +kernel
theorem dX12_fillLooks_46 : decode cX12_fillLooks 46 = .ok (.iaload, 1) := by decide +kernel
theorem dX12_fillLooks_47 : decode cX12_fillLooks 47 = .ok (.iconst 1, 1) := by decide +kernel
theorem dX12_fillLooks_48 : decode cX12_fillLooks 48 = .ok (.isub, 1) := by decide +kernel
theorem dX12_fillLooks_49 : decode cX12_fillLooks 49 = .ok (.istore 5, 2) := by decide +kernel
theorem dX12_fillLooks_51 : decode cX12_fillLooks 51 = .ok (.iload 5, 2) := by decide +kernel
theorem dX12_fillLooks_53 : decode cX12_fillLooks 53 = .ok (.ifCond .lt 38, 3) := by decide +kernel
theorem dX12_fillLooks_56 : decode cX12_fillLooks 56 = .ok (.iload_n 3, 1) := by decide +kernel
theorem dX12_fillLooks_57 : decode cX12_fillLooks 57 = .ok (.iload 5, 2) := by decide +kernel
theorem dX12_fillLooks_59 : decode cX12_fillLooks 59 = .ok (.ishr, 1) := by decide +kernel
theorem dX12_fillLooks_60 : decode cX12_fillLooks 60 = .ok (.iconst 1, 1) := by decide +kernel
theorem dX12_fillLooks_61 : decode cX12_fillLooks 61 = .ok (.iand, 1) := by decide +kernel
theorem dX12_fillLooks_62 : decode cX12_fillLooks 62 = .ok (.ifCond .ne 23, 3) := by decide +kernel
theorem dX12_fillLooks_65 : decode cX12_fillLooks 65 = .ok (.aload_n 0, 1) := by decide +kernel
theorem dX12_fillLooks_66 : decode cX12_fillLooks 66 = .ok (.iload 5, 2) := by decide +kernel
theorem dX12_fillLooks_68 : decode cX12_fillLooks 68 = .ok (.iload_n 1, 1) := by decide +kernel
theorem dX12_fillLooks_69 : decode cX12_fillLooks 69 = .ok (.iload_n 2, 1) := by decide +kernel
theorem dX12_fillLooks_70 : decode cX12_fillLooks 70 = .ok (.iload_n 3, 1) := by decide +kernel
theorem dX12_fillLooks_71 : decode cX12_fillLooks 71 = .ok (.invokevirtual 534, 3) := by decide +kernel
theorem dX12_fillLooks_74 : decode cX12_fillLooks 74 = .ok (.ifCond .eq 11, 3) := by decide +kernel
theorem dX12_fillLooks_77 : decode cX12_fillLooks 77 = .ok (.iload_n 3, 1) := by decide +kernel
theorem dX12_fillLooks_78 : decode cX12_fillLooks 78 = .ok (.iconst 1, 1) := by decide +kernel
theorem dX12_fillLooks_79 : decode cX12_fillLooks 79 = .ok (.iload 5, 2) := by decide +kernel
theorem dX12_fillLooks_81 : decode cX12_fillLooks 81 = .ok (.ishl, 1) := by decide +kernel
theorem dX12_fillLooks_82 : decode cX12_fillLooks 82 = .ok (.ior, 1) := by decide +kernel
theorem dX12_fillLooks_83 : decode cX12_fillLooks 83 = .ok (.istore 4, 2) := by decide +kernel
theorem dX12_fillLooks_85 : decode cX12_fillLooks 85 = .ok (.iinc 5 (-1), 3) := by decide +kernel
theorem dX12_fillLooks_88 : decode cX12_fillLooks 88 = .ok (.goto (-37), 3) := by decide +kernel
theorem dX12_fillLooks_91 : decode cX12_fillLooks 91 = .ok (.aload_n 0, 1) := by decide +kernel
theorem dX12_fillLooks_92 : decode cX12_fillLooks 92 = .ok (.getfield 188, 3) := by decide +kernel
theorem dX12_fillLooks_95 : decode cX12_fillLooks 95 = .ok (.bipush 64, 2) := by decide +kernel
theorem dX12_fillLooks_97 : decode cX12_fillLooks 97 = .ok (.iload_n 2, 1) := by decide +kernel
theorem dX12_fillLooks_98 : decode cX12_fillLooks 98 = .ok (.imul, 1) := by decide +kernel
theorem dX12_fillLooks_99 : decode cX12_fillLooks 99 = .ok (.iload_n 3, 1) := by decide +kernel
theorem dX12_fillLooks_100 : decode cX12_fillLooks 100 = .ok (.iadd, 1) := by decide +kernel
theorem dX12_fillLooks_101 : decode cX12_fillLooks 101 = .ok (.iload 4, 2) := by decide +kernel
theorem dX12_fillLooks_103 : decode cX12_fillLooks 103 = .ok (.iload_n 3, 1) := by decide +kernel
theorem dX12_fillLooks_104 : decode cX12_fillLooks 104 = .ok (.if_icmp .ne 7, 3) := by decide +kernel
theorem dX12_fillLooks_107 : decode cX12_fillLooks 107 = .ok (.iload_n 3, 1) := by decide +kernel
theorem dX12_fillLooks_108 : decode cX12_fillLooks 108 = .ok (.goto 15, 3) := by decide +kernel
theorem dX12_fillLooks_111 : decode cX12_fillLooks 111 = .ok (.aload_n 0, 1) := by decide +kernel
theorem dX12_fillLooks_112 : decode cX12_fillLooks 112 = .ok (.getfield 188, 3) := by decide +kernel
theorem dX12_fillLooks_115 : decode cX12_fillLooks 115 = .ok (.bipush 64, 2) := by decide +kernel
theorem dX12_fillLooks_117 : decode cX12_fillLooks 117 = .ok (.iload_n 2, 1) := by decide +kernel
theorem dX12_fillLooks_118 : decode cX12_fillLooks 118 = .ok (.imul, 1) := by decide +kernel
theorem dX12_fillLooks_119 : decode cX12_fillLooks 119 = .ok (.iload 4, 2) := by decide +kernel
theorem dX12_fillLooks_121 : decode cX12_fillLooks 121 = .ok (.iadd, 1) := by decide +kernel
theorem dX12_fillLooks_122 : decode cX12_fillLooks 122 = .ok (.iaload, 1) := by decide +kernel
theorem dX12_fillLooks_123 : decode cX12_fillLooks 123 = .ok (.iastore, 1) := by decide +kernel
theorem dX12_fillLooks_124 : decode cX12_fillLooks 124 = .ok (.iinc 3 (-1), 3) := by decide +kernel
theorem dX12_fillLooks_127 : decode cX12_fillLooks 127 = .ok (.goto (-96), 3) := by decide +kernel
theorem dX12_fillLooks_130 : decode cX12_fillLooks 130 = .ok (.iinc 2 1, 3) := by decide +kernel
theorem dX12_fillLooks_133 : decode cX12_fillLooks 133 = .ok (.goto (-131), 3) := by decide +kernel
theorem dX12_fillLooks_136 : decode cX12_fillLooks 136 = .ok (.return_, 1) := by decide +kernel
def bX12_fillLooks_85  (r2 : Int32 → Int32 → Hp → Option (Hp)) (r31 : Int32 → Int32 → Int32 → Hp → Option (Hp)) (r51 : Int32 → Int32 → Int32 → Int32 → Int32 → Hp → Option (Hp)) (x1 : Int32) (x2 : Int32) (x3 : Int32) (x4 : Int32) (x5 : Int32) (h : Hp) : Option (Hp) := lt (x5 + (-1)) (fun v1 => r51 x1 x2 x3 x4 v1 h)
set_option maxRecDepth 20000 in
theorem BX12_fillLooks_85 {Z : ZT} {G : GT} {hr : Hp} (X : CX Z G cX12_fillLooks RX12 6 5) (E : RX Z G none (none) hr) (hz : HZM Z) (r2 : Int32 → Int32 → Hp → Option (Hp)) (hr2 : ∀ (x1 : Int32) (x2 : Int32) (h : Hp), r2 x1 x2 h = some hr → J Z G 6 h 2 [(0, .ref (Z.2.1 0)), (1, .int x1), (2, .int x2)] []) (r31 : Int32 → Int32 → Int32 → Hp → Option (Hp)) (hr31 : ∀ (x1 : Int32) (x2 : Int32) (x3 : Int32) (h : Hp), r31 x1 x2 x3 h = some hr → J Z G 6 h 31 [(0, .ref (Z.2.1 0)), (1, .int x1), (2, .int x2), (3, .int x3)] []) (r51 : Int32 → Int32 → Int32 → Int32 → Int32 → Hp → Option (Hp)) (hr51 : ∀ (x1 : Int32) (x2 : Int32) (x3 : Int32) (x4 : Int32) (x5 : Int32) (h : Hp), r51 x1 x2 x3 x4 x5 h = some hr → J Z G 6 h 51 [(0, .ref (Z.2.1 0)), (1, .int x1), (2, .int x2), (3, .int x3), (4, .int x4), (5, .int x5)] []) (x1 : Int32) (x2 : Int32) (x3 : Int32) (x4 : Int32) (x5 : Int32) (h : Hp) (hF : bX12_fillLooks_85  r2 r31 r51 x1 x2 x3 x4 x5 h = some hr) : J Z G 6 h 85 [(0, .ref (Z.2.1 0)), (1, .int x1), (2, .int x2), (3, .int x3), (4, .int x4), (5, .int x5)] [] := by
  unfold bX12_fillLooks_85 at hF
  refine j_iinc (pc := 85) 5 (x5 + (-1)) (fun y => [(5, .int y), (0, .ref (Z.2.1 0)), (1, .int x1), (2, .int x2), (3, .int x3), (4, .int x4)]) X dX12_fillLooks_85 rfl rfl (by decide) (fun _ => rfl) hF (fun v1 hF => ?_)
  refine j_goto (pc := 88) 51 X dX12_fillLooks_88 rfl ?_
  refine j_lv [(0, .ref (Z.2.1 0)), (1, .int x1), (2, .int x2), (3, .int x3), (4, .int x4), (5, .int v1)] [1, 2, 3, 4, 5, 0] rfl ?_
  exact hr51 x1 x2 x3 x4 v1 h hF
def bX12_fillLooks_123  (r2 : Int32 → Int32 → Hp → Option (Hp)) (r31 : Int32 → Int32 → Int32 → Hp → Option (Hp)) (x1 : Int32) (x2 : Int32) (x3 : Int32) (s0 : Int32) (s1 : Int32) (h : Hp) : Option (Hp) := ck (inb s1 2048) (lt (wI h 57 (ix s1) s0) (fun h1 => lt (x3 + (-1)) (fun v2 => r31 x1 x2 v2 h1)))
set_option maxRecDepth 20000 in
theorem BX12_fillLooks_123 {Z : ZT} {G : GT} {hr : Hp} (X : CX Z G cX12_fillLooks RX12 6 5) (E : RX Z G none (none) hr) (hz : HZM Z) (r2 : Int32 → Int32 → Hp → Option (Hp)) (hr2 : ∀ (x1 : Int32) (x2 : Int32) (h : Hp), r2 x1 x2 h = some hr → J Z G 6 h 2 [(0, .ref (Z.2.1 0)), (1, .int x1), (2, .int x2)] []) (r31 : Int32 → Int32 → Int32 → Hp → Option (Hp)) (hr31 : ∀ (x1 : Int32) (x2 : Int32) (x3 : Int32) (h : Hp), r31 x1 x2 x3 h = some hr → J Z G 6 h 31 [(0, .ref (Z.2.1 0)), (1, .int x1), (2, .int x2), (3, .int x3)] []) (x1 : Int32) (x2 : Int32) (x3 : Int32) (s0 : Int32) (s1 : Int32) (h : Hp) (hF : bX12_fillLooks_123  r2 r31 x1 x2 x3 s0 s1 h = some hr) : J Z G 6 h 123 [(0, .ref (Z.2.1 0)), (1, .int x1), (2, .int x2), (3, .int x3)] [.int s0, .int s1, .ref (Z.2.1 57)] := by
  unfold bX12_fillLooks_123 at hF
  refine j_iast (pc := 123) X dX12_fillLooks_123 (hz _ sh_57) hF (fun h1 hF => ?_)
  refine j_iinc (pc := 124) 3 (x3 + (-1)) (fun y => [(3, .int y), (0, .ref (Z.2.1 0)), (1, .int x1), (2, .int x2)]) X dX12_fillLooks_124 rfl rfl (by decide) (fun _ => rfl) hF (fun v2 hF => ?_)
  refine j_goto (pc := 127) 31 X dX12_fillLooks_127 rfl ?_
  refine j_lv [(0, .ref (Z.2.1 0)), (1, .int x1), (2, .int x2), (3, .int v2)] [1, 2, 3, 0] rfl ?_
  exact hr31 x1 x2 v2 h1 hF
def bX12_fillLooks_51  (r2 : Int32 → Int32 → Hp → Option (Hp)) (r31 : Int32 → Int32 → Int32 → Hp → Option (Hp)) (r51 : Int32 → Int32 → Int32 → Int32 → Int32 → Hp → Option (Hp)) (x1 : Int32) (x2 : Int32) (x3 : Int32) (x4 : Int32) (x5 : Int32) (h : Hp) : Option (Hp) := (if x5 < 0 then (if x4 = x3 then bX12_fillLooks_123 r2 r31 x1 x2 x3 x3 (((64 : Int32) * x2) + x3) h else ck (inb (((64 : Int32) * x2) + x4) 2048) (bX12_fillLooks_123 r2 r31 x1 x2 x3 (h.1 57 (ix (((64 : Int32) * x2) + x4))) (((64 : Int32) * x2) + x3) h)) else (if ((x3 >>> (x5 &&& 31)) &&& 1) = 0 then bi (fX12_mayBeOpened x5 x1 x2 x3 h) (fun w2 h1 => (if w2 = 0 then bX12_fillLooks_85 r2 r31 r51 x1 x2 x3 x4 x5 h1 else lt (x3 ||| ((1 : Int32) <<< (x5 &&& 31))) (fun v3 => bX12_fillLooks_85 r2 r31 r51 x1 x2 x3 v3 x5 h1))) else bX12_fillLooks_85 r2 r31 r51 x1 x2 x3 x4 x5 h))
def lX12_fillLooks_51  (r2 : Int32 → Int32 → Hp → Option (Hp)) (r31 : Int32 → Int32 → Int32 → Hp → Option (Hp)) : Nat → Int32 → Int32 → Int32 → Int32 → Int32 → Hp → Option (Hp)
  | 0 => fun _ _ _ _ _ _ => none
  | n + 1 => bX12_fillLooks_51  r2 r31 (lX12_fillLooks_51  r2 r31 n)
set_option maxRecDepth 20000 in
theorem BX12_fillLooks_51 {Z : ZT} {G : GT} {hr : Hp} (X : CX Z G cX12_fillLooks RX12 6 5) (E : RX Z G none (none) hr) (hz : HZM Z) (r2 : Int32 → Int32 → Hp → Option (Hp)) (hr2 : ∀ (x1 : Int32) (x2 : Int32) (h : Hp), r2 x1 x2 h = some hr → J Z G 6 h 2 [(0, .ref (Z.2.1 0)), (1, .int x1), (2, .int x2)] []) (r31 : Int32 → Int32 → Int32 → Hp → Option (Hp)) (hr31 : ∀ (x1 : Int32) (x2 : Int32) (x3 : Int32) (h : Hp), r31 x1 x2 x3 h = some hr → J Z G 6 h 31 [(0, .ref (Z.2.1 0)), (1, .int x1), (2, .int x2), (3, .int x3)] []) (r51 : Int32 → Int32 → Int32 → Int32 → Int32 → Hp → Option (Hp)) (hr51 : ∀ (x1 : Int32) (x2 : Int32) (x3 : Int32) (x4 : Int32) (x5 : Int32) (h : Hp), r51 x1 x2 x3 x4 x5 h = some hr → J Z G 6 h 51 [(0, .ref (Z.2.1 0)), (1, .int x1), (2, .int x2), (3, .int x3), (4, .int x4), (5, .int x5)] []) (x1 : Int32) (x2 : Int32) (x3 : Int32) (x4 : Int32) (x5 : Int32) (h : Hp) (hF : bX12_fillLooks_51  r2 r31 r51 x1 x2 x3 x4 x5 h = some hr) : J Z G 6 h 51 [(0, .ref (Z.2.1 0)), (1, .int x1), (2, .int x2), (3, .int x3), (4, .int x4), (5, .int x5)] [] := by
  unfold bX12_fillLooks_51 at hF
  refine j_iload (pc := 51) 5 X dX12_fillLooks_51 rfl ?_
  refine j_if_lt (pc := 53) 91 X dX12_fillLooks_53 rfl hF (fun hF => ?_) (fun hF => ?_)
  · refine j_aload_n (pc := 91) 0 X dX12_fillLooks_91 rfl ?_
    refine j_getr (pc := 92) X dX12_fillLooks_92 (hz _ sh_0) fl_X12_188 rfl ?_
    refine j_bipush (pc := 95) 64 X dX12_fillLooks_95 rfl ?_
    refine j_iload_n (pc := 97) 2 X dX12_fillLooks_97 rfl ?_
    refine j_imul (pc := 98) X dX12_fillLooks_98 ?_
    refine j_iload_n (pc := 99) 3 X dX12_fillLooks_99 rfl ?_
    refine j_iadd (pc := 100) X dX12_fillLooks_100 ?_
    refine j_iload (pc := 101) 4 X dX12_fillLooks_101 rfl ?_
    refine j_iload_n (pc := 103) 3 X dX12_fillLooks_103 rfl ?_
    refine j_icmp_ne (pc := 104) 111 X dX12_fillLooks_104 rfl hF (fun hF => ?_) (fun hF => ?_)
    · refine j_aload_n (pc := 111) 0 X dX12_fillLooks_111 rfl ?_
      refine j_getr (pc := 112) X dX12_fillLooks_112 (hz _ sh_0) fl_X12_188 rfl ?_
      refine j_bipush (pc := 115) 64 X dX12_fillLooks_115 rfl ?_
      refine j_iload_n (pc := 117) 2 X dX12_fillLooks_117 rfl ?_
      refine j_imul (pc := 118) X dX12_fillLooks_118 ?_
      refine j_iload (pc := 119) 4 X dX12_fillLooks_119 rfl ?_
      refine j_iadd (pc := 121) X dX12_fillLooks_121 ?_
      refine j_iald (pc := 122) X dX12_fillLooks_122 (hz _ sh_57) hF (fun hF => ?_)
      refine j_lv [(0, .ref (Z.2.1 0)), (1, .int x1), (2, .int x2), (3, .int x3)] [0, 1, 2, 3] rfl ?_
      exact BX12_fillLooks_123 X E hz r2 hr2 r31 hr31 x1 x2 x3 (h.1 57 (ix (((64 : Int32) * x2) + x4))) (((64 : Int32) * x2) + x3) h hF
    · refine j_iload_n (pc := 107) 3 X dX12_fillLooks_107 rfl ?_
      refine j_goto (pc := 108) 123 X dX12_fillLooks_108 rfl ?_
      refine j_lv [(0, .ref (Z.2.1 0)), (1, .int x1), (2, .int x2), (3, .int x3)] [0, 1, 2, 3] rfl ?_
      exact BX12_fillLooks_123 X E hz r2 hr2 r31 hr31 x1 x2 x3 x3 (((64 : Int32) * x2) + x3) h hF
  · refine j_iload_n (pc := 56) 3 X dX12_fillLooks_56 rfl ?_
    refine j_iload (pc := 57) 5 X dX12_fillLooks_57 rfl ?_
    refine j_ishr (pc := 59) X dX12_fillLooks_59 ?_
    refine j_iconst (pc := 60) 1 X dX12_fillLooks_60 rfl ?_
    refine j_iand (pc := 61) X dX12_fillLooks_61 ?_
    refine j_if_ne (pc := 62) 85 X dX12_fillLooks_62 rfl hF (fun hF => ?_) (fun hF => ?_)
    · exact BX12_fillLooks_85 X E hz r2 hr2 r31 hr31 r51 hr51 x1 x2 x3 x4 x5 h hF
    · refine j_aload_n (pc := 65) 0 X dX12_fillLooks_65 rfl ?_
      refine j_iload (pc := 66) 5 X dX12_fillLooks_66 rfl ?_
      refine j_iload_n (pc := 68) 1 X dX12_fillLooks_68 rfl ?_
      refine j_iload_n (pc := 69) 2 X dX12_fillLooks_69 rfl ?_
      refine j_iload_n (pc := 70) 3 X dX12_fillLooks_70 rfl ?_
      refine j_cVi (pc := 71) (As := [.int x5, .int x1, .int x2, .int x3]) (rest := []) X dX12_fillLooks_71 ml_X12_534 ck_X12_mayBeOpened cv_X12_mayBeOpened (hz _ sh_0) rfl (Nat.le_of_ble_eq_true rfl) rfl (Nat.le_of_ble_eq_true rfl) rfl hF (tX12_mayBeOpened Z x5 x1 x2 x3 hz h) (fun w2 h1 hF => ?_)
      refine j_if_eq (pc := 74) 85 X dX12_fillLooks_74 rfl hF (fun hF => ?_) (fun hF => ?_)
      · exact BX12_fillLooks_85 X E hz r2 hr2 r31 hr31 r51 hr51 x1 x2 x3 x4 x5 h1 hF
      · refine j_iload_n (pc := 77) 3 X dX12_fillLooks_77 rfl ?_
        refine j_iconst (pc := 78) 1 X dX12_fillLooks_78 rfl ?_
        refine j_iload (pc := 79) 5 X dX12_fillLooks_79 rfl ?_
        refine j_ishl (pc := 81) X dX12_fillLooks_81 ?_
        refine j_ior (pc := 82) X dX12_fillLooks_82 ?_
        refine j_istore (pc := 83) (fun y => [(4, .int y), (0, .ref (Z.2.1 0)), (1, .int x1), (2, .int x2), (3, .int x3), (5, .int x5)]) X dX12_fillLooks_83 (by decide) (fun _ => rfl) hF (fun v3 hF => ?_)
        refine j_lv [(0, .ref (Z.2.1 0)), (1, .int x1), (2, .int x2), (3, .int x3), (4, .int v3), (5, .int x5)] [1, 2, 3, 4, 0, 5] rfl ?_
        exact BX12_fillLooks_85 X E hz r2 hr2 r31 hr31 r51 hr51 x1 x2 x3 v3 x5 h1 hF
theorem LX12_fillLooks_51 {Z : ZT} {G : GT} {hr : Hp} (X : CX Z G cX12_fillLooks RX12 6 5) (E : RX Z G none (none) hr) (hz : HZM Z) (r2 : Int32 → Int32 → Hp → Option (Hp)) (hr2 : ∀ (x1 : Int32) (x2 : Int32) (h : Hp), r2 x1 x2 h = some hr → J Z G 6 h 2 [(0, .ref (Z.2.1 0)), (1, .int x1), (2, .int x2)] []) (r31 : Int32 → Int32 → Int32 → Hp → Option (Hp)) (hr31 : ∀ (x1 : Int32) (x2 : Int32) (x3 : Int32) (h : Hp), r31 x1 x2 x3 h = some hr → J Z G 6 h 31 [(0, .ref (Z.2.1 0)), (1, .int x1), (2, .int x2), (3, .int x3)] []) : ∀ (n : Nat) (x1 : Int32) (x2 : Int32) (x3 : Int32) (x4 : Int32) (x5 : Int32) (h : Hp), lX12_fillLooks_51  r2 r31 n x1 x2 x3 x4 x5 h = some hr → J Z G 6 h 51 [(0, .ref (Z.2.1 0)), (1, .int x1), (2, .int x2), (3, .int x3), (4, .int x4), (5, .int x5)] [] := by
  intro n
  induction n with
  | zero => intro x1 x2 x3 x4 x5 h hF; cases hF
  | succ n ih => intro x1 x2 x3 x4 x5 h hF; exact BX12_fillLooks_51 X E hz r2 hr2 r31 hr31 (lX12_fillLooks_51  r2 r31 n) ih x1 x2 x3 x4 x5 h hF
def bX12_fillLooks_31  (r2 : Int32 → Int32 → Hp → Option (Hp)) (r31 : Int32 → Int32 → Int32 → Hp → Option (Hp)) (x1 : Int32) (x2 : Int32) (x3 : Int32) (h : Hp) : Option (Hp) := (if x3 < 0 then lt (x2 + 1) (fun v1 => r2 x1 v1 h) else lt x3 (fun v2 => ck (inb (h.1 0 18) 2) (lt ((h.1 17 (ix (h.1 0 18))) - 1) (fun v3 => lX12_fillLooks_51 r2 r31 FU x1 x2 x3 v2 v3 h))))
def lX12_fillLooks_31  (r2 : Int32 → Int32 → Hp → Option (Hp)) : Nat → Int32 → Int32 → Int32 → Hp → Option (Hp)
  | 0 => fun _ _ _ _ => none
  | n + 1 => bX12_fillLooks_31  r2 (lX12_fillLooks_31  r2 n)
set_option maxRecDepth 20000 in
theorem BX12_fillLooks_31 {Z : ZT} {G : GT} {hr : Hp} (X : CX Z G cX12_fillLooks RX12 6 5) (E : RX Z G none (none) hr) (hz : HZM Z) (r2 : Int32 → Int32 → Hp → Option (Hp)) (hr2 : ∀ (x1 : Int32) (x2 : Int32) (h : Hp), r2 x1 x2 h = some hr → J Z G 6 h 2 [(0, .ref (Z.2.1 0)), (1, .int x1), (2, .int x2)] []) (r31 : Int32 → Int32 → Int32 → Hp → Option (Hp)) (hr31 : ∀ (x1 : Int32) (x2 : Int32) (x3 : Int32) (h : Hp), r31 x1 x2 x3 h = some hr → J Z G 6 h 31 [(0, .ref (Z.2.1 0)), (1, .int x1), (2, .int x2), (3, .int x3)] []) (x1 : Int32) (x2 : Int32) (x3 : Int32) (h : Hp) (hF : bX12_fillLooks_31  r2 r31 x1 x2 x3 h = some hr) : J Z G 6 h 31 [(0, .ref (Z.2.1 0)), (1, .int x1), (2, .int x2), (3, .int x3)] [] := by
  unfold bX12_fillLooks_31 at hF
  refine j_iload_n (pc := 31) 3 X dX12_fillLooks_31 rfl ?_
  refine j_if_lt (pc := 32) 130 X dX12_fillLooks_32 rfl hF (fun hF => ?_) (fun hF => ?_)
  · refine j_iinc (pc := 130) 2 (x2 + 1) (fun y => [(2, .int y), (0, .ref (Z.2.1 0)), (1, .int x1), (3, .int x3)]) X dX12_fillLooks_130 rfl rfl (by decide) (fun _ => rfl) hF (fun v1 hF => ?_)
    refine j_goto (pc := 133) 2 X dX12_fillLooks_133 rfl ?_
    refine j_lv [(0, .ref (Z.2.1 0)), (1, .int x1), (2, .int v1)] [1, 2, 0] rfl ?_
    exact hr2 x1 v1 h hF
  · refine j_iload_n (pc := 35) 3 X dX12_fillLooks_35 rfl ?_
    refine j_istore (pc := 36) (fun y => [(4, .int y), (0, .ref (Z.2.1 0)), (1, .int x1), (2, .int x2), (3, .int x3)]) X dX12_fillLooks_36 (by decide) (fun _ => rfl) hF (fun v2 hF => ?_)
    refine j_aload_n (pc := 38) 1 X dX12_fillLooks_38 rfl ?_
    refine j_getr (pc := 39) X dX12_fillLooks_39 (hz _ sh_0) fl_X12_67 rfl ?_
    refine j_aload_n (pc := 42) 1 X dX12_fillLooks_42 rfl ?_
    refine j_geti (pc := 43) X dX12_fillLooks_43 (hz _ sh_0) fl_X12_284 rfl ?_
    refine j_iald (pc := 46) X dX12_fillLooks_46 (hz _ sh_17) hF (fun hF => ?_)
    refine j_iconst (pc := 47) 1 X dX12_fillLooks_47 rfl ?_
    refine j_isub (pc := 48) X dX12_fillLooks_48 ?_
    refine j_istore (pc := 49) (fun y => [(5, .int y), (4, .int v2), (0, .ref (Z.2.1 0)), (1, .int x1), (2, .int x2), (3, .int x3)]) X dX12_fillLooks_49 (by decide) (fun _ => rfl) hF (fun v3 hF => ?_)
    refine j_lv [(0, .ref (Z.2.1 0)), (1, .int x1), (2, .int x2), (3, .int x3), (4, .int v2), (5, .int v3)] [2, 3, 4, 5, 1, 0] rfl ?_
    exact LX12_fillLooks_51 X E hz r2 hr2 r31 hr31 FU x1 x2 x3 v2 v3 h hF
theorem LX12_fillLooks_31 {Z : ZT} {G : GT} {hr : Hp} (X : CX Z G cX12_fillLooks RX12 6 5) (E : RX Z G none (none) hr) (hz : HZM Z) (r2 : Int32 → Int32 → Hp → Option (Hp)) (hr2 : ∀ (x1 : Int32) (x2 : Int32) (h : Hp), r2 x1 x2 h = some hr → J Z G 6 h 2 [(0, .ref (Z.2.1 0)), (1, .int x1), (2, .int x2)] []) : ∀ (n : Nat) (x1 : Int32) (x2 : Int32) (x3 : Int32) (h : Hp), lX12_fillLooks_31  r2 n x1 x2 x3 h = some hr → J Z G 6 h 31 [(0, .ref (Z.2.1 0)), (1, .int x1), (2, .int x2), (3, .int x3)] [] := by
  intro n
  induction n with
  | zero => intro x1 x2 x3 h hF; cases hF
  | succ n ih => intro x1 x2 x3 h hF; exact BX12_fillLooks_31 X E hz r2 hr2 (lX12_fillLooks_31  r2 n) ih x1 x2 x3 h hF
def bX12_fillLooks_2   (r2 : Int32 → Int32 → Hp → Option (Hp)) (x1 : Int32) (x2 : Int32) (h : Hp) : Option (Hp) := ck (inb (h.1 0 18) 2) ((if ((1 : Int32) <<< ((h.1 11 (ix (h.1 0 18))) &&& 31)) ≤ x2 then some h else ck (inb (h.1 0 18) 2) (lt (((1 : Int32) <<< ((h.1 17 (ix (h.1 0 18))) &&& 31)) - 1) (fun v1 => lX12_fillLooks_31 r2 FU x1 x2 v1 h))))
def lX12_fillLooks_2   : Nat → Int32 → Int32 → Hp → Option (Hp)
  | 0 => fun _ _ _ => none
  | n + 1 => bX12_fillLooks_2   (lX12_fillLooks_2   n)
set_option maxRecDepth 20000 in
theorem BX12_fillLooks_2 {Z : ZT} {G : GT} {hr : Hp} (X : CX Z G cX12_fillLooks RX12 6 5) (E : RX Z G none (none) hr) (hz : HZM Z)  (r2 : Int32 → Int32 → Hp → Option (Hp)) (hr2 : ∀ (x1 : Int32) (x2 : Int32) (h : Hp), r2 x1 x2 h = some hr → J Z G 6 h 2 [(0, .ref (Z.2.1 0)), (1, .int x1), (2, .int x2)] []) (x1 : Int32) (x2 : Int32) (h : Hp) (hF : bX12_fillLooks_2   r2 x1 x2 h = some hr) : J Z G 6 h 2 [(0, .ref (Z.2.1 0)), (1, .int x1), (2, .int x2)] [] := by
  unfold bX12_fillLooks_2 at hF
  refine j_iload_n (pc := 2) 2 X dX12_fillLooks_2 rfl ?_
  refine j_iconst (pc := 3) 1 X dX12_fillLooks_3 rfl ?_
  refine j_aload_n (pc := 4) 0 X dX12_fillLooks_4 rfl ?_
  refine j_getr (pc := 5) X dX12_fillLooks_5 (hz _ sh_0) fl_X12_49 rfl ?_
  refine j_aload_n (pc := 8) 0 X dX12_fillLooks_8 rfl ?_
  refine j_geti (pc := 9) X dX12_fillLooks_9 (hz _ sh_0) fl_X12_284 rfl ?_
  refine j_iald (pc := 12) X dX12_fillLooks_12 (hz _ sh_11) hF (fun hF => ?_)
  refine j_ishl (pc := 13) X dX12_fillLooks_13 ?_
  refine j_icmp_ge (pc := 14) 136 X dX12_fillLooks_14 rfl hF (fun hF => ?_) (fun hF => ?_)
  · exact j_vret (pc := 136) X E dX12_fillLooks_136 hF
  · refine j_iconst (pc := 17) 1 X dX12_fillLooks_17 rfl ?_
    refine j_aload_n (pc := 18) 0 X dX12_fillLooks_18 rfl ?_
    refine j_getr (pc := 19) X dX12_fillLooks_19 (hz _ sh_0) fl_X12_67 rfl ?_
    refine j_aload_n (pc := 22) 0 X dX12_fillLooks_22 rfl ?_
    refine j_geti (pc := 23) X dX12_fillLooks_23 (hz _ sh_0) fl_X12_284 rfl ?_
    refine j_iald (pc := 26) X dX12_fillLooks_26 (hz _ sh_17) hF (fun hF => ?_)
    refine j_ishl (pc := 27) X dX12_fillLooks_27 ?_
    refine j_iconst (pc := 28) 1 X dX12_fillLooks_28 rfl ?_
    refine j_isub (pc := 29) X dX12_fillLooks_29 ?_
    refine j_istore_n (pc := 30) (fun y => [(3, .int y), (0, .ref (Z.2.1 0)), (1, .int x1), (2, .int x2)]) X dX12_fillLooks_30 (by decide) (fun _ => rfl) hF (fun v1 hF => ?_)
    refine j_lv [(0, .ref (Z.2.1 0)), (1, .int x1), (2, .int x2), (3, .int v1)] [1, 2, 3, 0] rfl ?_
    exact LX12_fillLooks_31 X E hz r2 hr2 FU x1 x2 v1 h hF
theorem LX12_fillLooks_2 {Z : ZT} {G : GT} {hr : Hp} (X : CX Z G cX12_fillLooks RX12 6 5) (E : RX Z G none (none) hr) (hz : HZM Z)  : ∀ (n : Nat) (x1 : Int32) (x2 : Int32) (h : Hp), lX12_fillLooks_2   n x1 x2 h = some hr → J Z G 6 h 2 [(0, .ref (Z.2.1 0)), (1, .int x1), (2, .int x2)] [] := by
  intro n
  induction n with
  | zero => intro x1 x2 h hF; cases hF
  | succ n ih => intro x1 x2 h hF; exact BX12_fillLooks_2 X E hz  (lX12_fillLooks_2   n) ih x1 x2 h hF
def fX12_fillLooks (a1 : Int32) (h : Hp) : Option (Hp) := lt 0 (fun v1 => lX12_fillLooks_2 FU a1 v1 h)
set_option maxRecDepth 20000 in
theorem tX12_fillLooks (Z : ZT) (a1 : Int32) (hz : HZM Z) (h : Hp) (hr : Hp) (hF : fX12_fillLooks a1 h = some hr) : MC Z yX12_fillLooks cX12_fillLooks 6 none 5 [.ref (Z.2.1 0), .int a1] h (none) hr := by
  unfold fX12_fillLooks at hF
  refine mc_start (by decide) (Nat.le_of_ble_eq_true rfl) (fun G X E => ?_)
  refine j_iconst (pc := 0) 0 X dX12_fillLooks_0 rfl ?_
  refine j_istore_n (pc := 1) (fun y => [(2, .int y), (0, .ref (Z.2.1 0)), (1, .int a1)]) X dX12_fillLooks_1 (by decide) (fun _ => rfl) hF (fun v1 hF => ?_)
  refine j_lv [(0, .ref (Z.2.1 0)), (1, .int a1), (2, .int v1)] [1, 2, 0] rfl ?_
  exact LX12_fillLooks_2 X E hz FU a1 v1 h hF
theorem dX12_future_0 : decode cX12_future 0 = .ok (.aload_n 0, 1) := by decide +kernel
theorem dX12_future_1 : decode cX12_future 1 = .ok (.iload_n 1, 1) := by decide +kernel
theorem dX12_future_2 : decode cX12_future 2 = .ok (.invokevirtual 400, 3) := by decide +kernel
theorem dX12_future_5 : decode cX12_future 5 = .ok (.ifCond .eq 40, 3) := by decide +kernel
theorem dX12_future_8 : decode cX12_future 8 = .ok (.iload_n 2, 1) := by decide +kernel
theorem dX12_future_9 : decode cX12_future 9 = .ok (.invokestatic 412, 3) := by decide +kernel
theorem dX12_future_12 : decode cX12_future 12 = .ok (.ifCond .eq 33, 3) := by decide +kernel
theorem dX12_future_15 : decode cX12_future 15 = .ok (.aload_n 0, 1) := by decide +kernel
theorem dX12_future_16 : decode cX12_future 16 = .ok (.iload_n 3, 1) := by decide +kernel
theorem dX12_future_17 : decode cX12_future 17 = .ok (.iload 4, 2) := by decide +kernel
theorem dX12_future_19 : decode cX12_future 19 = .ok (.invokevirtual 528, 3) := by decide +kernel
theorem dX12_future_22 : decode cX12_future 22 = .ok (.ifCond .eq 23, 3) := by decide +kernel
theorem dX12_future_25 : decode cX12_future 25 = .ok (.iload 4, 2) := by decide +kernel
theorem dX12_future_27 : decode cX12_future 27 = .ok (.iload_n 1, 1) := by decide +kernel
theorem dX12_future_28 : decode cX12_future 28 = .ok (.ishr, 1) := by decide +kernel
theorem dX12_future_29 : decode cX12_future 29 = .ok (.iconst 1, 1) := by decide +kernel
theorem dX12_future_30 : decode cX12_future 30 = .ok (.iand, 1) := by decide +kernel
theorem dX12_future_31 : decode cX12_future 31 = .ok (.iconst 1, 1) := by decide +kernel
theorem dX12_future_32 : decode cX12_future 32 = .ok (.if_icmp .eq 13, 3) := by decide +kernel
theorem dX12_future_35 : decode cX12_future 35 = .ok (.iload 5, 2) := by decide +kernel
theorem dX12_future_37 : decode cX12_future 37 = .ok (.iconst 0, 1) := by decide +kernel
theorem dX12_future_38 : decode cX12_future 38 = .ok (.iconst 2, 1) := by decide +kernel
theorem dX12_future_39 : decode cX12_future 39 = .ok (.invokestatic 383, 3) := by decide +kernel
theorem dX12_future_42 : decode cX12_future 42 = .ok (.ifCond .ne 5, 3) := by decide +kernel
theorem dX12_future_45 : decode cX12_future 45 = .ok (.iconst (-1), 1) := by decide +kernel
theorem dX12_future_46 : decode cX12_future 46 = .ok (.ireturn, 1) := by decide +kernel
theorem dX12_future_47 : decode cX12_future 47 = .ok (.aload_n 0, 1) := by decide +kernel
theorem dX12_future_48 : decode cX12_future 48 = .ok (.getfield 49, 3) := by decide +kernel
theorem dX12_future_51 : decode cX12_future 51 = .ok (.aload_n 0, 1) := by decide +kernel
theorem dX12_future_52 : decode cX12_future 52 = .ok (.getfield 284, 3) := by decide +kernel
theorem dX12_future_55 : decode cX12_future 55 = .ok (.iaload, 1) := by decide +kernel
theorem dX12_future_56 : decode cX12_future 56 = .ok (.iconst 5, 1) := by decide +kernel
theorem dX12_future_57 : decode cX12_future 57 = .ok (.if_icmp .gt 17, 3) := by decide +kernel
theorem dX12_future_60 : decode cX12_future 60 = .ok (.aload_n 0, 1) := by decide +kernel
theorem dX12_future_61 : decode cX12_future 61 = .ok (.getfield 67, 3) := by decide +kernel
theorem dX12_future_64 : decode cX12_future 64 = .ok (.aload_n 0, 1) := by decide +kernel
theorem dX12_future_65 : decode cX12_future 65 = .ok (.getfield 284, 3) := by decide +kernel
theorem dX12_future_68 : decode cX12_future 68 = .ok (.iaload, 1) := by decide +kernel
theorem dX12_future_69 : decode cX12_future 69 = .ok (.bipush 6, 2) := by decide +kernel
theorem dX12_future_71 : decode cX12_future 71 = .ok (.if_icmp .le 6, 3) := by decide +kernel
theorem dX12_future_74 : decode cX12_future 74 = .ok (.bipush (-2), 2) := by decide +kernel
theorem dX12_future_76 : decode cX12_future 76 = .ok (.ireturn, 1) := by decide +kernel
theorem dX12_future_77 : decode cX12_future 77 = .ok (.bipush (-2), 2) := by decide +kernel
theorem dX12_future_79 : decode cX12_future 79 = .ok (.istore 6, 2) := by decide +kernel
theorem dX12_future_81 : decode cX12_future 81 = .ok (.bipush (-2), 2) := by decide +kernel
theorem dX12_future_83 : decode cX12_future 83 = .ok (.istore 7, 2) := by decide +kernel
theorem dX12_future_85 : decode cX12_future 85 = .ok (.iconst 0, 1) := by decide +kernel
theorem dX12_future_86 : decode cX12_future 86 = .ok (.istore 8, 2) := by decide +kernel
theorem dX12_future_88 : decode cX12_future 88 = .ok (.iload 8, 2) := by decide +kernel
theorem dX12_future_90 : decode cX12_future 90 = .ok (.sipush 2048, 3) := by decide +kernel
theorem dX12_future_93 : decode cX12_future 93 = .ok (.if_icmp .ge 33, 3) := by decide +kernel
theorem dX12_future_96 : decode cX12_future 96 = .ok (.aload_n 0, 1) := by decide +kernel
theorem dX12_future_97 : decode cX12_future 97 = .ok (.getfield 182, 3) := by decide +kernel
theorem dX12_future_100 : decode cX12_future 100 = .ok (.iload 8, 2) := by decide +kernel
theorem dX12_future_102 : decode cX12_future 102 = .ok (.iload 8, 2) := by decide +kernel
theorem dX12_future_104 : decode cX12_future 104 = .ok (.bipush 64, 2) := by decide +kernel
theorem dX12_future_106 : decode cX12_future 106 = .ok (.iload_n 3, 1) := by decide +kernel
theorem dX12_future_107 : decode cX12_future 107 = .ok (.imul, 1) := by decide +kernel
theorem dX12_future_108 : decode cX12_future 108 = .ok (.iload 4, 2) := by decide +kernel
theorem dX12_future_110 : decode cX12_future 110 = .ok (.iadd, 1) := by decide +kernel
theorem dX12_future_111 : decode cX12_future 111 = .ok (.if_icmp .ne 7, 3) := by decide +kernel
theorem dX12_future_114 : decode cX12_future 114 = .ok (.iconst 1, 1) := by decide +kernel
theorem dX12_future_115 : decode cX12_future 115 = .ok (.goto 4, 3) := by decide +kernel
theorem dX12_future_118 : decode cX12_future 118 = .ok (.iconst 0, 1) := by decide +kernel
theorem dX12_future_119 : decode cX12_future 119 = .ok (.bastore, 1) := by decide +kernel
theorem dX12_future_120 : decode cX12_future 120 = .ok (.iinc 8 1, 3) := by decide +kernel
theorem dX12_future_123 : decode cX12_future 123 = .ok (.goto (-35), 3) := by decide +kernel
theorem dX12_future_126 : decode cX12_future 126 = .ok (.iload_n 2, 1) := by decide +kernel
theorem dX12_future_127 : decode cX12_future 127 = .ok (.istore 8, 2) := by decide +kernel
theorem dX12_future_129 : decode cX12_future 129 = .ok (.iload 8, 2) := by decide +kernel
theorem dX12_future_131 : decode cX12_future 131 = .ok (.bipush 60, 2) := by decide +kernel
theorem dX12_future_133 : decode cX12_future 133 = .ok (.if_icmp .ge 216, 3) := by decide +kernel
theorem dX12_future_136 : decode cX12_future 136 = .ok (.aload_n 0, 1) := by decide +kernel
theorem dX12_future_137 : decode cX12_future 137 = .ok (.iload 8, 2) := by decide +kernel
theorem dX12_future_139 : decode cX12_future 139 = .ok (.invokevirtual 537, 3) := by decide +kernel
theorem dX12_future_142 : decode cX12_future 142 = .ok (.iconst 0, 1) := by decide +kernel
theorem dX12_future_143 : decode cX12_future 143 = .ok (.istore 9, 2) := by decide +kernel
theorem dX12_future_145 : decode cX12_future 145 = .ok (.iload 9, 2) := by decide +kernel
theorem dX12_future_147 : decode cX12_future 147 = .ok (.sipush 2048, 3) := by decide +kernel
theorem dX12_future_150 : decode cX12_future 150 = .ok (.if_icmp .ge 17, 3) := by decide +kernel
theorem dX12_future_153 : decode cX12_future 153 = .ok (.aload_n 0, 1) := by decide +kernel
theorem dX12_future_154 : decode cX12_future 154 = .ok (.getfield 185, 3) := by decide +kernel
theorem dX12_future_157 : decode cX12_future 157 = .ok (.iload 9, 2) := by decide +kernel
theorem dX12_future_159 : decode cX12_future 159 = .ok (.iconst 0, 1) := by decide +kernel
theorem dX12_future_160 : decode cX12_future 160 = .ok (.bastore, 1) := by decide +kernel
theorem dX12_future_161 : decode cX12_future 161 = .ok (.iinc 9 1, 3) := by decide +kernel
theorem dX12_future_164 : decode cX12_future 164 = .ok (.goto (-19), 3) := by decide +kernel
theorem dX12_future_167 : decode cX12_future 167 = .ok (.iconst 0, 1) := by decide +kernel
theorem dX12_future_168 : decode cX12_future 168 = .ok (.istore 9, 2) := by decide +kernel
theorem dX12_future_170 : decode cX12_future 170 = .ok (.iload 9, 2) := by decide +kernel
theorem dX12_future_172 : decode cX12_future 172 = .ok (.sipush 2048, 3) := by decide +kernel
theorem dX12_future_175 : decode cX12_future 175 = .ok (.if_icmp .ge 137, 3) := by decide +kernel
theorem dX12_future_178 : decode cX12_future 178 = .ok (.aload_n 0, 1) := by decide +kernel
theorem dX12_future_179 : decode cX12_future 179 = .ok (.getfield 182, 3) := by decide +kernel
theorem dX12_future_182 : decode cX12_future 182 = .ok (.iload 9, 2) := by decide +kernel
theorem dX12_future_184 : decode cX12_future 184 = .ok (.baload, 1) := by decide +kernel
theorem dX12_future_185 : decode cX12_future 185 = .ok (.ifCond .ne 6, 3) := by decide +kernel
theorem dX12_future_188 : decode cX12_future 188 = .ok (.goto 118, 3) := by decide +kernel
theorem dX12_future_191 : decode cX12_future 191 = .ok (.iconst (-1), 1) := by decide +kernel
theorem dX12_future_192 : decode cX12_future 192 = .ok (.istore 10, 2) := by decide +kernel
theorem dX12_future_194 : decode cX12_future 194 = .ok (.iload 10, 2) := by decide +kernel
theorem dX12_future_196 : decode cX12_future 196 = .ok (.aload_n 0, 1) := by decide +kernel
theorem dX12_future_197 : decode cX12_future 197 = .ok (.getfield 49, 3) := by decide +kernel
theorem dX12_future_200 : decode cX12_future 200 = .ok (.aload_n 0, 1) := by decide +kernel
theorem dX12_future_201 : decode cX12_future 201 = .ok (.getfield 284, 3) := by decide +kernel
theorem dX12_future_204 : decode cX12_future 204 = .ok (.iaload, 1) := by decide +kernel
theorem dX12_future_205 : decode cX12_future 205 = .ok (.if_icmp .ge 101, 3) := by decide +kernel
theorem dX12_future_208 : decode cX12_future 208 = .ok (.iload 9, 2) := by decide +kernel
theorem dX12_future_210 : decode cX12_future 210 = .ok (.bipush 64, 2) := by decide +kernel
theorem dX12_future_212 : decode cX12_future 212 = .ok (.idiv, 1) := by decide +kernel
theorem dX12_future_213 : decode cX12_future 213 = .ok (.iload 10, 2) := by decide +kernel
theorem dX12_future_215 : decode cX12_future 215 = .ok (.iconst (-1), 1) := by decide +kernel
theorem dX12_future_216 : decode cX12_future 216 = .ok (.if_icmp .ne 7, 3) := by decide +kernel
theorem dX12_future_219 : decode cX12_future 219 = .ok (.iconst 0, 1) := by decide +kernel
theorem dX12_future_220 : decode cX12_future 220 = .ok (.goto 7, 3) := by decide +kernel
theorem dX12_future_223 : decode cX12_future 223 = .ok (.iconst 1, 1) := by decide +kernel
theorem dX12_future_224 : decode cX12_future 224 = .ok (.iload 10, 2) := by decide +kernel
theorem dX12_future_226 : decode cX12_future 226 = .ok (.ishl, 1) := by decide +kernel
theorem dX12_future_227 : decode cX12_future 227 = .ok (.ior, 1) := by decide +kernel
theorem dX12_future_228 : decode cX12_future 228 = .ok (.istore 11, 2) := by decide +kernel
theorem dX12_future_230 : decode cX12_future 230 = .ok (.aload_n 0, 1) := by decide +kernel
theorem dX12_future_231 : decode cX12_future 231 = .ok (.getfield 188, 3) := by decide +kernel
theorem dX12_future_234 : decode cX12_future 234 = .ok (.bipush 64, 2) := by decide +kernel
theorem dX12_future_236 : decode cX12_future 236 = .ok (.iload 11, 2) := by decide +kernel
theorem dX12_future_238 : decode cX12_future 238 = .ok (.imul, 1) := by decide +kernel
theorem dX12_future_239 : decode cX12_future 239 = .ok (.iload 9, 2) := by decide +kernel
theorem dX12_future_241 : decode cX12_future 241 = .ok (.bipush 64, 2) := by decide +kernel
theorem dX12_future_243 : decode cX12_future 243 = .ok (.irem, 1) := by decide +kernel
theorem dX12_future_244 : decode cX12_future 244 = .ok (.iadd, 1) := by decide +kernel
theorem dX12_future_245 : decode cX12_future 245 = .ok (.iaload, 1) := by decide +kernel
theorem dX12_future_246 : decode cX12_future 246 = .ok (.istore 12, 2) := by decide +kernel
theorem dX12_future_248 : decode cX12_future 248 = .ok (.aload_n 0, 1) := by decide +kernel
theorem dX12_future_249 : decode cX12_future 249 = .ok (.getfield 185, 3) := by decide +kernel
theorem dX12_future_252 : decode cX12_future 252 = .ok (.bipush 64, 2) := by decide +kernel
theorem dX12_future_254 : decode cX12_future 254 = .ok (.iload 11, 2) := by decide +kernel
theorem dX12_future_256 : decode cX12_future 256 = .ok (.imul, 1) := by decide +kernel
theorem dX12_future_257 : decode cX12_future 257 = .ok (.iload 12, 2) := by decide +kernel
theorem dX12_future_259 : decode cX12_future 259 = .ok (.iadd, 1) := by decide +kernel
theorem dX12_future_260 : decode cX12_future 260 = .ok (.iconst 1, 1) := by decide +kernel
theorem dX12_future_261 : decode cX12_future 261 = .ok (.bastore, 1) := by decide +kernel
theorem dX12_future_262 : decode cX12_future 262 = .ok (.iload 9, 2) := by decide +kernel
theorem dX12_future_264 : decode cX12_future 264 = .ok (.bipush 64, 2) := by decide +kernel
theorem dX12_future_266 : decode cX12_future 266 = .ok (.irem, 1) := by decide +kernel
theorem dX12_future_267 : decode cX12_future 267 = .ok (.iload_n 1, 1) := by decide +kernel
theorem dX12_future_268 : decode cX12_future 268 = .ok (.ishr, 1) := by decide +kernel
theorem dX12_future_269 : decode cX12_future 269 = .ok (.iconst 1, 1) := by decide +kernel
theorem dX12_future_270 : decode cX12_future 270 = .ok (.iand, 1) := by decide +kernel
theorem dX12_future_271 : decode cX12_future 271 = .ok (.iconst 1, 1) := by decide +kernel
theorem dX12_future_272 : decode cX12_future 272 = .ok (.if_icmp .eq 28, 3) := by decide +kernel
theorem dX12_future_275 : decode cX12_future 275 = .ok (.iload 12, 2) := by decide +kernel
theorem dX12_future_277 : decode cX12_future 277 = .ok (.iload_n 1, 1) := by decide +kernel
theorem dX12_future_278 : decode cX12_future 278 = .ok (.ishr, 1) := by decide +kernel
theorem dX12_future_279 : decode cX12_future 279 = .ok (.iconst 1, 1) := by decide +kernel
theorem dX12_future_280 : decode cX12_future 280 = .ok (.iand, 1) := by decide +kernel
theorem dX12_future_281 : decode cX12_future 281 = .ok (.ifCond .ne 6, 3) := by decide +kernel
theorem dX12_future_284 : decode cX12_future 284 = .ok (.goto 16, 3) := by decide +kernel
theorem dX12_future_287 : decode cX12_future 287 = .ok (.iload 6, 2) := by decide +kernel
theorem dX12_future_289 : decode cX12_future 289 = .ok (.ifCond .ge 7, 3) := by decide +kernel
theorem dX12_future_292 : decode cX12_future 292 = .ok (.iload 8, 2) := by decide +kernel
theorem dX12_future_294 : decode cX12_future 294 = .ok (.istore 6, 2) := by decide +kernel
theorem dX12_future_296 : decode cX12_future 296 = .ok (.iload 8, 2) := by decide +kernel
theorem dX12_future_298 : decode cX12_future 298 = .ok (.istore 7, 2) := by decide +kernel
theorem dX12_future_300 : decode cX12_future 300 = .ok (.iinc 10 1, 3) := by decide +kernel
theorem dX12_future_303 : decode cX12_future 303 = .ok (.goto (-109), 3) := by decide +kernel
theorem dX12_future_306 : decode cX12_future 306 = .ok (.iinc 9 1, 3) := by decide +kernel
theorem dX12_future_309 : decode cX12_future 309 = .ok (.goto (-139), 3) := by decide +kernel
theorem dX12_future_312 : decode cX12_future 312 = .ok (.iconst 0, 1) := by decide +kernel
theorem dX12_future_313 : decode cX12_future 313 = .ok (.istore 9, 2) := by decide +kernel
theorem dX12_future_315 : decode cX12_future 315 = .ok (.iload 9, 2) := by decide +kernel
theorem dX12_future_317 : decode cX12_future 317 = .ok (.sipush 2048, 3) := by decide +kernel
theorem dX12_future_320 : decode cX12_future 320 = .ok (.if_icmp .ge 23, 3) := by decide +kernel
theorem dX12_future_323 : decode cX12_future 323 = .ok (.aload_n 0, 1) := by decide +kernel
theorem dX12_future_324 : decode cX12_future 324 = .ok (.getfield 182, 3) := by decide +kernel
theorem dX12_future_327 : decode cX12_future 327 = .ok (.iload 9, 2) := by decide +kernel
theorem dX12_future_329 : decode cX12_future 329 = .ok (.aload_n 0, 1) := by decide +kernel
theorem dX12_future_330 : decode cX12_future 330 = .ok (.getfield 185, 3) := by decide +kernel
theorem dX12_future_333 : decode cX12_future 333 = .ok (.iload 9, 2) := by decide +kernel
theorem dX12_future_335 : decode cX12_future 335 = .ok (.baload, 1) := by decide +kernel
theorem dX12_future_336 : decode cX12_future 336 = .ok (.bastore, 1) := by decide +kernel
theorem dX12_future_337 : decode cX12_future 337 = .ok (.iinc 9 1, 3) := by decide +kernel
theorem dX12_future_340 : decode cX12_future 340 = .ok (.goto (-25), 3) := by decide +kernel
theorem dX12_future_343 : decode cX12_future 343 = .ok (.iinc 8 1, 3) := by decide +kernel
theorem dX12_future_346 : decode cX12_future 346 = .ok (.goto (-217), 3) := by decide +kernel
theorem dX12_future_349 : decode cX12_future 349 = .ok (.iconst 1, 1) := by decide +kernel
theorem dX12_future_350 : decode cX12_future 350 = .ok (.istore 8, 2) := by decide +kernel
theorem dX12_future_352 : decode cX12_future 352 = .ok (.iconst 0, 1) := by decide +kernel
theorem dX12_future_353 : decode cX12_future 353 = .ok (.istore 9, 2) := by decide +kernel
theorem dX12_future_355 : decode cX12_future 355 = .ok (.iload 9, 2) := by decide +kernel
theorem dX12_future_357 : decode cX12_future 357 = .ok (.sipush 2048, 3) := by decide +kernel
theorem dX12_future_360 : decode cX12_future 360 = .ok (.if_icmp .ge 34, 3) := by decide +kernel
theorem dX12_future_363 : decode cX12_future 363 = .ok (.aload_n 0, 1) := by decide +kernel
theorem dX12_future_364 : decode cX12_future 364 = .ok (.getfield 182, 3) := by decide +kernel
theorem dX12_future_367 : decode cX12_future 367 = .ok (.iload 9, 2) := by decide +kernel
theorem dX12_future_369 : decode cX12_future 369 = .ok (.baload, 1) := by decide +kernel
theorem dX12_future_370 : decode cX12_future 370 = .ok (.ifCond .eq 18, 3) := by decide +kernel
theorem dX12_future_373 : decode cX12_future 373 = .ok (.iload 9, 2) := by decide +kernel
theorem dX12_future_375 : decode cX12_future 375 = .ok (.bipush 64, 2) := by decide +kernel
theorem dX12_future_377 : decode cX12_future 377 = .ok (.irem, 1) := by decide +kernel
theorem dX12_future_378 : decode cX12_future 378 = .ok (.iload_n 1, 1) := by decide +kernel
theorem dX12_future_379 : decode cX12_future 379 = .ok (.ishr, 1) := by decide +kernel
theorem dX12_future_380 : decode cX12_future 380 = .ok (.iconst 1, 1) := by decide +kernel
theorem dX12_future_381 : decode cX12_future 381 = .ok (.iand, 1) := by decide +kernel
theorem dX12_future_382 : decode cX12_future 382 = .ok (.ifCond .ne 6, 3) := by decide +kernel
theorem dX12_future_385 : decode cX12_future 385 = .ok (.iconst 0, 1) := by decide +kernel
theorem dX12_future_386 : decode cX12_future 386 = .ok (.istore 8, 2) := by decide +kernel
theorem dX12_future_388 : decode cX12_future 388 = .ok (.iinc 9 1, 3) := by decide +kernel
theorem dX12_future_391 : decode cX12_future 391 = .ok (.goto (-36), 3) := by decide +kernel
theorem dX12_future_394 : decode cX12_future 394 = .ok (.iload 5, 2) := by decide +kernel
theorem dX12_future_396 : decode cX12_future 396 = .ok (.ifCond .ne 8, 3) := by decide +kernel
theorem dX12_future_399 : decode cX12_future 399 = .ok (.iload 6, 2) := by decide +kernel
theorem dX12_future_401 : decode cX12_future 401 = .ok (.goto 16, 3) := by decide +kernel
theorem dX12_future_404 : decode cX12_future 404 = .ok (.iload 5, 2) := by decide +kernel
theorem dX12_future_406 : decode cX12_future 406 = .ok (.iconst 1, 1) := by decide +kernel
theorem dX12_future_407 : decode cX12_future 407 = .ok (.if_icmp .ne 8, 3) := by decide +kernel
theorem dX12_future_410 : decode cX12_future 410 = .ok (.iload 7, 2) := by decide +kernel
theorem dX12_future_412 : decode cX12_future 412 = .ok (.goto 5, 3) := by decide +kernel
theorem dX12_future_415 : decode cX12_future 415 = .ok (.iload 8, 2) := by decide +kernel
theorem dX12_future_417 : decode cX12_future 417 = .ok (.ireturn, 1) := by decide +kernel
def bX12_future_119  (r88 : Int32 → Int32 → Int32 → Int32 → Int32 → Int32 → Int32 → Int32 → Hp → Option (Int32 × Hp)) (x1 : Int32) (x2 : Int32) (x3 : Int32) (x4 : Int32) (x5 : Int32) (x6 : Int32) (x7 : Int32) (x8 : Int32) (s0 : Int32) (s1 : Int32) (h : Hp) : Option (Int32 × Hp) := ck (inb s1 2048) (lt (wI h 55 (ix s1) (vp_nar .boolean s0)) (fun h1 => lt (x8 + 1) (fun v2 => r88 x1 x2 x3 x4 x5 x6 x7 v2 h1)))
set_option maxRecDepth 20000 in
theorem BX12_future_119 {Z : ZT} {G : GT} {r : Int32} {hr : Hp} (X : CX Z G cX12_future RX12 13 6) (E : RX Z G (some .int) (some (.int r)) hr) (hz : HZM Z) (r88 : Int32 → Int32 → Int32 → Int32 → Int32 → Int32 → Int32 → Int32 → Hp → Option (Int32 × Hp)) (hr88 : ∀ (x1 : Int32) (x2 : Int32) (x3 : Int32) (x4 : Int32) (x5 : Int32) (x6 : Int32) (x7 : Int32) (x8 : Int32) (h : Hp), r88 x1 x2 x3 x4 x5 x6 x7 x8 h = some (r, hr) → J Z G 13 h 88 [(0, .ref (Z.2.1 0)), (1, .int x1), (2, .int x2), (3, .int x3), (4, .int x4), (5, .int x5), (6, .int x6), (7, .int x7), (8, .int x8)] []) (x1 : Int32) (x2 : Int32) (x3 : Int32) (x4 : Int32) (x5 : Int32) (x6 : Int32) (x7 : Int32) (x8 : Int32) (s0 : Int32) (s1 : Int32) (h : Hp) (hF : bX12_future_119  r88 x1 x2 x3 x4 x5 x6 x7 x8 s0 s1 h = some (r, hr)) : J Z G 13 h 119 [(0, .ref (Z.2.1 0)), (1, .int x1), (2, .int x2), (3, .int x3), (4, .int x4), (5, .int x5), (6, .int x6), (7, .int x7), (8, .int x8)] [.int s0, .int s1, .ref (Z.2.1 55)] := by
  unfold bX12_future_119 at hF
  refine j_zast (pc := 119) X dX12_future_119 (hz _ sh_55) hF (fun h1 hF => ?_)
  refine j_iinc (pc := 120) 8 (x8 + 1) (fun y => [(8, .int y), (0, .ref (Z.2.1 0)), (1, .int x1), (2, .int x2), (3, .int x3), (4, .int x4), (5, .int x5), (6, .int x6), (7, .int x7)]) X dX12_future_120 rfl rfl (by decide) (fun _ => rfl) hF (fun v2 hF => ?_)
  refine j_goto (pc := 123) 88 X dX12_future_123 rfl ?_
  refine j_lv [(0, .ref (Z.2.1 0)), (1, .int x1), (2, .int x2), (3, .int x3), (4, .int x4), (5, .int x5), (6, .int x6), (7, .int x7), (8, .int v2)] [1, 2, 3, 4, 5, 6, 7, 8, 0] rfl ?_
  exact hr88 x1 x2 x3 x4 x5 x6 x7 v2 h1 hF
def bX12_future_306  (r129 : Int32 → Int32 → Int32 → Int32 → Int32 → Hp → Option (Int32 × Hp)) (r170 : Int32 → Int32 → Int32 → Int32 → Int32 → Int32 → Hp → Option (Int32 × Hp)) (x1 : Int32) (x5 : Int32) (x6 : Int32) (x7 : Int32) (x8 : Int32) (x9 : Int32) (h : Hp) : Option (Int32 × Hp) := lt (x9 + 1) (fun v1 => r170 x1 x5 x6 x7 x8 v1 h)
set_option maxRecDepth 20000 in
theorem BX12_future_306 {Z : ZT} {G : GT} {r : Int32} {hr : Hp} (X : CX Z G cX12_future RX12 13 6) (E : RX Z G (some .int) (some (.int r)) hr) (hz : HZM Z) (r129 : Int32 → Int32 → Int32 → Int32 → Int32 → Hp → Option (Int32 × Hp)) (hr129 : ∀ (x1 : Int32) (x5 : Int32) (x6 : Int32) (x7 : Int32) (x8 : Int32) (h : Hp), r129 x1 x5 x6 x7 x8 h = some (r, hr) → J Z G 13 h 129 [(0, .ref (Z.2.1 0)), (1, .int x1), (5, .int x5), (6, .int x6), (7, .int x7), (8, .int x8)] []) (r170 : Int32 → Int32 → Int32 → Int32 → Int32 → Int32 → Hp → Option (Int32 × Hp)) (hr170 : ∀ (x1 : Int32) (x5 : Int32) (x6 : Int32) (x7 : Int32) (x8 : Int32) (x9 : Int32) (h : Hp), r170 x1 x5 x6 x7 x8 x9 h = some (r, hr) → J Z G 13 h 170 [(0, .ref (Z.2.1 0)), (1, .int x1), (5, .int x5), (6, .int x6), (7, .int x7), (8, .int x8), (9, .int x9)] []) (x1 : Int32) (x5 : Int32) (x6 : Int32) (x7 : Int32) (x8 : Int32) (x9 : Int32) (h : Hp) (hF : bX12_future_306  r129 r170 x1 x5 x6 x7 x8 x9 h = some (r, hr)) : J Z G 13 h 306 [(0, .ref (Z.2.1 0)), (1, .int x1), (5, .int x5), (6, .int x6), (7, .int x7), (8, .int x8), (9, .int x9)] [] := by
  unfold bX12_future_306 at hF
  refine j_iinc (pc := 306) 6 (x9 + 1) (fun y => [(9, .int y), (0, .ref (Z.2.1 0)), (1, .int x1), (5, .int x5), (6, .int x6), (7, .int x7), (8, .int x8)]) X dX12_future_306 rfl rfl (by decide) (fun _ => rfl) hF (fun v1 hF => ?_)
  refine j_goto (pc := 309) 170 X dX12_future_309 rfl ?_
  refine j_lv [(0, .ref (Z.2.1 0)), (1, .int x1), (5, .int x5), (6, .int x6), (7, .int x7), (8, .int x8), (9, .int v1)] [1, 2, 3, 4, 5, 6, 0] rfl ?_
  exact hr170 x1 x5 x6 x7 x8 v1 h hF
def bX12_future_300  (r129 : Int32 → Int32 → Int32 → Int32 → Int32 → Hp → Option (Int32 × Hp)) (r170 : Int32 → Int32 → Int32 → Int32 → Int32 → Int32 → Hp → Option (Int32 × Hp)) (r194 : Int32 → Int32 → Int32 → Int32 → Int32 → Int32 → Int32 → Hp → Option (Int32 × Hp)) (x1 : Int32) (x5 : Int32) (x6 : Int32) (x7 : Int32) (x8 : Int32) (x9 : Int32) (x10 : Int32) (h : Hp) : Option (Int32 × Hp) := lt (x10 + 1) (fun v1 => r194 x1 x5 x6 x7 x8 x9 v1 h)
set_option maxRecDepth 20000 in
theorem BX12_future_300 {Z : ZT} {G : GT} {r : Int32} {hr : Hp} (X : CX Z G cX12_future RX12 13 6) (E : RX Z G (some .int) (some (.int r)) hr) (hz : HZM Z) (r129 : Int32 → Int32 → Int32 → Int32 → Int32 → Hp → Option (Int32 × Hp)) (hr129 : ∀ (x1 : Int32) (x5 : Int32) (x6 : Int32) (x7 : Int32) (x8 : Int32) (h : Hp), r129 x1 x5 x6 x7 x8 h = some (r, hr) → J Z G 13 h 129 [(0, .ref (Z.2.1 0)), (1, .int x1), (5, .int x5), (6, .int x6), (7, .int x7), (8, .int x8)] []) (r170 : Int32 → Int32 → Int32 → Int32 → Int32 → Int32 → Hp → Option (Int32 × Hp)) (hr170 : ∀ (x1 : Int32) (x5 : Int32) (x6 : Int32) (x7 : Int32) (x8 : Int32) (x9 : Int32) (h : Hp), r170 x1 x5 x6 x7 x8 x9 h = some (r, hr) → J Z G 13 h 170 [(0, .ref (Z.2.1 0)), (1, .int x1), (5, .int x5), (6, .int x6), (7, .int x7), (8, .int x8), (9, .int x9)] []) (r194 : Int32 → Int32 → Int32 → Int32 → Int32 → Int32 → Int32 → Hp → Option (Int32 × Hp)) (hr194 : ∀ (x1 : Int32) (x5 : Int32) (x6 : Int32) (x7 : Int32) (x8 : Int32) (x9 : Int32) (x10 : Int32) (h : Hp), r194 x1 x5 x6 x7 x8 x9 x10 h = some (r, hr) → J Z G 13 h 194 [(0, .ref (Z.2.1 0)), (1, .int x1), (5, .int x5), (6, .int x6), (7, .int x7), (8, .int x8), (9, .int x9), (10, .int x10)] []) (x1 : Int32) (x5 : Int32) (x6 : Int32) (x7 : Int32) (x8 : Int32) (x9 : Int32) (x10 : Int32) (h : Hp) (hF : bX12_future_300  r129 r170 r194 x1 x5 x6 x7 x8 x9 x10 h = some (r, hr)) : J Z G 13 h 300 [(0, .ref (Z.2.1 0)), (1, .int x1), (5, .int x5), (6, .int x6), (7, .int x7), (8, .int x8), (9, .int x9), (10, .int x10)] [] := by
  unfold bX12_future_300 at hF
  refine j_iinc (pc := 300) 7 (x10 + 1) (fun y => [(10, .int y), (0, .ref (Z.2.1 0)), (1, .int x1), (5, .int x5), (6, .int x6), (7, .int x7), (8, .int x8), (9, .int x9)]) X dX12_future_300 rfl rfl (by decide) (fun _ => rfl) hF (fun v1 hF => ?_)
  refine j_goto (pc := 303) 194 X dX12_future_303 rfl ?_
  refine j_lv [(0, .ref (Z.2.1 0)), (1, .int x1), (5, .int x5), (6, .int x6), (7, .int x7), (8, .int x8), (9, .int x9), (10, .int v1)] [1, 2, 3, 4, 5, 6, 7, 0] rfl ?_
  exact hr194 x1 x5 x6 x7 x8 x9 v1 h hF
def bX12_future_296  (r129 : Int32 → Int32 → Int32 → Int32 → Int32 → Hp → Option (Int32 × Hp)) (r170 : Int32 → Int32 → Int32 → Int32 → Int32 → Int32 → Hp → Option (Int32 × Hp)) (r194 : Int32 → Int32 → Int32 → Int32 → Int32 → Int32 → Int32 → Hp → Option (Int32 × Hp)) (x1 : Int32) (x5 : Int32) (x6 : Int32) (x8 : Int32) (x9 : Int32) (x10 : Int32) (h : Hp) : Option (Int32 × Hp) := lt x8 (fun v1 => bX12_future_300 r129 r170 r194 x1 x5 x6 v1 x8 x9 x10 h)
set_option maxRecDepth 20000 in
theorem BX12_future_296 {Z : ZT} {G : GT} {r : Int32} {hr : Hp} (X : CX Z G cX12_future RX12 13 6) (E : RX Z G (some .int) (some (.int r)) hr) (hz : HZM Z) (r129 : Int32 → Int32 → Int32 → Int32 → Int32 → Hp → Option (Int32 × Hp)) (hr129 : ∀ (x1 : Int32) (x5 : Int32) (x6 : Int32) (x7 : Int32) (x8 : Int32) (h : Hp), r129 x1 x5 x6 x7 x8 h = some (r, hr) → J Z G 13 h 129 [(0, .ref (Z.2.1 0)), (1, .int x1), (5, .int x5), (6, .int x6), (7, .int x7), (8, .int x8)] []) (r170 : Int32 → Int32 → Int32 → Int32 → Int32 → Int32 → Hp → Option (Int32 × Hp)) (hr170 : ∀ (x1 : Int32) (x5 : Int32) (x6 : Int32) (x7 : Int32) (x8 : Int32) (x9 : Int32) (h : Hp), r170 x1 x5 x6 x7 x8 x9 h = some (r, hr) → J Z G 13 h 170 [(0, .ref (Z.2.1 0)), (1, .int x1), (5, .int x5), (6, .int x6), (7, .int x7), (8, .int x8), (9, .int x9)] []) (r194 : Int32 → Int32 → Int32 → Int32 → Int32 → Int32 → Int32 → Hp → Option (Int32 × Hp)) (hr194 : ∀ (x1 : Int32) (x5 : Int32) (x6 : Int32) (x7 : Int32) (x8 : Int32) (x9 : Int32) (x10 : Int32) (h : Hp), r194 x1 x5 x6 x7 x8 x9 x10 h = some (r, hr) → J Z G 13 h 194 [(0, .ref (Z.2.1 0)), (1, .int x1), (5, .int x5), (6, .int x6), (7, .int x7), (8, .int x8), (9, .int x9), (10, .int x10)] []) (x1 : Int32) (x5 : Int32) (x6 : Int32) (x8 : Int32) (x9 : Int32) (x10 : Int32) (h : Hp) (hF : bX12_future_296  r129 r170 r194 x1 x5 x6 x8 x9 x10 h = some (r, hr)) : J Z G 13 h 296 [(0, .ref (Z.2.1 0)), (1, .int x1), (5, .int x5), (6, .int x6), (8, .int x8), (9, .int x9), (10, .int x10)] [] := by
  unfold bX12_future_296 at hF
  refine j_iload (pc := 296) 4 X dX12_future_296 rfl ?_
  refine j_istore (pc := 298) (fun y => [(7, .int y), (0, .ref (Z.2.1 0)), (1, .int x1), (5, .int x5), (6, .int x6), (8, .int x8), (9, .int x9), (10, .int x10)]) X dX12_future_298 (by decide) (fun _ => rfl) hF (fun v1 hF => ?_)
  refine j_lv [(0, .ref (Z.2.1 0)), (1, .int x1), (5, .int x5), (6, .int x6), (7, .int v1), (8, .int x8), (9, .int x9), (10, .int x10)] [1, 2, 3, 4, 0, 5, 6, 7] rfl ?_
  exact BX12_future_300 X E hz r129 hr129 r170 hr170 r194 hr194 x1 x5 x6 v1 x8 x9 x10 h hF
def bX12_future_227  (r129 : Int32 → Int32 → Int32 → Int32 → Int32 → Hp → Option (Int32 × Hp)) (r170 : Int32 → Int32 → Int32 → Int32 → Int32 → Int32 → Hp → Option (Int32 × Hp)) (r194 : Int32 → Int32 → Int32 → Int32 → Int32 → Int32 → Int32 → Hp → Option (Int32 × Hp)) (x1 : Int32) (x5 : Int32) (x6 : Int32) (x7 : Int32) (x8 : Int32) (x9 : Int32) (x10 : Int32) (s0 : Int32) (s1 : Int32) (h : Hp) : Option (Int32 × Hp) := lt (s1 ||| s0) (fun v1 => ck (nz 64) (ck (inb (((64 : Int32) * v1) + (x9 - x9 / 64 * 64)) 2048) (lt (h.1 57 (ix (((64 : Int32) * v1) + (x9 - x9 / 64 * 64)))) (fun v2 => ck (inb (((64 : Int32) * v1) + v2) 2048) (lt (wI h 56 (ix (((64 : Int32) * v1) + v2)) (vp_nar .boolean 1)) (fun h3 => ck (nz 64) ((if (((x9 - x9 / 64 * 64) >>> (x1 &&& 31)) &&& 1) = 1 then bX12_future_300 r129 r170 r194 x1 x5 x6 x7 x8 x9 x10 h3 else (if ((v2 >>> (x1 &&& 31)) &&& 1) = 0 then bX12_future_300 r129 r170 r194 x1 x5 x6 x7 x8 x9 x10 h3 else (if 0 ≤ x6 then bX12_future_296 r129 r170 r194 x1 x5 x6 x8 x9 x10 h3 else lt x8 (fun v4 => bX12_future_296 r129 r170 r194 x1 x5 v4 x8 x9 x10 h3)))))))))))
set_option maxRecDepth 20000 in
theorem BX12_future_227 {Z : ZT} {G : GT} {r : Int32} {hr : Hp} (X : CX Z G cX12_future RX12 13 6) (E : RX Z G (some .int) (some (.int r)) hr) (hz : HZM Z) (r129 : Int32 → Int32 → Int32 → Int32 → Int32 → Hp → Option (Int32 × Hp)) (hr129 : ∀ (x1 : Int32) (x5 : Int32) (x6 : Int32) (x7 : Int32) (x8 : Int32) (h : Hp), r129 x1 x5 x6 x7 x8 h = some (r, hr) → J Z G 13 h 129 [(0, .ref (Z.2.1 0)), (1, .int x1), (5, .int x5), (6, .int x6), (7, .int x7), (8, .int x8)] []) (r170 : Int32 → Int32 → Int32 → Int32 → Int32 → Int32 → Hp → Option (Int32 × Hp)) (hr170 : ∀ (x1 : Int32) (x5 : Int32) (x6 : Int32) (x7 : Int32) (x8 : Int32) (x9 : Int32) (h : Hp), r170 x1 x5 x6 x7 x8 x9 h = some (r, hr) → J Z G 13 h 170 [(0, .ref (Z.2.1 0)), (1, .int x1), (5, .int x5), (6, .int x6), (7, .int x7), (8, .int x8), (9, .int x9)] []) (r194 : Int32 → Int32 → Int32 → Int32 → Int32 → Int32 → Int32 → Hp → Option (Int32 × Hp)) (hr194 : ∀ (x1 : Int32) (x5 : Int32) (x6 : Int32) (x7 : Int32) (x8 : Int32) (x9 : Int32) (x10 : Int32) (h : Hp), r194 x1 x5 x6 x7 x8 x9 x10 h = some (r, hr) → J Z G 13 h 194 [(0, .ref (Z.2.1 0)), (1, .int x1), (5, .int x5), (6, .int x6), (7, .int x7), (8, .int x8), (9, .int x9), (10, .int x10)] []) (x1 : Int32) (x5 : Int32) (x6 : Int32) (x7 : Int32) (x8 : Int32) (x9 : Int32) (x10 : Int32) (s0 : Int32) (s1 : Int32) (h : Hp) (hF : bX12_future_227  r129 r170 r194 x1 x5 x6 x7 x8 x9 x10 s0 s1 h = some (r, hr)) : J Z G 13 h 227 [(0, .ref (Z.2.1 0)), (1, .int x1), (5, .int x5), (6, .int x6), (7, .int x7), (8, .int x8), (9, .int x9), (10, .int x10)] [.int s0, .int s1] := by
  unfold bX12_future_227 at hF
  refine j_ior (pc := 227) X dX12_future_227 ?_
  refine j_istore (pc := 228) (fun y => [(11, .int y), (0, .ref (Z.2.1 0)), (1, .int x1), (5, .int x5), (6, .int x6), (7, .int x7), (8, .int x8), (9, .int x9), (10, .int x10)]) X dX12_future_228 (by decide) (fun _ => rfl) hF (fun v1 hF => ?_)
  refine j_aload_n (pc := 230) 1 X dX12_future_230 rfl ?_
  refine j_getr (pc := 231) X dX12_future_231 (hz _ sh_0) fl_X12_188 rfl ?_
  refine j_bipush (pc := 234) 64 X dX12_future_234 rfl ?_
  refine j_iload (pc := 236) 0 X dX12_future_236 rfl ?_
  refine j_imul (pc := 238) X dX12_future_238 ?_
  refine j_iload (pc := 239) 7 X dX12_future_239 rfl ?_
  refine j_bipush (pc := 241) 64 X dX12_future_241 rfl ?_
  refine j_irem (pc := 243) X dX12_future_243 hF (fun hF => ?_)
  refine j_iadd (pc := 244) X dX12_future_244 ?_
  refine j_iald (pc := 245) X dX12_future_245 (hz _ sh_57) hF (fun hF => ?_)
  refine j_istore (pc := 246) (fun y => [(12, .int y), (11, .int v1), (0, .ref (Z.2.1 0)), (1, .int x1), (5, .int x5), (6, .int x6), (7, .int x7), (8, .int x8), (9, .int x9), (10, .int x10)]) X dX12_future_246 (by decide) (fun _ => rfl) hF (fun v2 hF => ?_)
  refine j_aload_n (pc := 248) 2 X dX12_future_248 rfl ?_
  refine j_getr (pc := 249) X dX12_future_249 (hz _ sh_0) fl_X12_185 rfl ?_
  refine j_bipush (pc := 252) 64 X dX12_future_252 rfl ?_
  refine j_iload (pc := 254) 1 X dX12_future_254 rfl ?_
  refine j_imul (pc := 256) X dX12_future_256 ?_
  refine j_iload (pc := 257) 0 X dX12_future_257 rfl ?_
  refine j_iadd (pc := 259) X dX12_future_259 ?_
  refine j_iconst (pc := 260) 1 X dX12_future_260 rfl ?_
  refine j_zast (pc := 261) X dX12_future_261 (hz _ sh_56) hF (fun h3 hF => ?_)
  refine j_iload (pc := 262) 8 X dX12_future_262 rfl ?_
  refine j_bipush (pc := 264) 64 X dX12_future_264 rfl ?_
  refine j_irem (pc := 266) X dX12_future_266 hF (fun hF => ?_)
  refine j_iload_n (pc := 267) 3 X dX12_future_267 rfl ?_
  refine j_ishr (pc := 268) X dX12_future_268 ?_
  refine j_iconst (pc := 269) 1 X dX12_future_269 rfl ?_
  refine j_iand (pc := 270) X dX12_future_270 ?_
  refine j_iconst (pc := 271) 1 X dX12_future_271 rfl ?_
  refine j_icmp_eq (pc := 272) 300 X dX12_future_272 rfl hF (fun hF => ?_) (fun hF => ?_)
  · refine j_lv [(0, .ref (Z.2.1 0)), (1, .int x1), (5, .int x5), (6, .int x6), (7, .int x7), (8, .int x8), (9, .int x9), (10, .int x10)] [2, 3, 4, 5, 6, 7, 8, 9] rfl ?_
    exact BX12_future_300 X E hz r129 hr129 r170 hr170 r194 hr194 x1 x5 x6 x7 x8 x9 x10 h3 hF
  · refine j_iload (pc := 275) 0 X dX12_future_275 rfl ?_
    refine j_iload_n (pc := 277) 3 X dX12_future_277 rfl ?_
    refine j_ishr (pc := 278) X dX12_future_278 ?_
    refine j_iconst (pc := 279) 1 X dX12_future_279 rfl ?_
    refine j_iand (pc := 280) X dX12_future_280 ?_
    refine j_if_ne (pc := 281) 287 X dX12_future_281 rfl hF (fun hF => ?_) (fun hF => ?_)
    · refine j_iload (pc := 287) 5 X dX12_future_287 rfl ?_
      refine j_if_ge (pc := 289) 296 X dX12_future_289 rfl hF (fun hF => ?_) (fun hF => ?_)
      · refine j_lv [(0, .ref (Z.2.1 0)), (1, .int x1), (5, .int x5), (6, .int x6), (8, .int x8), (9, .int x9), (10, .int x10)] [2, 3, 4, 5, 7, 8, 9] rfl ?_
        exact BX12_future_296 X E hz r129 hr129 r170 hr170 r194 hr194 x1 x5 x6 x8 x9 x10 h3 hF
      · refine j_iload (pc := 292) 7 X dX12_future_292 rfl ?_
        refine j_istore (pc := 294) (fun y => [(6, .int y), (12, .int v2), (11, .int v1), (0, .ref (Z.2.1 0)), (1, .int x1), (5, .int x5), (7, .int x7), (8, .int x8), (9, .int x9), (10, .int x10)]) X dX12_future_294 (by decide) (fun _ => rfl) hF (fun v4 hF => ?_)
        refine j_lv [(0, .ref (Z.2.1 0)), (1, .int x1), (5, .int x5), (6, .int v4), (8, .int x8), (9, .int x9), (10, .int x10)] [3, 4, 5, 0, 7, 8, 9] rfl ?_
        exact BX12_future_296 X E hz r129 hr129 r170 hr170 r194 hr194 x1 x5 v4 x8 x9 x10 h3 hF
    · refine j_goto (pc := 284) 300 X dX12_future_284 rfl ?_
      refine j_lv [(0, .ref (Z.2.1 0)), (1, .int x1), (5, .int x5), (6, .int x6), (7, .int x7), (8, .int x8), (9, .int x9), (10, .int x10)] [2, 3, 4, 5, 6, 7, 8, 9] rfl ?_
      exact BX12_future_300 X E hz r129 hr129 r170 hr170 r194 hr194 x1 x5 x6 x7 x8 x9 x10 h3 hF
def bX12_future_194  (r129 : Int32 → Int32 → Int32 → Int32 → Int32 → Hp → Option (Int32 × Hp)) (r170 : Int32 → Int32 → Int32 → Int32 → Int32 → Int32 → Hp → Option (Int32 × Hp)) (r194 : Int32 → Int32 → Int32 → Int32 → Int32 → Int32 → Int32 → Hp → Option (Int32 × Hp)) (x1 : Int32) (x5 : Int32) (x6 : Int32) (x7 : Int32) (x8 : Int32) (x9 : Int32) (x10 : Int32) (h : Hp) : Option (Int32 × Hp) := ck (inb (h.1 0 18) 2) ((if (h.1 11 (ix (h.1 0 18))) ≤ x10 then bX12_future_306 r129 r170 x1 x5 x6 x7 x8 x9 h else ck (nz 64) ((if x10 = (-1) then bX12_future_227 r129 r170 r194 x1 x5 x6 x7 x8 x9 x10 0 (x9 / 64) h else bX12_future_227 r129 r170 r194 x1 x5 x6 x7 x8 x9 x10 ((1 : Int32) <<< (x10 &&& 31)) (x9 / 64) h))))
def lX12_future_194  (r129 : Int32 → Int32 → Int32 → Int32 → Int32 → Hp → Option (Int32 × Hp)) (r170 : Int32 → Int32 → Int32 → Int32 → Int32 → Int32 → Hp → Option (Int32 × Hp)) : Nat → Int32 → Int32 → Int32 → Int32 → Int32 → Int32 → Int32 → Hp → Option (Int32 × Hp)
  | 0 => fun _ _ _ _ _ _ _ _ => none
  | n + 1 => bX12_future_194  r129 r170 (lX12_future_194  r129 r170 n)
set_option maxRecDepth 20000 in
theorem BX12_future_194 {Z : ZT} {G : GT} {r : Int32} {hr : Hp} (X : CX Z G cX12_future RX12 13 6) (E : RX Z G (some .int) (some (.int r)) hr) (hz : HZM Z) (r129 : Int32 → Int32 → Int32 → Int32 → Int32 → Hp → Option (Int32 × Hp)) (hr129 : ∀ (x1 : Int32) (x5 : Int32) (x6 : Int32) (x7 : Int32) (x8 : Int32) (h : Hp), r129 x1 x5 x6 x7 x8 h = some (r, hr) → J Z G 13 h 129 [(0, .ref (Z.2.1 0)), (1, .int x1), (5, .int x5), (6, .int x6), (7, .int x7), (8, .int x8)] []) (r170 : Int32 → Int32 → Int32 → Int32 → Int32 → Int32 → Hp → Option (Int32 × Hp)) (hr170 : ∀ (x1 : Int32) (x5 : Int32) (x6 : Int32) (x7 : Int32) (x8 : Int32) (x9 : Int32) (h : Hp), r170 x1 x5 x6 x7 x8 x9 h = some (r, hr) → J Z G 13 h 170 [(0, .ref (Z.2.1 0)), (1, .int x1), (5, .int x5), (6, .int x6), (7, .int x7), (8, .int x8), (9, .int x9)] []) (r194 : Int32 → Int32 → Int32 → Int32 → Int32 → Int32 → Int32 → Hp → Option (Int32 × Hp)) (hr194 : ∀ (x1 : Int32) (x5 : Int32) (x6 : Int32) (x7 : Int32) (x8 : Int32) (x9 : Int32) (x10 : Int32) (h : Hp), r194 x1 x5 x6 x7 x8 x9 x10 h = some (r, hr) → J Z G 13 h 194 [(0, .ref (Z.2.1 0)), (1, .int x1), (5, .int x5), (6, .int x6), (7, .int x7), (8, .int x8), (9, .int x9), (10, .int x10)] []) (x1 : Int32) (x5 : Int32) (x6 : Int32) (x7 : Int32) (x8 : Int32) (x9 : Int32) (x10 : Int32) (h : Hp) (hF : bX12_future_194  r129 r170 r194 x1 x5 x6 x7 x8 x9 x10 h = some (r, hr)) : J Z G 13 h 194 [(0, .ref (Z.2.1 0)), (1, .int x1), (5, .int x5), (6, .int x6), (7, .int x7), (8, .int x8), (9, .int x9), (10, .int x10)] [] := by
  unfold bX12_future_194 at hF
  refine j_iload (pc := 194) 7 X dX12_future_194 rfl ?_
  refine j_aload_n (pc := 196) 0 X dX12_future_196 rfl ?_
  refine j_getr (pc := 197) X dX12_future_197 (hz _ sh_0) fl_X12_49 rfl ?_
  refine j_aload_n (pc := 200) 0 X dX12_future_200 rfl ?_
  refine j_geti (pc := 201) X dX12_future_201 (hz _ sh_0) fl_X12_284 rfl ?_
  refine j_iald (pc := 204) X dX12_future_204 (hz _ sh_11) hF (fun hF => ?_)
  refine j_icmp_ge (pc := 205) 306 X dX12_future_205 rfl hF (fun hF => ?_) (fun hF => ?_)
  · refine j_lv [(0, .ref (Z.2.1 0)), (1, .int x1), (5, .int x5), (6, .int x6), (7, .int x7), (8, .int x8), (9, .int x9)] [0, 1, 2, 3, 4, 5, 6] rfl ?_
    exact BX12_future_306 X E hz r129 hr129 r170 hr170 x1 x5 x6 x7 x8 x9 h hF
  · refine j_iload (pc := 208) 6 X dX12_future_208 rfl ?_
    refine j_bipush (pc := 210) 64 X dX12_future_210 rfl ?_
    refine j_idiv (pc := 212) X dX12_future_212 hF (fun hF => ?_)
    refine j_iload (pc := 213) 7 X dX12_future_213 rfl ?_
    refine j_iconst (pc := 215) (-1) X dX12_future_215 rfl ?_
    refine j_icmp_ne (pc := 216) 223 X dX12_future_216 rfl hF (fun hF => ?_) (fun hF => ?_)
    · refine j_iconst (pc := 223) 1 X dX12_future_223 rfl ?_
      refine j_iload (pc := 224) 7 X dX12_future_224 rfl ?_
      refine j_ishl (pc := 226) X dX12_future_226 ?_
      exact BX12_future_227 X E hz r129 hr129 r170 hr170 r194 hr194 x1 x5 x6 x7 x8 x9 x10 ((1 : Int32) <<< (x10 &&& 31)) (x9 / 64) h hF
    · refine j_iconst (pc := 219) 0 X dX12_future_219 rfl ?_
      refine j_goto (pc := 220) 227 X dX12_future_220 rfl ?_
      exact BX12_future_227 X E hz r129 hr129 r170 hr170 r194 hr194 x1 x5 x6 x7 x8 x9 x10 0 (x9 / 64) h hF
theorem LX12_future_194 {Z : ZT} {G : GT} {r : Int32} {hr : Hp} (X : CX Z G cX12_future RX12 13 6) (E : RX Z G (some .int) (some (.int r)) hr) (hz : HZM Z) (r129 : Int32 → Int32 → Int32 → Int32 → Int32 → Hp → Option (Int32 × Hp)) (hr129 : ∀ (x1 : Int32) (x5 : Int32) (x6 : Int32) (x7 : Int32) (x8 : Int32) (h : Hp), r129 x1 x5 x6 x7 x8 h = some (r, hr) → J Z G 13 h 129 [(0, .ref (Z.2.1 0)), (1, .int x1), (5, .int x5), (6, .int x6), (7, .int x7), (8, .int x8)] []) (r170 : Int32 → Int32 → Int32 → Int32 → Int32 → Int32 → Hp → Option (Int32 × Hp)) (hr170 : ∀ (x1 : Int32) (x5 : Int32) (x6 : Int32) (x7 : Int32) (x8 : Int32) (x9 : Int32) (h : Hp), r170 x1 x5 x6 x7 x8 x9 h = some (r, hr) → J Z G 13 h 170 [(0, .ref (Z.2.1 0)), (1, .int x1), (5, .int x5), (6, .int x6), (7, .int x7), (8, .int x8), (9, .int x9)] []) : ∀ (n : Nat) (x1 : Int32) (x5 : Int32) (x6 : Int32) (x7 : Int32) (x8 : Int32) (x9 : Int32) (x10 : Int32) (h : Hp), lX12_future_194  r129 r170 n x1 x5 x6 x7 x8 x9 x10 h = some (r, hr) → J Z G 13 h 194 [(0, .ref (Z.2.1 0)), (1, .int x1), (5, .int x5), (6, .int x6), (7, .int x7), (8, .int x8), (9, .int x9), (10, .int x10)] [] := by
  intro n
  induction n with
  | zero => intro x1 x5 x6 x7 x8 x9 x10 h hF; cases hF
  | succ n ih => intro x1 x5 x6 x7 x8 x9 x10 h hF; exact BX12_future_194 X E hz r129 hr129 r170 hr170 (lX12_future_194  r129 r170 n) ih x1 x5 x6 x7 x8 x9 x10 h hF
def bX12_future_315  (r129 : Int32 → Int32 → Int32 → Int32 → Int32 → Hp → Option (Int32 × Hp)) (r315 : Int32 → Int32 → Int32 → Int32 → Int32 → Int32 → Hp → Option (Int32 × Hp)) (x1 : Int32) (x5 : Int32) (x6 : Int32) (x7 : Int32) (x8 : Int32) (x9 : Int32) (h : Hp) : Option (Int32 × Hp) := (if 2048 ≤ x9 then lt (x8 + 1) (fun v1 => r129 x1 x5 x6 x7 v1 h) else ck (inb x9 2048) (ck (inb x9 2048) (lt (wI h 55 (ix x9) (vp_nar .boolean (h.1 56 (ix x9)))) (fun h2 => lt (x9 + 1) (fun v3 => r315 x1 x5 x6 x7 x8 v3 h2)))))
def lX12_future_315  (r129 : Int32 → Int32 → Int32 → Int32 → Int32 → Hp → Option (Int32 × Hp)) : Nat → Int32 → Int32 → Int32 → Int32 → Int32 → Int32 → Hp → Option (Int32 × Hp)
  | 0 => fun _ _ _ _ _ _ _ => none
  | n + 1 => bX12_future_315  r129 (lX12_future_315  r129 n)
set_option maxRecDepth 20000 in
theorem BX12_future_315 {Z : ZT} {G : GT} {r : Int32} {hr : Hp} (X : CX Z G cX12_future RX12 13 6) (E : RX Z G (some .int) (some (.int r)) hr) (hz : HZM Z) (r129 : Int32 → Int32 → Int32 → Int32 → Int32 → Hp → Option (Int32 × Hp)) (hr129 : ∀ (x1 : Int32) (x5 : Int32) (x6 : Int32) (x7 : Int32) (x8 : Int32) (h : Hp), r129 x1 x5 x6 x7 x8 h = some (r, hr) → J Z G 13 h 129 [(0, .ref (Z.2.1 0)), (1, .int x1), (5, .int x5), (6, .int x6), (7, .int x7), (8, .int x8)] []) (r315 : Int32 → Int32 → Int32 → Int32 → Int32 → Int32 → Hp → Option (Int32 × Hp)) (hr315 : ∀ (x1 : Int32) (x5 : Int32) (x6 : Int32) (x7 : Int32) (x8 : Int32) (x9 : Int32) (h : Hp), r315 x1 x5 x6 x7 x8 x9 h = some (r, hr) → J Z G 13 h 315 [(0, .ref (Z.2.1 0)), (1, .int x1), (5, .int x5), (6, .int x6), (7, .int x7), (8, .int x8), (9, .int x9)] []) (x1 : Int32) (x5 : Int32) (x6 : Int32) (x7 : Int32) (x8 : Int32) (x9 : Int32) (h : Hp) (hF : bX12_future_315  r129 r315 x1 x5 x6 x7 x8 x9 h = some (r, hr)) : J Z G 13 h 315 [(0, .ref (Z.2.1 0)), (1, .int x1), (5, .int x5), (6, .int x6), (7, .int x7), (8, .int x8), (9, .int x9)] [] := by
  unfold bX12_future_315 at hF
  refine j_iload (pc := 315) 6 X dX12_future_315 rfl ?_
  refine j_sipush (pc := 317) 2048 X dX12_future_317 rfl ?_
  refine j_icmp_ge (pc := 320) 343 X dX12_future_320 rfl hF (fun hF => ?_) (fun hF => ?_)
  · refine j_iinc (pc := 343) 5 (x8 + 1) (fun y => [(8, .int y), (0, .ref (Z.2.1 0)), (1, .int x1), (5, .int x5), (6, .int x6), (7, .int x7), (9, .int x9)]) X dX12_future_343 rfl rfl (by decide) (fun _ => rfl) hF (fun v1 hF => ?_)
    refine j_goto (pc := 346) 129 X dX12_future_346 rfl ?_
    refine j_lv [(0, .ref (Z.2.1 0)), (1, .int x1), (5, .int x5), (6, .int x6), (7, .int x7), (8, .int v1)] [1, 2, 3, 4, 5, 0] rfl ?_
    exact hr129 x1 x5 x6 x7 v1 h hF
  · refine j_aload_n (pc := 323) 0 X dX12_future_323 rfl ?_
    refine j_getr (pc := 324) X dX12_future_324 (hz _ sh_0) fl_X12_182 rfl ?_
    refine j_iload (pc := 327) 6 X dX12_future_327 rfl ?_
    refine j_aload_n (pc := 329) 0 X dX12_future_329 rfl ?_
    refine j_getr (pc := 330) X dX12_future_330 (hz _ sh_0) fl_X12_185 rfl ?_
    refine j_iload (pc := 333) 6 X dX12_future_333 rfl ?_
    refine j_zald (pc := 335) X dX12_future_335 (hz _ sh_56) hF (fun hF => ?_)
    refine j_zast (pc := 336) X dX12_future_336 (hz _ sh_55) hF (fun h2 hF => ?_)
    refine j_iinc (pc := 337) 6 (x9 + 1) (fun y => [(9, .int y), (0, .ref (Z.2.1 0)), (1, .int x1), (5, .int x5), (6, .int x6), (7, .int x7), (8, .int x8)]) X dX12_future_337 rfl rfl (by decide) (fun _ => rfl) hF (fun v3 hF => ?_)
    refine j_goto (pc := 340) 315 X dX12_future_340 rfl ?_
    refine j_lv [(0, .ref (Z.2.1 0)), (1, .int x1), (5, .int x5), (6, .int x6), (7, .int x7), (8, .int x8), (9, .int v3)] [1, 2, 3, 4, 5, 6, 0] rfl ?_
    exact hr315 x1 x5 x6 x7 x8 v3 h2 hF
theorem LX12_future_315 {Z : ZT} {G : GT} {r : Int32} {hr : Hp} (X : CX Z G cX12_future RX12 13 6) (E : RX Z G (some .int) (some (.int r)) hr) (hz : HZM Z) (r129 : Int32 → Int32 → Int32 → Int32 → Int32 → Hp → Option (Int32 × Hp)) (hr129 : ∀ (x1 : Int32) (x5 : Int32) (x6 : Int32) (x7 : Int32) (x8 : Int32) (h : Hp), r129 x1 x5 x6 x7 x8 h = some (r, hr) → J Z G 13 h 129 [(0, .ref (Z.2.1 0)), (1, .int x1), (5, .int x5), (6, .int x6), (7, .int x7), (8, .int x8)] []) : ∀ (n : Nat) (x1 : Int32) (x5 : Int32) (x6 : Int32) (x7 : Int32) (x8 : Int32) (x9 : Int32) (h : Hp), lX12_future_315  r129 n x1 x5 x6 x7 x8 x9 h = some (r, hr) → J Z G 13 h 315 [(0, .ref (Z.2.1 0)), (1, .int x1), (5, .int x5), (6, .int x6), (7, .int x7), (8, .int x8), (9, .int x9)] [] := by
  intro n
  induction n with
  | zero => intro x1 x5 x6 x7 x8 x9 h hF; cases hF
  | succ n ih => intro x1 x5 x6 x7 x8 x9 h hF; exact BX12_future_315 X E hz r129 hr129 (lX12_future_315  r129 n) ih x1 x5 x6 x7 x8 x9 h hF
def bX12_future_170  (r129 : Int32 → Int32 → Int32 → Int32 → Int32 → Hp → Option (Int32 × Hp)) (r170 : Int32 → Int32 → Int32 → Int32 → Int32 → Int32 → Hp → Option (Int32 × Hp)) (x1 : Int32) (x5 : Int32) (x6 : Int32) (x7 : Int32) (x8 : Int32) (x9 : Int32) (h : Hp) : Option (Int32 × Hp) := (if 2048 ≤ x9 then lt 0 (fun v1 => lX12_future_315 r129 FU x1 x5 x6 x7 x8 v1 h) else ck (inb x9 2048) ((if (h.1 55 (ix x9)) = 0 then bX12_future_306 r129 r170 x1 x5 x6 x7 x8 x9 h else lt (-1) (fun v2 => lX12_future_194 r129 r170 FU x1 x5 x6 x7 x8 x9 v2 h))))
def lX12_future_170  (r129 : Int32 → Int32 → Int32 → Int32 → Int32 → Hp → Option (Int32 × Hp)) : Nat → Int32 → Int32 → Int32 → Int32 → Int32 → Int32 → Hp → Option (Int32 × Hp)
  | 0 => fun _ _ _ _ _ _ _ => none
  | n + 1 => bX12_future_170  r129 (lX12_future_170  r129 n)
set_option maxRecDepth 20000 in
theorem BX12_future_170 {Z : ZT} {G : GT} {r : Int32} {hr : Hp} (X : CX Z G cX12_future RX12 13 6) (E : RX Z G (some .int) (some (.int r)) hr) (hz : HZM Z) (r129 : Int32 → Int32 → Int32 → Int32 → Int32 → Hp → Option (Int32 × Hp)) (hr129 : ∀ (x1 : Int32) (x5 : Int32) (x6 : Int32) (x7 : Int32) (x8 : Int32) (h : Hp), r129 x1 x5 x6 x7 x8 h = some (r, hr) → J Z G 13 h 129 [(0, .ref (Z.2.1 0)), (1, .int x1), (5, .int x5), (6, .int x6), (7, .int x7), (8, .int x8)] []) (r170 : Int32 → Int32 → Int32 → Int32 → Int32 → Int32 → Hp → Option (Int32 × Hp)) (hr170 : ∀ (x1 : Int32) (x5 : Int32) (x6 : Int32) (x7 : Int32) (x8 : Int32) (x9 : Int32) (h : Hp), r170 x1 x5 x6 x7 x8 x9 h = some (r, hr) → J Z G 13 h 170 [(0, .ref (Z.2.1 0)), (1, .int x1), (5, .int x5), (6, .int x6), (7, .int x7), (8, .int x8), (9, .int x9)] []) (x1 : Int32) (x5 : Int32) (x6 : Int32) (x7 : Int32) (x8 : Int32) (x9 : Int32) (h : Hp) (hF : bX12_future_170  r129 r170 x1 x5 x6 x7 x8 x9 h = some (r, hr)) : J Z G 13 h 170 [(0, .ref (Z.2.1 0)), (1, .int x1), (5, .int x5), (6, .int x6), (7, .int x7), (8, .int x8), (9, .int x9)] [] := by
  unfold bX12_future_170 at hF
  refine j_iload (pc := 170) 6 X dX12_future_170 rfl ?_
  refine j_sipush (pc := 172) 2048 X dX12_future_172 rfl ?_
  refine j_icmp_ge (pc := 175) 312 X dX12_future_175 rfl hF (fun hF => ?_) (fun hF => ?_)
  · refine j_iconst (pc := 312) 0 X dX12_future_312 rfl ?_
    refine j_istore (pc := 313) (fun y => [(9, .int y), (0, .ref (Z.2.1 0)), (1, .int x1), (5, .int x5), (6, .int x6), (7, .int x7), (8, .int x8)]) X dX12_future_313 (by decide) (fun _ => rfl) hF (fun v1 hF => ?_)
    refine j_lv [(0, .ref (Z.2.1 0)), (1, .int x1), (5, .int x5), (6, .int x6), (7, .int x7), (8, .int x8), (9, .int v1)] [1, 2, 3, 4, 5, 6, 0] rfl ?_
    exact LX12_future_315 X E hz r129 hr129 FU x1 x5 x6 x7 x8 v1 h hF
  · refine j_aload_n (pc := 178) 0 X dX12_future_178 rfl ?_
    refine j_getr (pc := 179) X dX12_future_179 (hz _ sh_0) fl_X12_182 rfl ?_
    refine j_iload (pc := 182) 6 X dX12_future_182 rfl ?_
    refine j_zald (pc := 184) X dX12_future_184 (hz _ sh_55) hF (fun hF => ?_)
    refine j_if_ne (pc := 185) 191 X dX12_future_185 rfl hF (fun hF => ?_) (fun hF => ?_)
    · refine j_iconst (pc := 191) (-1) X dX12_future_191 rfl ?_
      refine j_istore (pc := 192) (fun y => [(10, .int y), (0, .ref (Z.2.1 0)), (1, .int x1), (5, .int x5), (6, .int x6), (7, .int x7), (8, .int x8), (9, .int x9)]) X dX12_future_192 (by decide) (fun _ => rfl) hF (fun v2 hF => ?_)
      refine j_lv [(0, .ref (Z.2.1 0)), (1, .int x1), (5, .int x5), (6, .int x6), (7, .int x7), (8, .int x8), (9, .int x9), (10, .int v2)] [1, 2, 3, 4, 5, 6, 7, 0] rfl ?_
      exact LX12_future_194 X E hz r129 hr129 r170 hr170 FU x1 x5 x6 x7 x8 x9 v2 h hF
    · refine j_goto (pc := 188) 306 X dX12_future_188 rfl ?_
      exact BX12_future_306 X E hz r129 hr129 r170 hr170 x1 x5 x6 x7 x8 x9 h hF
theorem LX12_future_170 {Z : ZT} {G : GT} {r : Int32} {hr : Hp} (X : CX Z G cX12_future RX12 13 6) (E : RX Z G (some .int) (some (.int r)) hr) (hz : HZM Z) (r129 : Int32 → Int32 → Int32 → Int32 → Int32 → Hp → Option (Int32 × Hp)) (hr129 : ∀ (x1 : Int32) (x5 : Int32) (x6 : Int32) (x7 : Int32) (x8 : Int32) (h : Hp), r129 x1 x5 x6 x7 x8 h = some (r, hr) → J Z G 13 h 129 [(0, .ref (Z.2.1 0)), (1, .int x1), (5, .int x5), (6, .int x6), (7, .int x7), (8, .int x8)] []) : ∀ (n : Nat) (x1 : Int32) (x5 : Int32) (x6 : Int32) (x7 : Int32) (x8 : Int32) (x9 : Int32) (h : Hp), lX12_future_170  r129 n x1 x5 x6 x7 x8 x9 h = some (r, hr) → J Z G 13 h 170 [(0, .ref (Z.2.1 0)), (1, .int x1), (5, .int x5), (6, .int x6), (7, .int x7), (8, .int x8), (9, .int x9)] [] := by
  intro n
  induction n with
  | zero => intro x1 x5 x6 x7 x8 x9 h hF; cases hF
  | succ n ih => intro x1 x5 x6 x7 x8 x9 h hF; exact BX12_future_170 X E hz r129 hr129 (lX12_future_170  r129 n) ih x1 x5 x6 x7 x8 x9 h hF
def bX12_future_145  (r129 : Int32 → Int32 → Int32 → Int32 → Int32 → Hp → Option (Int32 × Hp)) (r145 : Int32 → Int32 → Int32 → Int32 → Int32 → Int32 → Hp → Option (Int32 × Hp)) (x1 : Int32) (x5 : Int32) (x6 : Int32) (x7 : Int32) (x8 : Int32) (x9 : Int32) (h : Hp) : Option (Int32 × Hp) := (if 2048 ≤ x9 then lt 0 (fun v1 => lX12_future_170 r129 FU x1 x5 x6 x7 x8 v1 h) else ck (inb x9 2048) (lt (wI h 56 (ix x9) (vp_nar .boolean 0)) (fun h2 => lt (x9 + 1) (fun v3 => r145 x1 x5 x6 x7 x8 v3 h2))))
def lX12_future_145  (r129 : Int32 → Int32 → Int32 → Int32 → Int32 → Hp → Option (Int32 × Hp)) : Nat → Int32 → Int32 → Int32 → Int32 → Int32 → Int32 → Hp → Option (Int32 × Hp)
  | 0 => fun _ _ _ _ _ _ _ => none
  | n + 1 => bX12_future_145  r129 (lX12_future_145  r129 n)
set_option maxRecDepth 20000 in
theorem BX12_future_145 {Z : ZT} {G : GT} {r : Int32} {hr : Hp} (X : CX Z G cX12_future RX12 13 6) (E : RX Z G (some .int) (some (.int r)) hr) (hz : HZM Z) (r129 : Int32 → Int32 → Int32 → Int32 → Int32 → Hp → Option (Int32 × Hp)) (hr129 : ∀ (x1 : Int32) (x5 : Int32) (x6 : Int32) (x7 : Int32) (x8 : Int32) (h : Hp), r129 x1 x5 x6 x7 x8 h = some (r, hr) → J Z G 13 h 129 [(0, .ref (Z.2.1 0)), (1, .int x1), (5, .int x5), (6, .int x6), (7, .int x7), (8, .int x8)] []) (r145 : Int32 → Int32 → Int32 → Int32 → Int32 → Int32 → Hp → Option (Int32 × Hp)) (hr145 : ∀ (x1 : Int32) (x5 : Int32) (x6 : Int32) (x7 : Int32) (x8 : Int32) (x9 : Int32) (h : Hp), r145 x1 x5 x6 x7 x8 x9 h = some (r, hr) → J Z G 13 h 145 [(0, .ref (Z.2.1 0)), (1, .int x1), (5, .int x5), (6, .int x6), (7, .int x7), (8, .int x8), (9, .int x9)] []) (x1 : Int32) (x5 : Int32) (x6 : Int32) (x7 : Int32) (x8 : Int32) (x9 : Int32) (h : Hp) (hF : bX12_future_145  r129 r145 x1 x5 x6 x7 x8 x9 h = some (r, hr)) : J Z G 13 h 145 [(0, .ref (Z.2.1 0)), (1, .int x1), (5, .int x5), (6, .int x6), (7, .int x7), (8, .int x8), (9, .int x9)] [] := by
  unfold bX12_future_145 at hF
  refine j_iload (pc := 145) 6 X dX12_future_145 rfl ?_
  refine j_sipush (pc := 147) 2048 X dX12_future_147 rfl ?_
  refine j_icmp_ge (pc := 150) 167 X dX12_future_150 rfl hF (fun hF => ?_) (fun hF => ?_)
  · refine j_iconst (pc := 167) 0 X dX12_future_167 rfl ?_
    refine j_istore (pc := 168) (fun y => [(9, .int y), (0, .ref (Z.2.1 0)), (1, .int x1), (5, .int x5), (6, .int x6), (7, .int x7), (8, .int x8)]) X dX12_future_168 (by decide) (fun _ => rfl) hF (fun v1 hF => ?_)
    refine j_lv [(0, .ref (Z.2.1 0)), (1, .int x1), (5, .int x5), (6, .int x6), (7, .int x7), (8, .int x8), (9, .int v1)] [1, 2, 3, 4, 5, 6, 0] rfl ?_
    exact LX12_future_170 X E hz r129 hr129 FU x1 x5 x6 x7 x8 v1 h hF
  · refine j_aload_n (pc := 153) 0 X dX12_future_153 rfl ?_
    refine j_getr (pc := 154) X dX12_future_154 (hz _ sh_0) fl_X12_185 rfl ?_
    refine j_iload (pc := 157) 6 X dX12_future_157 rfl ?_
    refine j_iconst (pc := 159) 0 X dX12_future_159 rfl ?_
    refine j_zast (pc := 160) X dX12_future_160 (hz _ sh_56) hF (fun h2 hF => ?_)
    refine j_iinc (pc := 161) 6 (x9 + 1) (fun y => [(9, .int y), (0, .ref (Z.2.1 0)), (1, .int x1), (5, .int x5), (6, .int x6), (7, .int x7), (8, .int x8)]) X dX12_future_161 rfl rfl (by decide) (fun _ => rfl) hF (fun v3 hF => ?_)
    refine j_goto (pc := 164) 145 X dX12_future_164 rfl ?_
    refine j_lv [(0, .ref (Z.2.1 0)), (1, .int x1), (5, .int x5), (6, .int x6), (7, .int x7), (8, .int x8), (9, .int v3)] [1, 2, 3, 4, 5, 6, 0] rfl ?_
    exact hr145 x1 x5 x6 x7 x8 v3 h2 hF
theorem LX12_future_145 {Z : ZT} {G : GT} {r : Int32} {hr : Hp} (X : CX Z G cX12_future RX12 13 6) (E : RX Z G (some .int) (some (.int r)) hr) (hz : HZM Z) (r129 : Int32 → Int32 → Int32 → Int32 → Int32 → Hp → Option (Int32 × Hp)) (hr129 : ∀ (x1 : Int32) (x5 : Int32) (x6 : Int32) (x7 : Int32) (x8 : Int32) (h : Hp), r129 x1 x5 x6 x7 x8 h = some (r, hr) → J Z G 13 h 129 [(0, .ref (Z.2.1 0)), (1, .int x1), (5, .int x5), (6, .int x6), (7, .int x7), (8, .int x8)] []) : ∀ (n : Nat) (x1 : Int32) (x5 : Int32) (x6 : Int32) (x7 : Int32) (x8 : Int32) (x9 : Int32) (h : Hp), lX12_future_145  r129 n x1 x5 x6 x7 x8 x9 h = some (r, hr) → J Z G 13 h 145 [(0, .ref (Z.2.1 0)), (1, .int x1), (5, .int x5), (6, .int x6), (7, .int x7), (8, .int x8), (9, .int x9)] [] := by
  intro n
  induction n with
  | zero => intro x1 x5 x6 x7 x8 x9 h hF; cases hF
  | succ n ih => intro x1 x5 x6 x7 x8 x9 h hF; exact BX12_future_145 X E hz r129 hr129 (lX12_future_145  r129 n) ih x1 x5 x6 x7 x8 x9 h hF
def bX12_future_388  (r355 : Int32 → Int32 → Int32 → Int32 → Int32 → Int32 → Hp → Option (Int32 × Hp)) (x1 : Int32) (x5 : Int32) (x6 : Int32) (x7 : Int32) (x8 : Int32) (x9 : Int32) (h : Hp) : Option (Int32 × Hp) := lt (x9 + 1) (fun v1 => r355 x1 x5 x6 x7 x8 v1 h)
set_option maxRecDepth 20000 in
theorem BX12_future_388 {Z : ZT} {G : GT} {r : Int32} {hr : Hp} (X : CX Z G cX12_future RX12 13 6) (E : RX Z G (some .int) (some (.int r)) hr) (hz : HZM Z) (r355 : Int32 → Int32 → Int32 → Int32 → Int32 → Int32 → Hp → Option (Int32 × Hp)) (hr355 : ∀ (x1 : Int32) (x5 : Int32) (x6 : Int32) (x7 : Int32) (x8 : Int32) (x9 : Int32) (h : Hp), r355 x1 x5 x6 x7 x8 x9 h = some (r, hr) → J Z G 13 h 355 [(0, .ref (Z.2.1 0)), (1, .int x1), (5, .int x5), (6, .int x6), (7, .int x7), (8, .int x8), (9, .int x9)] []) (x1 : Int32) (x5 : Int32) (x6 : Int32) (x7 : Int32) (x8 : Int32) (x9 : Int32) (h : Hp) (hF : bX12_future_388  r355 x1 x5 x6 x7 x8 x9 h = some (r, hr)) : J Z G 13 h 388 [(0, .ref (Z.2.1 0)), (1, .int x1), (5, .int x5), (6, .int x6), (7, .int x7), (8, .int x8), (9, .int x9)] [] := by
  unfold bX12_future_388 at hF
  refine j_iinc (pc := 388) 6 (x9 + 1) (fun y => [(9, .int y), (0, .ref (Z.2.1 0)), (1, .int x1), (5, .int x5), (6, .int x6), (7, .int x7), (8, .int x8)]) X dX12_future_388 rfl rfl (by decide) (fun _ => rfl) hF (fun v1 hF => ?_)
  refine j_goto (pc := 391) 355 X dX12_future_391 rfl ?_
  refine j_lv [(0, .ref (Z.2.1 0)), (1, .int x1), (5, .int x5), (6, .int x6), (7, .int x7), (8, .int x8), (9, .int v1)] [1, 2, 3, 4, 5, 6, 0] rfl ?_
  exact hr355 x1 x5 x6 x7 x8 v1 h hF
def bX12_future_355   (r355 : Int32 → Int32 → Int32 → Int32 → Int32 → Int32 → Hp → Option (Int32 × Hp)) (x1 : Int32) (x5 : Int32) (x6 : Int32) (x7 : Int32) (x8 : Int32) (x9 : Int32) (h : Hp) : Option (Int32 × Hp) := (if 2048 ≤ x9 then (if x5 = 0 then some (x6, h) else (if x5 = 1 then some (x7, h) else some (x8, h))) else ck (inb x9 2048) ((if (h.1 55 (ix x9)) = 0 then bX12_future_388 r355 x1 x5 x6 x7 x8 x9 h else ck (nz 64) ((if (((x9 - x9 / 64 * 64) >>> (x1 &&& 31)) &&& 1) = 0 then lt 0 (fun v1 => bX12_future_388 r355 x1 x5 x6 x7 v1 x9 h) else bX12_future_388 r355 x1 x5 x6 x7 x8 x9 h)))))
def lX12_future_355   : Nat → Int32 → Int32 → Int32 → Int32 → Int32 → Int32 → Hp → Option (Int32 × Hp)
  | 0 => fun _ _ _ _ _ _ _ => none
  | n + 1 => bX12_future_355   (lX12_future_355   n)
set_option maxRecDepth 20000 in
theorem BX12_future_355 {Z : ZT} {G : GT} {r : Int32} {hr : Hp} (X : CX Z G cX12_future RX12 13 6) (E : RX Z G (some .int) (some (.int r)) hr) (hz : HZM Z)  (r355 : Int32 → Int32 → Int32 → Int32 → Int32 → Int32 → Hp → Option (Int32 × Hp)) (hr355 : ∀ (x1 : Int32) (x5 : Int32) (x6 : Int32) (x7 : Int32) (x8 : Int32) (x9 : Int32) (h : Hp), r355 x1 x5 x6 x7 x8 x9 h = some (r, hr) → J Z G 13 h 355 [(0, .ref (Z.2.1 0)), (1, .int x1), (5, .int x5), (6, .int x6), (7, .int x7), (8, .int x8), (9, .int x9)] []) (x1 : Int32) (x5 : Int32) (x6 : Int32) (x7 : Int32) (x8 : Int32) (x9 : Int32) (h : Hp) (hF : bX12_future_355   r355 x1 x5 x6 x7 x8 x9 h = some (r, hr)) : J Z G 13 h 355 [(0, .ref (Z.2.1 0)), (1, .int x1), (5, .int x5), (6, .int x6), (7, .int x7), (8, .int x8), (9, .int x9)] [] := by
  unfold bX12_future_355 at hF
  refine j_iload (pc := 355) 6 X dX12_future_355 rfl ?_
  refine j_sipush (pc := 357) 2048 X dX12_future_357 rfl ?_
  refine j_icmp_ge (pc := 360) 394 X dX12_future_360 rfl hF (fun hF => ?_) (fun hF => ?_)
  · refine j_iload (pc := 394) 2 X dX12_future_394 rfl ?_
    refine j_if_ne (pc := 396) 404 X dX12_future_396 rfl hF (fun hF => ?_) (fun hF => ?_)
    · refine j_iload (pc := 404) 2 X dX12_future_404 rfl ?_
      refine j_iconst (pc := 406) 1 X dX12_future_406 rfl ?_
      refine j_icmp_ne (pc := 407) 415 X dX12_future_407 rfl hF (fun hF => ?_) (fun hF => ?_)
      · refine j_iload (pc := 415) 5 X dX12_future_415 rfl ?_
        exact j_iret (pc := 417) X E dX12_future_417 hF
      · refine j_iload (pc := 410) 4 X dX12_future_410 rfl ?_
        refine j_goto (pc := 412) 417 X dX12_future_412 rfl ?_
        exact j_iret (pc := 417) X E dX12_future_417 hF
    · refine j_iload (pc := 399) 3 X dX12_future_399 rfl ?_
      refine j_goto (pc := 401) 417 X dX12_future_401 rfl ?_
      exact j_iret (pc := 417) X E dX12_future_417 hF
  · refine j_aload_n (pc := 363) 0 X dX12_future_363 rfl ?_
    refine j_getr (pc := 364) X dX12_future_364 (hz _ sh_0) fl_X12_182 rfl ?_
    refine j_iload (pc := 367) 6 X dX12_future_367 rfl ?_
    refine j_zald (pc := 369) X dX12_future_369 (hz _ sh_55) hF (fun hF => ?_)
    refine j_if_eq (pc := 370) 388 X dX12_future_370 rfl hF (fun hF => ?_) (fun hF => ?_)
    · exact BX12_future_388 X E hz r355 hr355 x1 x5 x6 x7 x8 x9 h hF
    · refine j_iload (pc := 373) 6 X dX12_future_373 rfl ?_
      refine j_bipush (pc := 375) 64 X dX12_future_375 rfl ?_
      refine j_irem (pc := 377) X dX12_future_377 hF (fun hF => ?_)
      refine j_iload_n (pc := 378) 1 X dX12_future_378 rfl ?_
      refine j_ishr (pc := 379) X dX12_future_379 ?_
      refine j_iconst (pc := 380) 1 X dX12_future_380 rfl ?_
      refine j_iand (pc := 381) X dX12_future_381 ?_
      refine j_if_ne (pc := 382) 388 X dX12_future_382 rfl hF (fun hF => ?_) (fun hF => ?_)
      · exact BX12_future_388 X E hz r355 hr355 x1 x5 x6 x7 x8 x9 h hF
      · refine j_iconst (pc := 385) 0 X dX12_future_385 rfl ?_
        refine j_istore (pc := 386) (fun y => [(8, .int y), (0, .ref (Z.2.1 0)), (1, .int x1), (5, .int x5), (6, .int x6), (7, .int x7), (9, .int x9)]) X dX12_future_386 (by decide) (fun _ => rfl) hF (fun v1 hF => ?_)
        refine j_lv [(0, .ref (Z.2.1 0)), (1, .int x1), (5, .int x5), (6, .int x6), (7, .int x7), (8, .int v1), (9, .int x9)] [1, 2, 3, 4, 5, 0, 6] rfl ?_
        exact BX12_future_388 X E hz r355 hr355 x1 x5 x6 x7 v1 x9 h hF
theorem LX12_future_355 {Z : ZT} {G : GT} {r : Int32} {hr : Hp} (X : CX Z G cX12_future RX12 13 6) (E : RX Z G (some .int) (some (.int r)) hr) (hz : HZM Z)  : ∀ (n : Nat) (x1 : Int32) (x5 : Int32) (x6 : Int32) (x7 : Int32) (x8 : Int32) (x9 : Int32) (h : Hp), lX12_future_355   n x1 x5 x6 x7 x8 x9 h = some (r, hr) → J Z G 13 h 355 [(0, .ref (Z.2.1 0)), (1, .int x1), (5, .int x5), (6, .int x6), (7, .int x7), (8, .int x8), (9, .int x9)] [] := by
  intro n
  induction n with
  | zero => intro x1 x5 x6 x7 x8 x9 h hF; cases hF
  | succ n ih => intro x1 x5 x6 x7 x8 x9 h hF; exact BX12_future_355 X E hz  (lX12_future_355   n) ih x1 x5 x6 x7 x8 x9 h hF
def bX12_future_129   (r129 : Int32 → Int32 → Int32 → Int32 → Int32 → Hp → Option (Int32 × Hp)) (x1 : Int32) (x5 : Int32) (x6 : Int32) (x7 : Int32) (x8 : Int32) (h : Hp) : Option (Int32 × Hp) := (if 60 ≤ x8 then lt 1 (fun v1 => lt 0 (fun v2 => lX12_future_355 FU x1 x5 x6 x7 v1 v2 h)) else bv (fX12_fillLooks x8 h) (fun h3 => lt 0 (fun v4 => lX12_future_145 r129 FU x1 x5 x6 x7 x8 v4 h3)))
def lX12_future_129   : Nat → Int32 → Int32 → Int32 → Int32 → Int32 → Hp → Option (Int32 × Hp)
  | 0 => fun _ _ _ _ _ _ => none
  | n + 1 => bX12_future_129   (lX12_future_129   n)
set_option maxRecDepth 20000 in
theorem BX12_future_129 {Z : ZT} {G : GT} {r : Int32} {hr : Hp} (X : CX Z G cX12_future RX12 13 6) (E : RX Z G (some .int) (some (.int r)) hr) (hz : HZM Z)  (r129 : Int32 → Int32 → Int32 → Int32 → Int32 → Hp → Option (Int32 × Hp)) (hr129 : ∀ (x1 : Int32) (x5 : Int32) (x6 : Int32) (x7 : Int32) (x8 : Int32) (h : Hp), r129 x1 x5 x6 x7 x8 h = some (r, hr) → J Z G 13 h 129 [(0, .ref (Z.2.1 0)), (1, .int x1), (5, .int x5), (6, .int x6), (7, .int x7), (8, .int x8)] []) (x1 : Int32) (x5 : Int32) (x6 : Int32) (x7 : Int32) (x8 : Int32) (h : Hp) (hF : bX12_future_129   r129 x1 x5 x6 x7 x8 h = some (r, hr)) : J Z G 13 h 129 [(0, .ref (Z.2.1 0)), (1, .int x1), (5, .int x5), (6, .int x6), (7, .int x7), (8, .int x8)] [] := by
  unfold bX12_future_129 at hF
  refine j_iload (pc := 129) 5 X dX12_future_129 rfl ?_
  refine j_bipush (pc := 131) 60 X dX12_future_131 rfl ?_
  refine j_icmp_ge (pc := 133) 349 X dX12_future_133 rfl hF (fun hF => ?_) (fun hF => ?_)
  · refine j_iconst (pc := 349) 1 X dX12_future_349 rfl ?_
    refine j_istore (pc := 350) (fun y => [(8, .int y), (0, .ref (Z.2.1 0)), (1, .int x1), (5, .int x5), (6, .int x6), (7, .int x7)]) X dX12_future_350 (by decide) (fun _ => rfl) hF (fun v1 hF => ?_)
    refine j_iconst (pc := 352) 0 X dX12_future_352 rfl ?_
    refine j_istore (pc := 353) (fun y => [(9, .int y), (8, .int v1), (0, .ref (Z.2.1 0)), (1, .int x1), (5, .int x5), (6, .int x6), (7, .int x7)]) X dX12_future_353 (by decide) (fun _ => rfl) hF (fun v2 hF => ?_)
    refine j_lv [(0, .ref (Z.2.1 0)), (1, .int x1), (5, .int x5), (6, .int x6), (7, .int x7), (8, .int v1), (9, .int v2)] [2, 3, 4, 5, 6, 1, 0] rfl ?_
    exact LX12_future_355 X E hz FU x1 x5 x6 x7 v1 v2 h hF
  · refine j_aload_n (pc := 136) 0 X dX12_future_136 rfl ?_
    refine j_iload (pc := 137) 5 X dX12_future_137 rfl ?_
    refine j_cVv (pc := 139) (As := [.int x8]) (rest := []) X dX12_future_139 ml_X12_537 ck_X12_fillLooks cv_X12_fillLooks (hz _ sh_0) rfl (Nat.le_of_ble_eq_true rfl) rfl (Nat.le_of_ble_eq_true rfl) rfl hF (tX12_fillLooks Z x8 hz h) (fun h3 hF => ?_)
    refine j_iconst (pc := 142) 0 X dX12_future_142 rfl ?_
    refine j_istore (pc := 143) (fun y => [(9, .int y), (0, .ref (Z.2.1 0)), (1, .int x1), (5, .int x5), (6, .int x6), (7, .int x7), (8, .int x8)]) X dX12_future_143 (by decide) (fun _ => rfl) hF (fun v4 hF => ?_)
    refine j_lv [(0, .ref (Z.2.1 0)), (1, .int x1), (5, .int x5), (6, .int x6), (7, .int x7), (8, .int x8), (9, .int v4)] [1, 2, 3, 4, 5, 6, 0] rfl ?_
    exact LX12_future_145 X E hz r129 hr129 FU x1 x5 x6 x7 x8 v4 h3 hF
theorem LX12_future_129 {Z : ZT} {G : GT} {r : Int32} {hr : Hp} (X : CX Z G cX12_future RX12 13 6) (E : RX Z G (some .int) (some (.int r)) hr) (hz : HZM Z)  : ∀ (n : Nat) (x1 : Int32) (x5 : Int32) (x6 : Int32) (x7 : Int32) (x8 : Int32) (h : Hp), lX12_future_129   n x1 x5 x6 x7 x8 h = some (r, hr) → J Z G 13 h 129 [(0, .ref (Z.2.1 0)), (1, .int x1), (5, .int x5), (6, .int x6), (7, .int x7), (8, .int x8)] [] := by
  intro n
  induction n with
  | zero => intro x1 x5 x6 x7 x8 h hF; cases hF
  | succ n ih => intro x1 x5 x6 x7 x8 h hF; exact BX12_future_129 X E hz  (lX12_future_129   n) ih x1 x5 x6 x7 x8 h hF
def bX12_future_88   (r88 : Int32 → Int32 → Int32 → Int32 → Int32 → Int32 → Int32 → Int32 → Hp → Option (Int32 × Hp)) (x1 : Int32) (x2 : Int32) (x3 : Int32) (x4 : Int32) (x5 : Int32) (x6 : Int32) (x7 : Int32) (x8 : Int32) (h : Hp) : Option (Int32 × Hp) := (if 2048 ≤ x8 then lt x2 (fun v1 => lX12_future_129 FU x1 x5 x6 x7 v1 h) else (if x8 = (((64 : Int32) * x3) + x4) then bX12_future_119 r88 x1 x2 x3 x4 x5 x6 x7 x8 1 x8 h else bX12_future_119 r88 x1 x2 x3 x4 x5 x6 x7 x8 0 x8 h))
def lX12_future_88   : Nat → Int32 → Int32 → Int32 → Int32 → Int32 → Int32 → Int32 → Int32 → Hp → Option (Int32 × Hp)
  | 0 => fun _ _ _ _ _ _ _ _ _ => none
  | n + 1 => bX12_future_88   (lX12_future_88   n)
set_option maxRecDepth 20000 in
theorem BX12_future_88 {Z : ZT} {G : GT} {r : Int32} {hr : Hp} (X : CX Z G cX12_future RX12 13 6) (E : RX Z G (some .int) (some (.int r)) hr) (hz : HZM Z)  (r88 : Int32 → Int32 → Int32 → Int32 → Int32 → Int32 → Int32 → Int32 → Hp → Option (Int32 × Hp)) (hr88 : ∀ (x1 : Int32) (x2 : Int32) (x3 : Int32) (x4 : Int32) (x5 : Int32) (x6 : Int32) (x7 : Int32) (x8 : Int32) (h : Hp), r88 x1 x2 x3 x4 x5 x6 x7 x8 h = some (r, hr) → J Z G 13 h 88 [(0, .ref (Z.2.1 0)), (1, .int x1), (2, .int x2), (3, .int x3), (4, .int x4), (5, .int x5), (6, .int x6), (7, .int x7), (8, .int x8)] []) (x1 : Int32) (x2 : Int32) (x3 : Int32) (x4 : Int32) (x5 : Int32) (x6 : Int32) (x7 : Int32) (x8 : Int32) (h : Hp) (hF : bX12_future_88   r88 x1 x2 x3 x4 x5 x6 x7 x8 h = some (r, hr)) : J Z G 13 h 88 [(0, .ref (Z.2.1 0)), (1, .int x1), (2, .int x2), (3, .int x3), (4, .int x4), (5, .int x5), (6, .int x6), (7, .int x7), (8, .int x8)] [] := by
  unfold bX12_future_88 at hF
  refine j_iload (pc := 88) 8 X dX12_future_88 rfl ?_
  refine j_sipush (pc := 90) 2048 X dX12_future_90 rfl ?_
  refine j_icmp_ge (pc := 93) 126 X dX12_future_93 rfl hF (fun hF => ?_) (fun hF => ?_)
  · refine j_iload_n (pc := 126) 2 X dX12_future_126 rfl ?_
    refine j_istore (pc := 127) (fun y => [(8, .int y), (0, .ref (Z.2.1 0)), (1, .int x1), (2, .int x2), (3, .int x3), (4, .int x4), (5, .int x5), (6, .int x6), (7, .int x7)]) X dX12_future_127 (by decide) (fun _ => rfl) hF (fun v1 hF => ?_)
    refine j_lv [(0, .ref (Z.2.1 0)), (1, .int x1), (5, .int x5), (6, .int x6), (7, .int x7), (8, .int v1)] [1, 2, 6, 7, 8, 0] rfl ?_
    exact LX12_future_129 X E hz FU x1 x5 x6 x7 v1 h hF
  · refine j_aload_n (pc := 96) 0 X dX12_future_96 rfl ?_
    refine j_getr (pc := 97) X dX12_future_97 (hz _ sh_0) fl_X12_182 rfl ?_
    refine j_iload (pc := 100) 8 X dX12_future_100 rfl ?_
    refine j_iload (pc := 102) 8 X dX12_future_102 rfl ?_
    refine j_bipush (pc := 104) 64 X dX12_future_104 rfl ?_
    refine j_iload_n (pc := 106) 3 X dX12_future_106 rfl ?_
    refine j_imul (pc := 107) X dX12_future_107 ?_
    refine j_iload (pc := 108) 4 X dX12_future_108 rfl ?_
    refine j_iadd (pc := 110) X dX12_future_110 ?_
    refine j_icmp_ne (pc := 111) 118 X dX12_future_111 rfl hF (fun hF => ?_) (fun hF => ?_)
    · refine j_iconst (pc := 118) 0 X dX12_future_118 rfl ?_
      exact BX12_future_119 X E hz r88 hr88 x1 x2 x3 x4 x5 x6 x7 x8 0 x8 h hF
    · refine j_iconst (pc := 114) 1 X dX12_future_114 rfl ?_
      refine j_goto (pc := 115) 119 X dX12_future_115 rfl ?_
      exact BX12_future_119 X E hz r88 hr88 x1 x2 x3 x4 x5 x6 x7 x8 1 x8 h hF
theorem LX12_future_88 {Z : ZT} {G : GT} {r : Int32} {hr : Hp} (X : CX Z G cX12_future RX12 13 6) (E : RX Z G (some .int) (some (.int r)) hr) (hz : HZM Z)  : ∀ (n : Nat) (x1 : Int32) (x2 : Int32) (x3 : Int32) (x4 : Int32) (x5 : Int32) (x6 : Int32) (x7 : Int32) (x8 : Int32) (h : Hp), lX12_future_88   n x1 x2 x3 x4 x5 x6 x7 x8 h = some (r, hr) → J Z G 13 h 88 [(0, .ref (Z.2.1 0)), (1, .int x1), (2, .int x2), (3, .int x3), (4, .int x4), (5, .int x5), (6, .int x6), (7, .int x7), (8, .int x8)] [] := by
  intro n
  induction n with
  | zero => intro x1 x2 x3 x4 x5 x6 x7 x8 h hF; cases hF
  | succ n ih => intro x1 x2 x3 x4 x5 x6 x7 x8 h hF; exact BX12_future_88 X E hz  (lX12_future_88   n) ih x1 x2 x3 x4 x5 x6 x7 x8 h hF
def fX12_future (a1 : Int32) (a2 : Int32) (a3 : Int32) (a4 : Int32) (a5 : Int32) (h : Hp) : Option (Int32 × Hp) := bi (fX12_hasLetter a1 h) (fun w2 h1 => (if w2 = 0 then some ((-1), h1) else bi (fX12_isYear a2 h1) (fun w4 h3 => (if w4 = 0 then some ((-1), h3) else bi (fX12_areSets a3 a4 h3) (fun w6 h5 => (if w6 = 0 then some ((-1), h5) else (if ((a4 >>> (a1 &&& 31)) &&& 1) = 1 then some ((-1), h5) else bi (fX12_in a5 0 2 h5) (fun w8 h7 => (if w8 = 0 then some ((-1), h7) else ck (inb (h7.1 0 18) 2) ((if 5 < (h7.1 11 (ix (h7.1 0 18))) then some ((-2), h7) else ck (inb (h7.1 0 18) 2) ((if (h7.1 17 (ix (h7.1 0 18))) ≤ 6 then lt (-2) (fun v9 => lt (-2) (fun v10 => lt 0 (fun v11 => lX12_future_88 FU a1 a2 a3 a4 a5 v9 v10 v11 h7))) else some ((-2), h7))))))))))))))
set_option maxRecDepth 20000 in
theorem tX12_future (Z : ZT) (a1 : Int32) (a2 : Int32) (a3 : Int32) (a4 : Int32) (a5 : Int32) (hz : HZM Z) (h : Hp) (r : Int32) (hr : Hp) (hF : fX12_future a1 a2 a3 a4 a5 h = some (r, hr)) : MC Z yX12_future cX12_future 13 (some .int) 6 [.ref (Z.2.1 0), .int a1, .int a2, .int a3, .int a4, .int a5] h (some (.int r)) hr := by
  unfold fX12_future at hF
  refine mc_start (by decide) (Nat.le_of_ble_eq_true rfl) (fun G X E => ?_)
  refine j_aload_n (pc := 0) 0 X dX12_future_0 rfl ?_
  refine j_iload_n (pc := 1) 1 X dX12_future_1 rfl ?_
  refine j_cVi (pc := 2) (As := [.int a1]) (rest := []) X dX12_future_2 ml_X12_400 ck_X12_hasLetter cv_X12_hasLetter (hz _ sh_0) rfl (Nat.le_of_ble_eq_true rfl) rfl (Nat.le_of_ble_eq_true rfl) rfl hF (tX12_hasLetter Z a1 hz h) (fun w2 h1 hF => ?_)
  refine j_if_eq (pc := 5) 45 X dX12_future_5 rfl hF (fun hF => ?_) (fun hF => ?_)
  · refine j_iconst (pc := 45) (-1) X dX12_future_45 rfl ?_
    exact j_iret (pc := 46) X E dX12_future_46 hF
  · refine j_iload_n (pc := 8) 2 X dX12_future_8 rfl ?_
    refine j_cSi (pc := 9) (As := [.int a2]) (rest := []) X dX12_future_9 ml_X12_412 ck_X12_isYear sk_X12_isYear (Nat.le_of_ble_eq_true rfl) rfl (Nat.le_of_ble_eq_true rfl) rfl hF (tX12_isYear Z a2 trivial h1) (fun w4 h3 hF => ?_)
    refine j_if_eq (pc := 12) 45 X dX12_future_12 rfl hF (fun hF => ?_) (fun hF => ?_)
    · refine j_iconst (pc := 45) (-1) X dX12_future_45 rfl ?_
      exact j_iret (pc := 46) X E dX12_future_46 hF
    · refine j_aload_n (pc := 15) 0 X dX12_future_15 rfl ?_
      refine j_iload_n (pc := 16) 3 X dX12_future_16 rfl ?_
      refine j_iload (pc := 17) 4 X dX12_future_17 rfl ?_
      refine j_cVi (pc := 19) (As := [.int a3, .int a4]) (rest := []) X dX12_future_19 ml_X12_528 ck_X12_areSets cv_X12_areSets (hz _ sh_0) rfl (Nat.le_of_ble_eq_true rfl) rfl (Nat.le_of_ble_eq_true rfl) rfl hF (tX12_areSets Z a3 a4 hz h3) (fun w6 h5 hF => ?_)
      refine j_if_eq (pc := 22) 45 X dX12_future_22 rfl hF (fun hF => ?_) (fun hF => ?_)
      · refine j_iconst (pc := 45) (-1) X dX12_future_45 rfl ?_
        exact j_iret (pc := 46) X E dX12_future_46 hF
      · refine j_iload (pc := 25) 4 X dX12_future_25 rfl ?_
        refine j_iload_n (pc := 27) 1 X dX12_future_27 rfl ?_
        refine j_ishr (pc := 28) X dX12_future_28 ?_
        refine j_iconst (pc := 29) 1 X dX12_future_29 rfl ?_
        refine j_iand (pc := 30) X dX12_future_30 ?_
        refine j_iconst (pc := 31) 1 X dX12_future_31 rfl ?_
        refine j_icmp_eq (pc := 32) 45 X dX12_future_32 rfl hF (fun hF => ?_) (fun hF => ?_)
        · refine j_iconst (pc := 45) (-1) X dX12_future_45 rfl ?_
          exact j_iret (pc := 46) X E dX12_future_46 hF
        · refine j_iload (pc := 35) 5 X dX12_future_35 rfl ?_
          refine j_iconst (pc := 37) 0 X dX12_future_37 rfl ?_
          refine j_iconst (pc := 38) 2 X dX12_future_38 rfl ?_
          refine j_cSi (pc := 39) (As := [.int a5, .int 0, .int 2]) (rest := []) X dX12_future_39 ml_X12_383 ck_X12_in sk_X12_in (Nat.le_of_ble_eq_true rfl) rfl (Nat.le_of_ble_eq_true rfl) rfl hF (tX12_in Z a5 0 2 trivial h5) (fun w8 h7 hF => ?_)
          refine j_if_ne (pc := 42) 47 X dX12_future_42 rfl hF (fun hF => ?_) (fun hF => ?_)
          · refine j_aload_n (pc := 47) 0 X dX12_future_47 rfl ?_
            refine j_getr (pc := 48) X dX12_future_48 (hz _ sh_0) fl_X12_49 rfl ?_
            refine j_aload_n (pc := 51) 0 X dX12_future_51 rfl ?_
            refine j_geti (pc := 52) X dX12_future_52 (hz _ sh_0) fl_X12_284 rfl ?_
            refine j_iald (pc := 55) X dX12_future_55 (hz _ sh_11) hF (fun hF => ?_)
            refine j_iconst (pc := 56) 5 X dX12_future_56 rfl ?_
            refine j_icmp_gt (pc := 57) 74 X dX12_future_57 rfl hF (fun hF => ?_) (fun hF => ?_)
            · refine j_bipush (pc := 74) (-2) X dX12_future_74 rfl ?_
              exact j_iret (pc := 76) X E dX12_future_76 hF
            · refine j_aload_n (pc := 60) 0 X dX12_future_60 rfl ?_
              refine j_getr (pc := 61) X dX12_future_61 (hz _ sh_0) fl_X12_67 rfl ?_
              refine j_aload_n (pc := 64) 0 X dX12_future_64 rfl ?_
              refine j_geti (pc := 65) X dX12_future_65 (hz _ sh_0) fl_X12_284 rfl ?_
              refine j_iald (pc := 68) X dX12_future_68 (hz _ sh_17) hF (fun hF => ?_)
              refine j_bipush (pc := 69) 6 X dX12_future_69 rfl ?_
              refine j_icmp_le (pc := 71) 77 X dX12_future_71 rfl hF (fun hF => ?_) (fun hF => ?_)
              · refine j_bipush (pc := 77) (-2) X dX12_future_77 rfl ?_
                refine j_istore (pc := 79) (fun y => [(6, .int y), (0, .ref (Z.2.1 0)), (1, .int a1), (2, .int a2), (3, .int a3), (4, .int a4), (5, .int a5)]) X dX12_future_79 (by decide) (fun _ => rfl) hF (fun v9 hF => ?_)
                refine j_bipush (pc := 81) (-2) X dX12_future_81 rfl ?_
                refine j_istore (pc := 83) (fun y => [(7, .int y), (6, .int v9), (0, .ref (Z.2.1 0)), (1, .int a1), (2, .int a2), (3, .int a3), (4, .int a4), (5, .int a5)]) X dX12_future_83 (by decide) (fun _ => rfl) hF (fun v10 hF => ?_)
                refine j_iconst (pc := 85) 0 X dX12_future_85 rfl ?_
                refine j_istore (pc := 86) (fun y => [(8, .int y), (7, .int v10), (6, .int v9), (0, .ref (Z.2.1 0)), (1, .int a1), (2, .int a2), (3, .int a3), (4, .int a4), (5, .int a5)]) X dX12_future_86 (by decide) (fun _ => rfl) hF (fun v11 hF => ?_)
                refine j_lv [(0, .ref (Z.2.1 0)), (1, .int a1), (2, .int a2), (3, .int a3), (4, .int a4), (5, .int a5), (6, .int v9), (7, .int v10), (8, .int v11)] [3, 4, 5, 6, 7, 8, 2, 1, 0] rfl ?_
                exact LX12_future_88 X E hz FU a1 a2 a3 a4 a5 v9 v10 v11 h7 hF
              · refine j_bipush (pc := 74) (-2) X dX12_future_74 rfl ?_
                exact j_iret (pc := 76) X E dX12_future_76 hF
          · refine j_iconst (pc := 45) (-1) X dX12_future_45 rfl ?_
            exact j_iret (pc := 46) X E dX12_future_46 hF
theorem dX12_lives_0 : decode cX12_lives 0 = .ok (.aload_n 0, 1) := by decide +kernel
theorem dX12_lives_1 : decode cX12_lives 1 = .ok (.iload_n 1, 1) := by decide +kernel
theorem dX12_lives_2 : decode cX12_lives 2 = .ok (.invokevirtual 409, 3) := by decide +kernel
theorem dX12_lives_5 : decode cX12_lives 5 = .ok (.ifCond .eq 28, 3) := by decide +kernel
theorem dX12_lives_8 : decode cX12_lives 8 = .ok (.iload_n 2, 1) := by decide +kernel
theorem dX12_lives_9 : decode cX12_lives 9 = .ok (.invokestatic 412, 3) := by decide +kernel
theorem dX12_lives_12 : decode cX12_lives 12 = .ok (.ifCond .eq 21, 3) := by decide +kernel
theorem dX12_lives_15 : decode cX12_lives 15 = .ok (.iload_n 3, 1) := by decide +kernel
theorem dX12_lives_16 : decode cX12_lives 16 = .ok (.iconst 0, 1) := by decide +kernel
theorem dX12_lives_17 : decode cX12_lives 17 = .ok (.bipush 8, 2) := by decide +kernel
theorem dX12_lives_19 : decode cX12_lives 19 = .ok (.invokestatic 383, 3) := by decide +kernel
theorem dX12_lives_22 : decode cX12_lives 22 = .ok (.ifCond .eq 11, 3) := by decide +kernel
theorem dX12_lives_25 : decode cX12_lives 25 = .ok (.iload_n 2, 1) := by decide +kernel
theorem dX12_lives_26 : decode cX12_lives 26 = .ok (.iload_n 3, 1) := by decide +kernel
theorem dX12_lives_27 : decode cX12_lives 27 = .ok (.iadd, 1) := by decide +kernel
theorem dX12_lives_28 : decode cX12_lives 28 = .ok (.bipush 60, 2) := by decide +kernel
theorem dX12_lives_30 : decode cX12_lives 30 = .ok (.if_icmp .le 7, 3) := by decide +kernel
theorem dX12_lives_33 : decode cX12_lives 33 = .ok (.ldc2_w 540, 3) := by decide +kernel
theorem dX12_lives_36 : decode cX12_lives 36 = .ok (.lreturn, 1) := by decide +kernel
theorem dX12_lives_37 : decode cX12_lives 37 = .ok (.lconst 1, 1) := by decide +kernel
theorem dX12_lives_38 : decode cX12_lives 38 = .ok (.lstore 4, 2) := by decide +kernel
theorem dX12_lives_40 : decode cX12_lives 40 = .ok (.iload_n 2, 1) := by decide +kernel
theorem dX12_lives_41 : decode cX12_lives 41 = .ok (.istore 6, 2) := by decide +kernel
theorem dX12_lives_43 : decode cX12_lives 43 = .ok (.iload 6, 2) := by decide +kernel
theorem dX12_lives_45 : decode cX12_lives 45 = .ok (.iload_n 2, 1) := by decide +kernel
theorem dX12_lives_46 : decode cX12_lives 46 = .ok (.iload_n 3, 1) := by decide +kernel
theorem dX12_lives_47 : decode cX12_lives 47 = .ok (.iadd, 1) := by decide +kernel
theorem dX12_lives_48 : decode cX12_lives 48 = .ok (.if_icmp .ge 25, 3) := by decide +kernel
theorem dX12_lives_51 : decode cX12_lives 51 = .ok (.lload 4, 2) := by decide +kernel
theorem dX12_lives_53 : decode cX12_lives 53 = .ok (.bipush 100, 2) := by decide +kernel
theorem dX12_lives_55 : decode cX12_lives 55 = .ok (.aload_n 0, 1) := by decide +kernel
theorem dX12_lives_56 : decode cX12_lives 56 = .ok (.iload_n 1, 1) := by decide +kernel
theorem dX12_lives_57 : decode cX12_lives 57 = .ok (.iload 6, 2) := by decide +kernel
theorem dX12_lives_59 : decode cX12_lives 59 = .ok (.invokevirtual 415, 3) := by decide +kernel
theorem dX12_lives_62 : decode cX12_lives 62 = .ok (.isub, 1) := by decide +kernel
theorem dX12_lives_63 : decode cX12_lives 63 = .ok (.i2l, 1) := by decide +kernel
theorem dX12_lives_64 : decode cX12_lives 64 = .ok (.lmul, 1) := by decide +kernel
theorem dX12_lives_65 : decode cX12_lives 65 = .ok (.lstore 4, 2) := by decide +kernel
theorem dX12_lives_67 : decode cX12_lives 67 = .ok (.iinc 6 1, 3) := by decide +kernel
theorem dX12_lives_70 : decode cX12_lives 70 = .ok (.goto (-27), 3) := by decide +kernel
theorem dX12_lives_73 : decode cX12_lives 73 = .ok (.lload 4, 2) := by decide +kernel
theorem dX12_lives_75 : decode cX12_lives 75 = .ok (.lreturn, 1) := by decide +kernel
def bX12_lives_43   (r43 : Int32 → Int32 → Int32 → Int64 → Int32 → Hp → Option (Int64 × Hp)) (x1 : Int32) (x2 : Int32) (x3 : Int32) (x4 : Int64) (x6 : Int32) (h : Hp) : Option (Int64 × Hp) := (if (x2 + x3) ≤ x6 then some (x4, h) else bi (fX12_diesBy x1 x6 h) (fun w2 h1 => lt (x4 * (((100 : Int32) - w2).toInt64)) (fun v3 => lt (x6 + 1) (fun v4 => r43 x1 x2 x3 v3 v4 h1))))
def lX12_lives_43   : Nat → Int32 → Int32 → Int32 → Int64 → Int32 → Hp → Option (Int64 × Hp)
  | 0 => fun _ _ _ _ _ _ => none
  | n + 1 => bX12_lives_43   (lX12_lives_43   n)
set_option maxRecDepth 20000 in
theorem BX12_lives_43 {Z : ZT} {G : GT} {r : Int64} {hr : Hp} (X : CX Z G cX12_lives RX12 7 3) (E : RX Z G (some .long) (some (.long r)) hr) (hz : HZM Z)  (r43 : Int32 → Int32 → Int32 → Int64 → Int32 → Hp → Option (Int64 × Hp)) (hr43 : ∀ (x1 : Int32) (x2 : Int32) (x3 : Int32) (x4 : Int64) (x6 : Int32) (h : Hp), r43 x1 x2 x3 x4 x6 h = some (r, hr) → J Z G 7 h 43 [(0, .ref (Z.2.1 0)), (1, .int x1), (2, .int x2), (3, .int x3), (4, .long x4), (6, .int x6)] []) (x1 : Int32) (x2 : Int32) (x3 : Int32) (x4 : Int64) (x6 : Int32) (h : Hp) (hF : bX12_lives_43   r43 x1 x2 x3 x4 x6 h = some (r, hr)) : J Z G 7 h 43 [(0, .ref (Z.2.1 0)), (1, .int x1), (2, .int x2), (3, .int x3), (4, .long x4), (6, .int x6)] [] := by
  unfold bX12_lives_43 at hF
  refine j_iload (pc := 43) 5 X dX12_lives_43 rfl ?_
  refine j_iload_n (pc := 45) 2 X dX12_lives_45 rfl ?_
  refine j_iload_n (pc := 46) 3 X dX12_lives_46 rfl ?_
  refine j_iadd (pc := 47) X dX12_lives_47 ?_
  refine j_icmp_ge (pc := 48) 73 X dX12_lives_48 rfl hF (fun hF => ?_) (fun hF => ?_)
  · refine j_lload (pc := 73) 4 X dX12_lives_73 rfl ?_
    exact j_lret (pc := 75) X E dX12_lives_75 hF
  · refine j_lload (pc := 51) 4 X dX12_lives_51 rfl ?_
    refine j_bipush (pc := 53) 100 X dX12_lives_53 rfl ?_
    refine j_aload_n (pc := 55) 0 X dX12_lives_55 rfl ?_
    refine j_iload_n (pc := 56) 1 X dX12_lives_56 rfl ?_
    refine j_iload (pc := 57) 5 X dX12_lives_57 rfl ?_
    refine j_cVi (pc := 59) (As := [.int x1, .int x6]) (rest := [.int 100, .long x4]) X dX12_lives_59 ml_X12_415 ck_X12_diesBy cv_X12_diesBy (hz _ sh_0) rfl (Nat.le_of_ble_eq_true rfl) rfl (Nat.le_of_ble_eq_true rfl) rfl hF (tX12_diesBy Z x1 x6 hz h) (fun w2 h1 hF => ?_)
    refine j_isub (pc := 62) X dX12_lives_62 ?_
    refine j_i2l (pc := 63) X dX12_lives_63 ?_
    refine j_lmul (pc := 64) X dX12_lives_64 ?_
    refine j_lstore (pc := 65) (fun y => [(4, .long y), (0, .ref (Z.2.1 0)), (1, .int x1), (2, .int x2), (3, .int x3), (6, .int x6)]) X dX12_lives_65 (by decide) (fun _ => rfl) hF (fun v3 hF => ?_)
    refine j_iinc (pc := 67) 5 (x6 + 1) (fun y => [(6, .int y), (4, .long v3), (0, .ref (Z.2.1 0)), (1, .int x1), (2, .int x2), (3, .int x3)]) X dX12_lives_67 rfl rfl (by decide) (fun _ => rfl) hF (fun v4 hF => ?_)
    refine j_goto (pc := 70) 43 X dX12_lives_70 rfl ?_
    refine j_lv [(0, .ref (Z.2.1 0)), (1, .int x1), (2, .int x2), (3, .int x3), (4, .long v3), (6, .int v4)] [2, 3, 4, 5, 1, 0] rfl ?_
    exact hr43 x1 x2 x3 v3 v4 h1 hF
theorem LX12_lives_43 {Z : ZT} {G : GT} {r : Int64} {hr : Hp} (X : CX Z G cX12_lives RX12 7 3) (E : RX Z G (some .long) (some (.long r)) hr) (hz : HZM Z)  : ∀ (n : Nat) (x1 : Int32) (x2 : Int32) (x3 : Int32) (x4 : Int64) (x6 : Int32) (h : Hp), lX12_lives_43   n x1 x2 x3 x4 x6 h = some (r, hr) → J Z G 7 h 43 [(0, .ref (Z.2.1 0)), (1, .int x1), (2, .int x2), (3, .int x3), (4, .long x4), (6, .int x6)] [] := by
  intro n
  induction n with
  | zero => intro x1 x2 x3 x4 x6 h hF; cases hF
  | succ n ih => intro x1 x2 x3 x4 x6 h hF; exact BX12_lives_43 X E hz  (lX12_lives_43   n) ih x1 x2 x3 x4 x6 h hF
def fX12_lives (a1 : Int32) (a2 : Int32) (a3 : Int32) (h : Hp) : Option (Int64 × Hp) := bi (fX12_isPerson a1 h) (fun w2 h1 => (if w2 = 0 then some ((-1), h1) else bi (fX12_isYear a2 h1) (fun w4 h3 => (if w4 = 0 then some ((-1), h3) else bi (fX12_in a3 0 8 h3) (fun w6 h5 => (if w6 = 0 then some ((-1), h5) else (if (a2 + a3) ≤ 60 then lt 1 (fun v7 => lt a2 (fun v8 => lX12_lives_43 FU a1 a2 a3 v7 v8 h5)) else some ((-1), h5))))))))
set_option maxRecDepth 20000 in
theorem tX12_lives (Z : ZT) (a1 : Int32) (a2 : Int32) (a3 : Int32) (hz : HZM Z) (h : Hp) (r : Int64) (hr : Hp) (hF : fX12_lives a1 a2 a3 h = some (r, hr)) : MC Z yX12_lives cX12_lives 7 (some .long) 3 [.ref (Z.2.1 0), .int a1, .int a2, .int a3] h (some (.long r)) hr := by
  unfold fX12_lives at hF
  refine mc_start (by decide) (Nat.le_of_ble_eq_true rfl) (fun G X E => ?_)
  refine j_aload_n (pc := 0) 0 X dX12_lives_0 rfl ?_
  refine j_iload_n (pc := 1) 1 X dX12_lives_1 rfl ?_
  refine j_cVi (pc := 2) (As := [.int a1]) (rest := []) X dX12_lives_2 ml_X12_409 ck_X12_isPerson cv_X12_isPerson (hz _ sh_0) rfl (Nat.le_of_ble_eq_true rfl) rfl (Nat.le_of_ble_eq_true rfl) rfl hF (tX12_isPerson Z a1 hz h) (fun w2 h1 hF => ?_)
  refine j_if_eq (pc := 5) 33 X dX12_lives_5 rfl hF (fun hF => ?_) (fun hF => ?_)
  · refine j_ldc2_w (pc := 33) X dX12_lives_33 k_X12_540 ?_
    exact j_lret (pc := 36) X E dX12_lives_36 hF
  · refine j_iload_n (pc := 8) 2 X dX12_lives_8 rfl ?_
    refine j_cSi (pc := 9) (As := [.int a2]) (rest := []) X dX12_lives_9 ml_X12_412 ck_X12_isYear sk_X12_isYear (Nat.le_of_ble_eq_true rfl) rfl (Nat.le_of_ble_eq_true rfl) rfl hF (tX12_isYear Z a2 trivial h1) (fun w4 h3 hF => ?_)
    refine j_if_eq (pc := 12) 33 X dX12_lives_12 rfl hF (fun hF => ?_) (fun hF => ?_)
    · refine j_ldc2_w (pc := 33) X dX12_lives_33 k_X12_540 ?_
      exact j_lret (pc := 36) X E dX12_lives_36 hF
    · refine j_iload_n (pc := 15) 3 X dX12_lives_15 rfl ?_
      refine j_iconst (pc := 16) 0 X dX12_lives_16 rfl ?_
      refine j_bipush (pc := 17) 8 X dX12_lives_17 rfl ?_
      refine j_cSi (pc := 19) (As := [.int a3, .int 0, .int 8]) (rest := []) X dX12_lives_19 ml_X12_383 ck_X12_in sk_X12_in (Nat.le_of_ble_eq_true rfl) rfl (Nat.le_of_ble_eq_true rfl) rfl hF (tX12_in Z a3 0 8 trivial h3) (fun w6 h5 hF => ?_)
      refine j_if_eq (pc := 22) 33 X dX12_lives_22 rfl hF (fun hF => ?_) (fun hF => ?_)
      · refine j_ldc2_w (pc := 33) X dX12_lives_33 k_X12_540 ?_
        exact j_lret (pc := 36) X E dX12_lives_36 hF
      · refine j_iload_n (pc := 25) 2 X dX12_lives_25 rfl ?_
        refine j_iload_n (pc := 26) 3 X dX12_lives_26 rfl ?_
        refine j_iadd (pc := 27) X dX12_lives_27 ?_
        refine j_bipush (pc := 28) 60 X dX12_lives_28 rfl ?_
        refine j_icmp_le (pc := 30) 37 X dX12_lives_30 rfl hF (fun hF => ?_) (fun hF => ?_)
        · refine j_lconst (pc := 37) 1 X dX12_lives_37 rfl ?_
          refine j_lstore (pc := 38) (fun y => [(4, .long y), (0, .ref (Z.2.1 0)), (1, .int a1), (2, .int a2), (3, .int a3)]) X dX12_lives_38 (by decide) (fun _ => rfl) hF (fun v7 hF => ?_)
          refine j_iload_n (pc := 40) 3 X dX12_lives_40 rfl ?_
          refine j_istore (pc := 41) (fun y => [(6, .int y), (4, .long v7), (0, .ref (Z.2.1 0)), (1, .int a1), (2, .int a2), (3, .int a3)]) X dX12_lives_41 (by decide) (fun _ => rfl) hF (fun v8 hF => ?_)
          refine j_lv [(0, .ref (Z.2.1 0)), (1, .int a1), (2, .int a2), (3, .int a3), (4, .long v7), (6, .int v8)] [2, 3, 4, 5, 1, 0] rfl ?_
          exact LX12_lives_43 X E hz FU a1 a2 a3 v7 v8 h5 hF
        · refine j_ldc2_w (pc := 33) X dX12_lives_33 k_X12_540 ?_
          exact j_lret (pc := 36) X E dX12_lives_36 hF
theorem dX12_waysOf_0 : decode cX12_waysOf 0 = .ok (.lconst 1, 1) := by decide +kernel
theorem dX12_waysOf_1 : decode cX12_waysOf 1 = .ok (.lstore 4, 2) := by decide +kernel
theorem dX12_waysOf_3 : decode cX12_waysOf 3 = .ok (.iconst 0, 1) := by decide +kernel
theorem dX12_waysOf_4 : decode cX12_waysOf 4 = .ok (.istore 6, 2) := by decide +kernel
theorem dX12_waysOf_6 : decode cX12_waysOf 6 = .ok (.iload 6, 2) := by decide +kernel
theorem dX12_waysOf_8 : decode cX12_waysOf 8 = .ok (.aload_n 0, 1) := by decide +kernel
theorem dX12_waysOf_9 : decode cX12_waysOf 9 = .ok (.getfield 49, 3) := by decide +kernel
theorem dX12_waysOf_12 : decode cX12_waysOf 12 = .ok (.aload_n 0, 1) := by decide +kernel
theorem dX12_waysOf_13 : decode cX12_waysOf 13 = .ok (.getfield 284, 3) := by decide +kernel
theorem dX12_waysOf_16 : decode cX12_waysOf 16 = .ok (.iaload, 1) := by decide +kernel
theorem dX12_waysOf_17 : decode cX12_waysOf 17 = .ok (.if_icmp .ge 67, 3) := by decide +kernel
theorem dX12_waysOf_20 : decode cX12_waysOf 20 = .ok (.iload_n 1, 1) := by decide +kernel
theorem dX12_waysOf_21 : decode cX12_waysOf 21 = .ok (.iload 6, 2) := by decide +kernel
theorem dX12_waysOf_23 : decode cX12_waysOf 23 = .ok (.ishr, 1) := by decide +kernel
theorem dX12_waysOf_24 : decode cX12_waysOf 24 = .ok (.iconst 1, 1) := by decide +kernel
theorem dX12_waysOf_25 : decode cX12_waysOf 25 = .ok (.iand, 1) := by decide +kernel
theorem dX12_waysOf_26 : decode cX12_waysOf 26 = .ok (.iconst 1, 1) := by decide +kernel
theorem dX12_waysOf_27 : decode cX12_waysOf 27 = .ok (.if_icmp .ne 14, 3) := by decide +kernel
theorem dX12_waysOf_30 : decode cX12_waysOf 30 = .ok (.lload 4, 2) := by decide +kernel
theorem dX12_waysOf_32 : decode cX12_waysOf 32 = .ok (.ldc2_w 542, 3) := by decide +kernel
theorem dX12_waysOf_35 : decode cX12_waysOf 35 = .ok (.lmul, 1) := by decide +kernel
theorem dX12_waysOf_36 : decode cX12_waysOf 36 = .ok (.lstore 4, 2) := by decide +kernel
theorem dX12_waysOf_38 : decode cX12_waysOf 38 = .ok (.goto 40, 3) := by decide +kernel
theorem dX12_waysOf_41 : decode cX12_waysOf 41 = .ok (.lload 4, 2) := by decide +kernel
theorem dX12_waysOf_43 : decode cX12_waysOf 43 = .ok (.iload_n 2, 1) := by decide +kernel
theorem dX12_waysOf_44 : decode cX12_waysOf 44 = .ok (.iload 6, 2) := by decide +kernel
theorem dX12_waysOf_46 : decode cX12_waysOf 46 = .ok (.ishr, 1) := by decide +kernel
theorem dX12_waysOf_47 : decode cX12_waysOf 47 = .ok (.iconst 1, 1) := by decide +kernel
theorem dX12_waysOf_48 : decode cX12_waysOf 48 = .ok (.iand, 1) := by decide +kernel
theorem dX12_waysOf_49 : decode cX12_waysOf 49 = .ok (.iconst 1, 1) := by decide +kernel
theorem dX12_waysOf_50 : decode cX12_waysOf 50 = .ok (.if_icmp .ne 14, 3) := by decide +kernel
theorem dX12_waysOf_53 : decode cX12_waysOf 53 = .ok (.aload_n 0, 1) := by decide +kernel
theorem dX12_waysOf_54 : decode cX12_waysOf 54 = .ok (.iload 6, 2) := by decide +kernel
theorem dX12_waysOf_56 : decode cX12_waysOf 56 = .ok (.iload_n 3, 1) := by decide +kernel
theorem dX12_waysOf_57 : decode cX12_waysOf 57 = .ok (.invokevirtual 415, 3) := by decide +kernel
theorem dX12_waysOf_60 : decode cX12_waysOf 60 = .ok (.i2l, 1) := by decide +kernel
theorem dX12_waysOf_61 : decode cX12_waysOf 61 = .ok (.goto 14, 3) := by decide +kernel
theorem dX12_waysOf_64 : decode cX12_waysOf 64 = .ok (.bipush 100, 2) := by decide +kernel
theorem dX12_waysOf_66 : decode cX12_waysOf 66 = .ok (.aload_n 0, 1) := by decide +kernel
theorem dX12_waysOf_67 : decode cX12_waysOf 67 = .ok (.iload 6, 2) := by decide +kernel
theorem dX12_waysOf_69 : decode cX12_waysOf 69 = .ok (.iload_n 3, 1) := by decide +kernel
theorem dX12_waysOf_70 : decode cX12_waysOf 70 = .ok (.invokevirtual 415, 3) := by decide +kernel
theorem dX12_waysOf_73 : decode cX12_waysOf 73 = .ok (.isub, 1) := by decide +kernel
theorem dX12_waysOf_74 : decode cX12_waysOf 74 = .ok (.i2l, 1) := by decide +kernel
theorem dX12_waysOf_75 : decode cX12_waysOf 75 = .ok (.lmul, 1) := by decide +kernel
theorem dX12_waysOf_76 : decode cX12_waysOf 76 = .ok (.lstore 4, 2) := by decide +kernel
theorem dX12_waysOf_78 : decode cX12_waysOf 78 = .ok (.iinc 6 1, 3) := by decide +kernel
theorem dX12_waysOf_81 : decode cX12_waysOf 81 = .ok (.goto (-75), 3) := by decide +kernel
theorem dX12_waysOf_84 : decode cX12_waysOf 84 = .ok (.lload 4, 2) := by decide +kernel
theorem dX12_waysOf_86 : decode cX12_waysOf 86 = .ok (.lreturn, 1) := by decide +kernel
def bX12_waysOf_78  (r6 : Int32 → Int32 → Int32 → Int64 → Int32 → Hp → Option (Int64 × Hp)) (x1 : Int32) (x2 : Int32) (x3 : Int32) (x4 : Int64) (x6 : Int32) (h : Hp) : Option (Int64 × Hp) := lt (x6 + 1) (fun v1 => r6 x1 x2 x3 x4 v1 h)
set_option maxRecDepth 20000 in
theorem BX12_waysOf_78 {Z : ZT} {G : GT} {r : Int64} {hr : Hp} (X : CX Z G cX12_waysOf RX12 7 3) (E : RX Z G (some .long) (some (.long r)) hr) (hz : HZM Z) (r6 : Int32 → Int32 → Int32 → Int64 → Int32 → Hp → Option (Int64 × Hp)) (hr6 : ∀ (x1 : Int32) (x2 : Int32) (x3 : Int32) (x4 : Int64) (x6 : Int32) (h : Hp), r6 x1 x2 x3 x4 x6 h = some (r, hr) → J Z G 7 h 6 [(0, .ref (Z.2.1 0)), (1, .int x1), (2, .int x2), (3, .int x3), (4, .long x4), (6, .int x6)] []) (x1 : Int32) (x2 : Int32) (x3 : Int32) (x4 : Int64) (x6 : Int32) (h : Hp) (hF : bX12_waysOf_78  r6 x1 x2 x3 x4 x6 h = some (r, hr)) : J Z G 7 h 78 [(0, .ref (Z.2.1 0)), (1, .int x1), (2, .int x2), (3, .int x3), (4, .long x4), (6, .int x6)] [] := by
  unfold bX12_waysOf_78 at hF
  refine j_iinc (pc := 78) 5 (x6 + 1) (fun y => [(6, .int y), (0, .ref (Z.2.1 0)), (1, .int x1), (2, .int x2), (3, .int x3), (4, .long x4)]) X dX12_waysOf_78 rfl rfl (by decide) (fun _ => rfl) hF (fun v1 hF => ?_)
  refine j_goto (pc := 81) 6 X dX12_waysOf_81 rfl ?_
  refine j_lv [(0, .ref (Z.2.1 0)), (1, .int x1), (2, .int x2), (3, .int x3), (4, .long x4), (6, .int v1)] [1, 2, 3, 4, 5, 0] rfl ?_
  exact hr6 x1 x2 x3 x4 v1 h hF
def bX12_waysOf_75  (r6 : Int32 → Int32 → Int32 → Int64 → Int32 → Hp → Option (Int64 × Hp)) (x1 : Int32) (x2 : Int32) (x3 : Int32) (x6 : Int32) (s0 : Int64) (s1 : Int64) (h : Hp) : Option (Int64 × Hp) := lt (s1 * s0) (fun v1 => bX12_waysOf_78 r6 x1 x2 x3 v1 x6 h)
set_option maxRecDepth 20000 in
theorem BX12_waysOf_75 {Z : ZT} {G : GT} {r : Int64} {hr : Hp} (X : CX Z G cX12_waysOf RX12 7 3) (E : RX Z G (some .long) (some (.long r)) hr) (hz : HZM Z) (r6 : Int32 → Int32 → Int32 → Int64 → Int32 → Hp → Option (Int64 × Hp)) (hr6 : ∀ (x1 : Int32) (x2 : Int32) (x3 : Int32) (x4 : Int64) (x6 : Int32) (h : Hp), r6 x1 x2 x3 x4 x6 h = some (r, hr) → J Z G 7 h 6 [(0, .ref (Z.2.1 0)), (1, .int x1), (2, .int x2), (3, .int x3), (4, .long x4), (6, .int x6)] []) (x1 : Int32) (x2 : Int32) (x3 : Int32) (x6 : Int32) (s0 : Int64) (s1 : Int64) (h : Hp) (hF : bX12_waysOf_75  r6 x1 x2 x3 x6 s0 s1 h = some (r, hr)) : J Z G 7 h 75 [(0, .ref (Z.2.1 0)), (1, .int x1), (2, .int x2), (3, .int x3), (6, .int x6)] [.long s0, .long s1] := by
  unfold bX12_waysOf_75 at hF
  refine j_lmul (pc := 75) X dX12_waysOf_75 ?_
  refine j_lstore (pc := 76) (fun y => [(4, .long y), (0, .ref (Z.2.1 0)), (1, .int x1), (2, .int x2), (3, .int x3), (6, .int x6)]) X dX12_waysOf_76 (by decide) (fun _ => rfl) hF (fun v1 hF => ?_)
  refine j_lv [(0, .ref (Z.2.1 0)), (1, .int x1), (2, .int x2), (3, .int x3), (4, .long v1), (6, .int x6)] [1, 2, 3, 4, 0, 5] rfl ?_
  exact BX12_waysOf_78 X E hz r6 hr6 x1 x2 x3 v1 x6 h hF
def bX12_waysOf_6   (r6 : Int32 → Int32 → Int32 → Int64 → Int32 → Hp → Option (Int64 × Hp)) (x1 : Int32) (x2 : Int32) (x3 : Int32) (x4 : Int64) (x6 : Int32) (h : Hp) : Option (Int64 × Hp) := ck (inb (h.1 0 18) 2) ((if (h.1 11 (ix (h.1 0 18))) ≤ x6 then some (x4, h) else (if ((x1 >>> (x6 &&& 31)) &&& 1) = 1 then lt (x4 * 100) (fun v5 => bX12_waysOf_78 r6 x1 x2 x3 v5 x6 h) else (if ((x2 >>> (x6 &&& 31)) &&& 1) = 1 then bi (fX12_diesBy x6 x3 h) (fun w4 h3 => bX12_waysOf_75 r6 x1 x2 x3 x6 w4.toInt64 x4 h3) else bi (fX12_diesBy x6 x3 h) (fun w2 h1 => bX12_waysOf_75 r6 x1 x2 x3 x6 (((100 : Int32) - w2).toInt64) x4 h1)))))
def lX12_waysOf_6   : Nat → Int32 → Int32 → Int32 → Int64 → Int32 → Hp → Option (Int64 × Hp)
  | 0 => fun _ _ _ _ _ _ => none
  | n + 1 => bX12_waysOf_6   (lX12_waysOf_6   n)
set_option maxRecDepth 20000 in
theorem BX12_waysOf_6 {Z : ZT} {G : GT} {r : Int64} {hr : Hp} (X : CX Z G cX12_waysOf RX12 7 3) (E : RX Z G (some .long) (some (.long r)) hr) (hz : HZM Z)  (r6 : Int32 → Int32 → Int32 → Int64 → Int32 → Hp → Option (Int64 × Hp)) (hr6 : ∀ (x1 : Int32) (x2 : Int32) (x3 : Int32) (x4 : Int64) (x6 : Int32) (h : Hp), r6 x1 x2 x3 x4 x6 h = some (r, hr) → J Z G 7 h 6 [(0, .ref (Z.2.1 0)), (1, .int x1), (2, .int x2), (3, .int x3), (4, .long x4), (6, .int x6)] []) (x1 : Int32) (x2 : Int32) (x3 : Int32) (x4 : Int64) (x6 : Int32) (h : Hp) (hF : bX12_waysOf_6   r6 x1 x2 x3 x4 x6 h = some (r, hr)) : J Z G 7 h 6 [(0, .ref (Z.2.1 0)), (1, .int x1), (2, .int x2), (3, .int x3), (4, .long x4), (6, .int x6)] [] := by
  unfold bX12_waysOf_6 at hF
  refine j_iload (pc := 6) 5 X dX12_waysOf_6 rfl ?_
  refine j_aload_n (pc := 8) 0 X dX12_waysOf_8 rfl ?_
  refine j_getr (pc := 9) X dX12_waysOf_9 (hz _ sh_0) fl_X12_49 rfl ?_
  refine j_aload_n (pc := 12) 0 X dX12_waysOf_12 rfl ?_
  refine j_geti (pc := 13) X dX12_waysOf_13 (hz _ sh_0) fl_X12_284 rfl ?_
  refine j_iald (pc := 16) X dX12_waysOf_16 (hz _ sh_11) hF (fun hF => ?_)
  refine j_icmp_ge (pc := 17) 84 X dX12_waysOf_17 rfl hF (fun hF => ?_) (fun hF => ?_)
  · refine j_lload (pc := 84) 4 X dX12_waysOf_84 rfl ?_
    exact j_lret (pc := 86) X E dX12_waysOf_86 hF
  · refine j_iload_n (pc := 20) 1 X dX12_waysOf_20 rfl ?_
    refine j_iload (pc := 21) 5 X dX12_waysOf_21 rfl ?_
    refine j_ishr (pc := 23) X dX12_waysOf_23 ?_
    refine j_iconst (pc := 24) 1 X dX12_waysOf_24 rfl ?_
    refine j_iand (pc := 25) X dX12_waysOf_25 ?_
    refine j_iconst (pc := 26) 1 X dX12_waysOf_26 rfl ?_
    refine j_icmp_ne (pc := 27) 41 X dX12_waysOf_27 rfl hF (fun hF => ?_) (fun hF => ?_)
    · refine j_lload (pc := 41) 4 X dX12_waysOf_41 rfl ?_
      refine j_iload_n (pc := 43) 2 X dX12_waysOf_43 rfl ?_
      refine j_iload (pc := 44) 5 X dX12_waysOf_44 rfl ?_
      refine j_ishr (pc := 46) X dX12_waysOf_46 ?_
      refine j_iconst (pc := 47) 1 X dX12_waysOf_47 rfl ?_
      refine j_iand (pc := 48) X dX12_waysOf_48 ?_
      refine j_iconst (pc := 49) 1 X dX12_waysOf_49 rfl ?_
      refine j_icmp_ne (pc := 50) 64 X dX12_waysOf_50 rfl hF (fun hF => ?_) (fun hF => ?_)
      · refine j_bipush (pc := 64) 100 X dX12_waysOf_64 rfl ?_
        refine j_aload_n (pc := 66) 0 X dX12_waysOf_66 rfl ?_
        refine j_iload (pc := 67) 5 X dX12_waysOf_67 rfl ?_
        refine j_iload_n (pc := 69) 3 X dX12_waysOf_69 rfl ?_
        refine j_cVi (pc := 70) (As := [.int x6, .int x3]) (rest := [.int 100, .long x4]) X dX12_waysOf_70 ml_X12_415 ck_X12_diesBy cv_X12_diesBy (hz _ sh_0) rfl (Nat.le_of_ble_eq_true rfl) rfl (Nat.le_of_ble_eq_true rfl) rfl hF (tX12_diesBy Z x6 x3 hz h) (fun w2 h1 hF => ?_)
        refine j_isub (pc := 73) X dX12_waysOf_73 ?_
        refine j_i2l (pc := 74) X dX12_waysOf_74 ?_
        refine j_lv [(0, .ref (Z.2.1 0)), (1, .int x1), (2, .int x2), (3, .int x3), (6, .int x6)] [0, 1, 2, 3, 5] rfl ?_
        exact BX12_waysOf_75 X E hz r6 hr6 x1 x2 x3 x6 (((100 : Int32) - w2).toInt64) x4 h1 hF
      · refine j_aload_n (pc := 53) 0 X dX12_waysOf_53 rfl ?_
        refine j_iload (pc := 54) 5 X dX12_waysOf_54 rfl ?_
        refine j_iload_n (pc := 56) 3 X dX12_waysOf_56 rfl ?_
        refine j_cVi (pc := 57) (As := [.int x6, .int x3]) (rest := [.long x4]) X dX12_waysOf_57 ml_X12_415 ck_X12_diesBy cv_X12_diesBy (hz _ sh_0) rfl (Nat.le_of_ble_eq_true rfl) rfl (Nat.le_of_ble_eq_true rfl) rfl hF (tX12_diesBy Z x6 x3 hz h) (fun w4 h3 hF => ?_)
        refine j_i2l (pc := 60) X dX12_waysOf_60 ?_
        refine j_goto (pc := 61) 75 X dX12_waysOf_61 rfl ?_
        refine j_lv [(0, .ref (Z.2.1 0)), (1, .int x1), (2, .int x2), (3, .int x3), (6, .int x6)] [0, 1, 2, 3, 5] rfl ?_
        exact BX12_waysOf_75 X E hz r6 hr6 x1 x2 x3 x6 w4.toInt64 x4 h3 hF
    · refine j_lload (pc := 30) 4 X dX12_waysOf_30 rfl ?_
      refine j_ldc2_w (pc := 32) X dX12_waysOf_32 k_X12_542 ?_
      refine j_lmul (pc := 35) X dX12_waysOf_35 ?_
      refine j_lstore (pc := 36) (fun y => [(4, .long y), (0, .ref (Z.2.1 0)), (1, .int x1), (2, .int x2), (3, .int x3), (6, .int x6)]) X dX12_waysOf_36 (by decide) (fun _ => rfl) hF (fun v5 hF => ?_)
      refine j_goto (pc := 38) 78 X dX12_waysOf_38 rfl ?_
      refine j_lv [(0, .ref (Z.2.1 0)), (1, .int x1), (2, .int x2), (3, .int x3), (4, .long v5), (6, .int x6)] [1, 2, 3, 4, 0, 5] rfl ?_
      exact BX12_waysOf_78 X E hz r6 hr6 x1 x2 x3 v5 x6 h hF
theorem LX12_waysOf_6 {Z : ZT} {G : GT} {r : Int64} {hr : Hp} (X : CX Z G cX12_waysOf RX12 7 3) (E : RX Z G (some .long) (some (.long r)) hr) (hz : HZM Z)  : ∀ (n : Nat) (x1 : Int32) (x2 : Int32) (x3 : Int32) (x4 : Int64) (x6 : Int32) (h : Hp), lX12_waysOf_6   n x1 x2 x3 x4 x6 h = some (r, hr) → J Z G 7 h 6 [(0, .ref (Z.2.1 0)), (1, .int x1), (2, .int x2), (3, .int x3), (4, .long x4), (6, .int x6)] [] := by
  intro n
  induction n with
  | zero => intro x1 x2 x3 x4 x6 h hF; cases hF
  | succ n ih => intro x1 x2 x3 x4 x6 h hF; exact BX12_waysOf_6 X E hz  (lX12_waysOf_6   n) ih x1 x2 x3 x4 x6 h hF
def fX12_waysOf (a1 : Int32) (a2 : Int32) (a3 : Int32) (h : Hp) : Option (Int64 × Hp) := lt 1 (fun v1 => lt 0 (fun v2 => lX12_waysOf_6 FU a1 a2 a3 v1 v2 h))
set_option maxRecDepth 20000 in
theorem tX12_waysOf (Z : ZT) (a1 : Int32) (a2 : Int32) (a3 : Int32) (hz : HZM Z) (h : Hp) (r : Int64) (hr : Hp) (hF : fX12_waysOf a1 a2 a3 h = some (r, hr)) : MC Z yX12_waysOf cX12_waysOf 7 (some .long) 3 [.ref (Z.2.1 0), .int a1, .int a2, .int a3] h (some (.long r)) hr := by
  unfold fX12_waysOf at hF
  refine mc_start (by decide) (Nat.le_of_ble_eq_true rfl) (fun G X E => ?_)
  refine j_lconst (pc := 0) 1 X dX12_waysOf_0 rfl ?_
  refine j_lstore (pc := 1) (fun y => [(4, .long y), (0, .ref (Z.2.1 0)), (1, .int a1), (2, .int a2), (3, .int a3)]) X dX12_waysOf_1 (by decide) (fun _ => rfl) hF (fun v1 hF => ?_)
  refine j_iconst (pc := 3) 0 X dX12_waysOf_3 rfl ?_
  refine j_istore (pc := 4) (fun y => [(6, .int y), (4, .long v1), (0, .ref (Z.2.1 0)), (1, .int a1), (2, .int a2), (3, .int a3)]) X dX12_waysOf_4 (by decide) (fun _ => rfl) hF (fun v2 hF => ?_)
  refine j_lv [(0, .ref (Z.2.1 0)), (1, .int a1), (2, .int a2), (3, .int a3), (4, .long v1), (6, .int v2)] [2, 3, 4, 5, 1, 0] rfl ?_
  exact LX12_waysOf_6 X E hz FU a1 a2 a3 v1 v2 h hF
