/-- read, both -/
theorem read_bad {c m c0 m0 c2 m2 : Hp} (H : RelAO c m) (hv : lv m < 2) (ac : Agr R0c c c0) (am : Agr R0m m m0) (t0 : c0.1 101 1 = 0) (t1 : m0.1 0 2 = 0) (pc : Agr PWc c0 c2) (pm : AgrM (1 - lv m) m0 m2) (v : Int32) : RelAO (wI c2 100 12 v) (wI m2 0 17 v) := by
  have A : Agr (R0c ++ PWc ++ [(100, some 12)]) c (wI c2 100 12 v) := ((ac.sub rfl).trans (pc.sub rfl)).wI rfl
  refine Rel_w (T1 := 0) H A rfl (((bk_ag am rfl).trans (bk_M hv pm)).trans (bk_ag (Agr.refl.wI rfl : Agr [(0, some 17)] m2 (wI m2 0 17 v)) rfl)) ?_ (fun k j k1 k2 => ?_) (fun k j k1 k2 => ?_) (fun j => ?_) (by decide) ⟨?_, ?_, fun i hi => absurd hi (by omega)⟩ (by rw [wI_s, wI_s])
  · rw [wI_j (by decide), pm.i 0 59 rfl, am.i 0 59 rfl]
  · rw [wI_k (by omega)]
    obtain rfl | rfl | rfl | rfl : k = 40 ∨ k = 41 ∨ k = 42 ∨ k = 43 := by omega
    all_goals rw [pm.i _ j rfl, am.i _ j rfl]
  · rw [wI_k (by omega)]
    obtain rfl | rfl | rfl | rfl | rfl : k = 60 ∨ k = 61 ∨ k = 62 ∨ k = 63 ∨ k = 64 := by omega
    all_goals rw [pm.i _ j rfl, am.i _ j rfl]
  · show m2.2 7 j = m.2 7 j
    rw [pm.l 7 j rfl, am.l 7 j rfl]
  · rw [wI_k (by decide), pc.i 101 1 rfl, t0]; rfl
  · rw [wI_j (by decide), pm.i 0 2 rfl, t1]; rfl
theorem M_rend {m : Hp} {sd : Nat} (h13 : m.1 0 13 = 0) (h15 : m.1 0 15 = 0) (h19 : m.1 0 19 = nI sd) : ∃ m', bX12_read_215 m = some (0, m') ∧ Agr [(0, some 17), (0, some 18), (0, some 59), (60, none)] m m' ∧ m'.1 0 17 = -1 ∧ m'.1 0 18 = nI sd ∧ m'.1 0 59 = 0 ∧ ∀ s, s < 3 → m'.1 60 s = -1 := by
  have st : ∀ (r : Nat) (f : Nat) (h : Hp), r < 3 → lX12_read_287 (f + 1) (nI r) h = lX12_read_287 f (nI (r + 1)) (wI h 60 r (-1)) := fun r f h hr => by
    rw [lX12_read_287]
    unfold bX12_read_287
    rw [if_neg (show ¬ (3 : Int32) ≤ nI r from nI_ge (b := 3) hr (by decide)), ck_of (nI_inb hr (by decide)), nI_ix (by omega), nI_1, lt_q, lt_q]
  let h3 := wI (wI (wI m 0 17 (-1)) 0 18 (nI sd)) 0 59 0
  refine ⟨wI (wI (wI h3 60 0 (-1)) 60 1 (-1)) 60 2 (-1), ?_, (((((Agr.refl.wI rfl).wI rfl).wI rfl).wI rfl).wI rfl).wI rfl, rfl, rfl, rfl, fun s hs => ?_⟩
  · unfold bX12_read_215
    rw [h13, h15, if_pos (by decide), if_pos (by decide)]
    unfold bX12_read_245
    rw [lt_q, wI_j (show (13 : Nat) ≠ 17 by decide), wI_j (show (15 : Nat) ≠ 17 by decide), wI_j (show (19 : Nat) ≠ 17 by decide), h13, h15, h19, if_pos (by decide), if_pos (by decide), lt_q, lt_q, lt_q]
    rw [show FU = 19996 + 1 + 1 + 1 + 1 from rfl, show lX12_read_287 (19996 + 1 + 1 + 1 + 1) 0 h3 = lX12_read_287 (19996 + 1 + 1 + 1 + 1) (nI 0) h3 from rfl, st 0 _ _ (by decide), st 1 _ _ (by decide), st 2 _ _ (by decide), lX12_read_287]
    unfold bX12_read_287
    rw [if_pos (by decide)]
  · obtain rfl | rfl | rfl : s = 0 ∨ s = 1 ∨ s = 2 := by omega
    all_goals rfl
theorem BKF_e {nl : Nat} {c c' c1 c1' : Hp} {V W : Ws} (hn : nl ≤ 10) (B : BKF nl c c1) (a : Agr V c' c) (hV : djw PWc V = true) (b : Agr W c1 c1') (hW : djw BKW W = true) : BKF nl c' c1' := by
  obtain ⟨B1, B2, B3, B4, B5, B6⟩ := B
  have q : ∀ k j, wm PWc k j = true → c.1 k j = c'.1 k j := fun k j w => (a k j (djw_wm hV w)).1
  have r : ∀ k j, wm BKW k j = true → c1'.1 k j = c1.1 k j := fun k j w => (b k j (djw_wm hW w)).1
  refine ⟨fun j j1 j2 => ?_, fun i hi => ?_, fun i hi => ?_, fun i hi => ?_, fun i hi => ?_, fun l hl j hj => ?_⟩
  · rw [r 108 j rfl, B1 j j1 j2, q 125 j rfl]
  · rw [r 109 i rfl, B2 i hi, q 126 i rfl]
  · rw [r 110 i rfl, B3 i hi, q 127 i rfl]
  · rw [r 112 i rfl, B4 i hi, q 129 i rfl]
  · rw [r 113 i rfl, r 114 i rfl, (B5 i hi).1, (B5 i hi).2, q 130 i rfl, q 131 i rfl]
    exact ⟨rfl, rfl⟩
  · rw [r _ j (BKW_l (by omega)), B6 l hl j hj, q _ j (by
      have : l < 10 := by omega
      match l, this with
      | 0, _ => rfl
      | 1, _ => rfl
      | 2, _ => rfl
      | 3, _ => rfl
      | 4, _ => rfl
      | 5, _ => rfl
      | 6, _ => rfl
      | 7, _ => rfl
      | 8, _ => rfl
      | 9, _ => rfl)]
theorem sim_read1 {c m : Hp} (H : RelAO c m) : ∃ (r : Int32) (c1 m1 : Hp), fX11_read c = some (r, c1) ∧ fX12_read m = some (r, m1) ∧ RelAO c1 m1 := by
  have H' := H
  obtain ⟨T, F, A0, Ls0, cs0, h1, h2, h3, h4, h5, h6, h7, h8, h9⟩ := H'
  have hv := h4.1.1.1
  obtain ⟨K, kd, pl, c0, m0, c1, m1, e1, e2, X, T0, ac, am, z1, z2⟩ := read_start h1 hv h2 h4.1.1.2 h7 h8
  obtain ⟨c2, m2, f1, f2, f3⟩ := tell_all X 401 0 0 0 0 0 0 0 0 0 (fun _ => none) (fun _ => []) (fun _ => 0) (fun _ => 0) c1 m1 FU FU (by omega) T0 (by omega) (by decide) (by decide)
  have ta : fX5_tellAll c1 = some c2 := by
    unfold fX5_tellAll
    rw [lt_q, lt_q]
    exact f1
  rw [e1, e2, ta, bv_q, f2]
  rcases f3 with ⟨t, np, nc, nb, nl, cs, cd, ln, A, Ls, as, bs, TT⟩ | ⟨f, p, hp, g1, g2, g3, g4⟩
  · obtain ⟨c3, m3, s1, s2, J⟩ := settle_both X TT
    have P := TT.1.1
    have P3 := J.1
    unfold bX12_read_204
    rw [s1, bv_q, if_pos P.2.2.2.2.2.2.1, s2, bv_q]
    have m13 : m3.1 0 13 = 0 := P3.2.2.2.2.2.2.1
    rcases P3.2.2.2.2.2.2.2 with ⟨q1, q2, q3⟩ | ⟨f, p, k3, k5, kp, q1, q2, q3, q4⟩
    · -- a new book
      have m19 : m3.1 0 19 = nI (1 - lv m) := by rw [P3.2.1.i 0 19 rfl]; exact X.2.1
      obtain ⟨m', x1, x2, x3, x4, x5, x6⟩ := M_rend m13 q3 m19
      have n10 : nl ≤ 10 := TT.2.1.2.2.2.1
      have c9 : (wI c3 100 12 (-1)).1 125 9 = nI nl := by
        rw [wI_k (by decide), J.2.1.i 125 9 rfl]; exact TT.2.1.2.2.2.2.2.2.2.1
      obtain ⟨c5, y1, y2, yB⟩ := C_become (c := wI c3 100 12 (-1)) n10 c9
      have a34 : Agr [(100, some 12)] c3 (wI c3 100 12 (-1)) := Agr.refl.wI rfl
      have B5 : BKF nl c3 c5 := BKF_e (V := [(100, some 12)]) (W := []) n10 yB a34 rfl .refl rfl
      obtain ⟨d1, d2, d3⟩ := book_d X TT J q1 x2 x4 B5
      obtain ⟨b1, _⟩ := book_c X TT J q1 B5
      obtain ⟨c6, y3, y4, y5, y6⟩ := C_fillTables b1 (P := np) TT.2.1.1 (by rw [d2.2.1.2.2, d1.2.1])
      have a57 : Agr [(148, none), (149, none), (147, some 5), (147, some 6), (147, some 7), (150, none), (151, none), (152, some 6), (100, some 11)] c5 (wI (wI c6 152 6 0) 100 11 0) := ((y4.sub rfl).wI rfl).wI rfl
      have B7 : BKF nl c3 (wI (wI c6 152 6 0) 100 11 0) := BKF_e (V := []) n10 B5 .refl rfl a57 rfl
      obtain ⟨D1, D2, D3⟩ := book_d X TT J q1 x2 x4 B7
      obtain ⟨b3, b4, b5, b6⟩ := book_c X TT J q1 B7
      obtain ⟨b7, b8⟩ := book_m X TT J q1 x2
      have AC : Agr (R0c ++ PWc ++ BKW ++ [(100, some 12), (148, none), (149, none), (147, some 5), (147, some 6), (147, some 7), (150, none), (151, none), (152, some 6), (100, some 11)]) c (wI (wI c6 152 6 0) 100 11 0) := ((((ac.sub rfl).trans (P3.1.sub rfl)).trans (a34.sub rfl)).trans (y2.sub rfl)).trans (a57.sub rfl)
      refine ⟨0, wI (wI c6 152 6 0) 100 11 0, m', ?_, x1, 0, 0, A, mLs (ag (fnd nl c2)) Ls, cs, by decide, ⟨?_, ?_, fun i hi => absurd hi (by omega)⟩, ?_, ⟨D2, ?_, ?_, b3, b4 m' D1.2.2, ?_, ⟨fun p y hp hy => ?_, fun l y hl hy => ?_⟩, ?_⟩, ⟨by decide, ?_, ?_, fun i hi => absurd hi (by omega), fun i hi => absurd hi (by omega)⟩, ⟨0, by decide, ?_, fun s hs => ?_⟩, fun i hi => ?_, fun i hi => ?_, fun i hi => ?_⟩
      · unfold RdC
        rw [q2, lt_q, wI_k (show (142 : Nat) ≠ 100 by decide), q1, if_pos rfl, y1, bv_q, y3, bv_q, lt_q, lt_q]
      · rw [a57.i 101 1 rfl, y2.i 101 1 rfl, a34.i 101 1 rfl, P3.1.i 101 1 rfl, z1]; rfl
      · rw [x2.i 0 2 rfl, P3.2.1.i 0 2 rfl, z2]; rfl
      · rw [x3, a57.i 100 12 rfl, y2.i 100 12 rfl, wI_s]
      · rw [D1.1]; exact b7
      · rw [D1.1, D1.2.2]; exact b8
      · rw [D1.2.2]; exact b5
      · rw [D1.2.1] at hp
        rw [wI_k (by decide), wI_k (by decide), y5 p y hp hy, d3 p hp]
        rfl
      · obtain ⟨s, s1, s2⟩ := (D2.2.2.2.2.2.2.2.1 l hl).2.2
        refine ⟨s, s1, s2, ?_⟩
        rw [wI_k (by decide), wI_k (by decide), y6 s y s1 hy]
        unfold feS
        rw [s2]
      · rw [D1.2.2]; exact b6
      · rw [wI_k (by decide), wI_s]; rfl
      · rw [x5]; rfl
      · exact wI_s
      · unfold slt
        rw [Nat.zero_testBit, if_neg (by decide)]
        exact x6 s hs
      · rw [AC.l 107 i rfl]; exact h7 i hi
      · rw [x2.l 7 i rfl, P3.2.1.l 7 i rfl, am.l 7 i rfl]; exact h8 i hi
      · rw [AC.i 207 i rfl]; exact h9 i hi
    · -- a mark
      refine ⟨nI f, wI c3 100 12 (nI p), wI m3 0 17 (nI p), ?_, ?_, read_bad H hv ac am z1 z2 P3.1 P3.2.1 (nI p)⟩
      · unfold RdC
        rw [q2, lt_q, wI_k (show (142 : Nat) ≠ 100 by decide), q1, if_neg (nI_ne0 (by omega) (by omega))]
      · unfold bX12_read_215
        rw [m13, q3, q4, if_pos (by decide), if_neg (show ¬ nI f ≤ (0 : Int32) from nI_ge (a := 0) (b := f) (by omega) (by omega))]
        unfold bX12_read_245
        rw [lt_q, wI_j (show (13 : Nat) ≠ 17 by decide), wI_j (show (15 : Nat) ≠ 17 by decide), m13, q3, if_pos (by decide), if_neg (show ¬ nI f ≤ (0 : Int32) from nI_ge (a := 0) (b := f) (by omega) (by omega))]
  · -- a fault
    have sx : fX5_settle c2 = some c2 := by
      unfold fX5_settle
      rw [g2]
      rcases g4.2.2.1 with rfl | rfl
      · rw [if_pos (show nI 1 = (1 : Int32) from rfl)]
      · rw [if_neg (show ¬ nI 2 = (1 : Int32) by decide), if_pos (show nI 2 = (2 : Int32) from rfl)]
    refine ⟨nI f, wI c2 100 12 (nI p), wI m2 0 17 (nI p), ?_, ?_, read_bad H hv ac am z1 z2 g1 g4.1 (nI p)⟩
    · rw [sx, bv_q]
      unfold RdC
      rw [g3, lt_q, wI_k (show (142 : Nat) ≠ 100 by decide), g2, if_neg (nI_ne0 (by have := g4.2.2.1; omega) (by have := g4.2.2.1; omega))]
    · have F := FM_13 g4
      unfold bX12_read_204
      rw [if_neg F.1]
      unfold bX12_read_215
      rw [if_neg F.2.1, g4.2.2.2.1]
      unfold bX12_read_245
      rw [lt_q, wI_j (show (13 : Nat) ≠ 17 by decide), if_neg F.2.1, g4.2.1]
