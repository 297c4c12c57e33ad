/-- the reading's first state, both -/
theorem narb (v : Int32) : vp_nar .byte v &&& 255 = v &&& 255 := by
  show v.toInt8.toInt32 &&& 255 = v &&& 255
  apply Int32.toBitVec_inj.mp
  rw [Int32.toBitVec_and, Int32.toBitVec_and, Int8.toBitVec_toInt32, Int32.toBitVec_toInt8, show (255 : Int32).toBitVec = 255#32 from rfl]
  apply BitVec.eq_of_getLsbD_eq
  intro i hi
  rw [BitVec.getLsbD_and, BitVec.getLsbD_and]
  by_cases h8 : i < 8
  · rw [BitVec.getLsbD_signExtend, if_pos h8, BitVec.getLsbD_signExtend, if_pos hi]
    simp [h8, hi]
  · have : BitVec.getLsbD (255#32) i = false := by
      have h : ∀ k, k < 32 → ¬ k < 8 → BitVec.getLsbD (255#32) k = false := by decide +kernel
      exact h i hi h8
    rw [this, Bool.and_false, Bool.and_false]
theorem and255 (v : Int32) : ∃ n, n < 256 ∧ v &&& 255 = nI n := by
  refine ⟨(v.toBitVec &&& 255#32).toNat, ?_, ?_⟩
  · rw [BitVec.toNat_and]
    exact Nat.lt_of_le_of_lt Nat.and_le_right (by decide)
  · apply Int32.toBitVec_inj.mp
    rw [Int32.toBitVec_and]
    show v.toBitVec &&& 255#32 = BitVec.ofNat 32 _
    rw [BitVec.ofNat_toNat, BitVec.setWidth_eq]
theorem tx_of (h : Hp) : ∃ tx : Nat → Nat, ∀ i, tx i < 256 ∧ h.1 1 i &&& 255 = nI (tx i) := by
  refine ⟨fun i => Classical.choose (and255 (h.1 1 i)), fun i => Classical.choose_spec (and255 (h.1 1 i))⟩
def RdC (h : Hp) : Option (Int32 × Hp) := lt (wI h 100 12 (h.1 142 9)) (fun h6 => (if (h6.1 142 8) = 0 then bv (fX0_become h6) (fun h7 => bv (fX6_fillTables h7) (fun h8 => lt (wI h8 152 6 0) (fun h9 => lt (wI h9 100 11 0) (fun h10 => some (0, h10))))) else some ((h6.1 142 8), h6)))
def R0c : Ws := [(104, none), (105, none), (106, none), (103, some 4), (101, some 1)]
def R0m : Ws := [(3, none), (4, none), (5, none), (6, none), (0, some 10), (2, none), (0, some 4), (0, some 2), (0, some 11), (0, some 12), (0, some 13), (0, some 15), (0, some 19)]
theorem TkR_a {K : Nat} {kd pl : Nat → Nat} {c m c1 m1 : Hp} {Wc Wm : Ws} (H : TkR K kd pl c m) (ac : Agr Wc c c1) (am : Agr Wm m m1) (hc : djw [(104, none), (105, none), (106, none)] Wc = true) (hm : djw [(3, none), (4, none), (5, none), (6, none)] Wm = true) : TkR K kd pl c1 m1 := by
  obtain ⟨h1, h2, h3, h4, h5⟩ := H
  refine ⟨h1, h2, fun j hj => ?_, h4, h5⟩
  rw [(ac 104 j (djw_wm hc rfl)).1, (ac 105 j (djw_wm hc rfl)).1, (ac 106 j (djw_wm hc rfl)).2, (am 3 j (djw_wm hm rfl)).1, (am 4 j (djw_wm hm rfl)).1, (am 5 j (djw_wm hm rfl)).1, (am 6 j (djw_wm hm rfl)).2]
  exact h3 j hj
theorem read_start {T lv : Nat} {c m : Hp} (hT : T ≤ 2000) (hlv : lv < 2) (R : RTn T c m) (h18 : m.1 0 18 = nI lv) (Wc : KWc c) (Wm : KWm m) : ∃ K kd pl c0 m0 c1 m1, fX11_read c = bv (fX5_tellAll c1) (fun h4 => bv (fX5_settle h4) (fun h5 => RdC h5)) ∧ fX12_read m = lX12_read_182 FU m1 ∧ CTX c0 m0 K kd pl (1 - lv) ∧ TSt c0 m0 K kd (1 - lv) 0 0 0 0 0 0 0 0 (fun _ => none) (fun _ => []) (fun _ => 0) (fun _ => 0) c1 m1 ∧ Agr R0c c c0 ∧ Agr R0m m m0 ∧ c0.1 101 1 = 0 ∧ m0.1 0 2 = 0 := by
  obtain ⟨R1, R2, R3⟩ := R
  obtain ⟨tx, htx⟩ := tx_of m
  have a4 : Agr [(0, some 4)] m (wI m 0 4 (nI T)) := Agr.refl.wI rfl
  obtain ⟨mt, t1, t2, t3, t4⟩ := M_copy hT T 0 (wI m 0 4 (nI T)) FU (by omega) (by omega) wI_s (show T < 20000 by omega)
  have at2 : Agr [(2, none), (0, some 4), (0, some 2)] m (wI mt 0 2 0) := ((a4.sub rfl).trans (t2.sub rfl)).wI rfl
  have Tc : TXc T tx c := ⟨R1, fun i hi => by rw [R3 i hi]; exact (htx i).2⟩
  have Tm : TXm T tx (wI mt 0 2 0) := ⟨by rw [wI_j (by decide), t2.i 0 4 rfl, wI_s], fun i hi => by rw [wI_k (by decide), t3 i (by omega) hi, narb, wI_k (by decide)]; exact (htx i).2⟩
  have Wm' : KWm (wI mt 0 2 0) := fun i hi => by rw [at2.l 7 i rfl]; exact Wm i hi
  obtain ⟨hc, hm, K, kd, pl, q1, q2, q3, q4, q5⟩ := scan_all hT (fun i _ => (htx i).1) Tc Tm Wc Wm'
  -- the class begins
  obtain ⟨c1, b1, b2, b3, b4, b5, b6, b7, b8, b9, b10, b11, b12, b13, b14⟩ := C_beg0 (wI hc 101 1 0)
  have ac0 : Agr R0c c (wI hc 101 1 0) := (q4.sub rfl).wI rfl
  -- the model begins
  have m18 : hm.1 0 18 = nI lv := by rw [q5.i 0 18 rfl, at2.i 0 18 rfl]; exact h18
  have e19 : (1 : Int32) - nI lv = nI (1 - lv) := by
    obtain rfl | rfl : lv = 0 ∨ lv = 1 := by omega
    all_goals rfl
  let m0 := wI (wI (wI (wI (wI hm 0 11 0) 0 12 0) 0 13 0) 0 15 0) 0 19 (nI (1 - lv))
  let m8 := wI (wI (wI (wI (wI (wI m0 0 20 0) 11 (1 - lv) 0) 13 (1 - lv) 0) 14 (1 - lv) 0) 17 (1 - lv) 0) 25 (1 - lv) 10
  let m9 := wI (wI (wI (wI (wI m8 26 (3 * (1 - lv) + 0) 0) 26 (3 * (1 - lv) + 1) 0) 26 (3 * (1 - lv) + 2) 0) 0 42 (nI (150 * (1 - lv)))) 0 49 (nI (420 * (1 - lv)))
  have am0 : Agr [(0, some 11), (0, some 12), (0, some 13), (0, some 15), (0, some 19)] hm m0 := ((((Agr.refl.wI rfl).wI rfl).wI rfl).wI rfl).wI rfl
  have am8 : AgrM (1 - lv) m0 m8 := (((((AgrM.refl.wI (pw_0 rfl)).wI (pw_1 rfl)).wI (pw_1 rfl)).wI (pw_1 rfl)).wI (pw_1 rfl)).wI (pw_1 rfl)
  have am9 : AgrM (1 - lv) m0 m9 := ((((am8.wI (pw_3 rfl (by decide))).wI (pw_3 rfl (by decide))).wI (pw_3 rfl (by decide))).wI (pw_0 rfl)).wI (pw_0 rfl)
  have m19 : m0.1 0 19 = nI (1 - lv) := rfl
  have rm : fX12_read m = lX12_read_182 FU m9 := by
    unfold fX12_read
    rw [R2, lt_q, lt_q, show (0 : Int32) = nI 0 from rfl, t1]
    unfold M_rd
    rw [lt_q, q2, bv_q, lt_q, lt_q, lt_q, lt_q, wI_j (show (18 : Nat) ≠ 15 by decide), wI_j (show (18 : Nat) ≠ 13 by decide), wI_j (show (18 : Nat) ≠ 12 by decide), wI_j (show (18 : Nat) ≠ 11 by decide), m18, e19, lt_q]
    show lt (wI m0 0 20 0) (fun h8 => ck (inb (h8.1 0 19) 2) (lt (wI h8 11 (ix (h8.1 0 19)) 0) (fun h9 => ck (inb (h9.1 0 19) 2) (lt (wI h9 13 (ix (h9.1 0 19)) 0) (fun h10 => ck (inb (h10.1 0 19) 2) (lt (wI h10 14 (ix (h10.1 0 19)) 0) (fun h11 => ck (inb (h11.1 0 19) 2) (lt (wI h11 17 (ix (h11.1 0 19)) 0) (fun h12 => ck (inb (h12.1 0 19) 2) (lt (wI h12 25 (ix (h12.1 0 19)) 10) (fun h13 => lt 0 (fun v14 => lX12_read_133 FU v14 h13)))))))))))) = _
    have x2 : inb (nI (1 - lv)) 2 = true := nI_inb (by omega) (by decide)
    have xx : ix (nI (1 - lv)) = 1 - lv := nI_ix (by omega)
    simp only [lt_q, wI_j (show (19 : Nat) ≠ 20 by decide), wI_k (show (0 : Nat) ≠ 11 by decide), wI_k (show (0 : Nat) ≠ 13 by decide), wI_k (show (0 : Nat) ≠ 14 by decide), wI_k (show (0 : Nat) ≠ 17 by decide), m19, ck_of x2, xx]
    exact M_133 (sd := 1 - lv) (m := m8) (by omega) rfl
  refine ⟨K, kd, pl, wI hc 101 1 0, m0, c1, m9, ?_, rm, ⟨TkR_a q3 (Agr.refl.wI rfl : Agr [(101, some 1)] hc (wI hc 101 1 0)) am0 rfl rfl, m19, by omega⟩, ?_, ac0, ((at2.sub rfl).trans (q5.sub rfl)).trans (am0.sub rfl), wI_s, ?_⟩
  · unfold fX11_read
    rw [q1, bv_q, lt_q, b1, bv_q]
    rfl
  · have T0 := q3.2.2.1 0 (by have := q3.1; omega)
    have P : PB (wI hc 101 1 0) m0 K kd (1 - lv) 0 c1 m9 := ⟨b2.sub rfl, am9, by have := q3.1; omega, b11, by rw [b12, wI_k (by decide)]; exact T0.2.2.1, rfl, rfl, .inl ⟨b13, b14, rfl⟩⟩
    have g11 : m9.1 11 (1 - lv) = 0 := by
      show (wI (wI m0 0 20 0) 11 (1 - lv) 0).1 11 (1 - lv) = 0
      exact wI_s
    have g13 : m9.1 13 (1 - lv) = 0 := by
      show (wI (wI (wI m0 0 20 0) 11 (1 - lv) 0) 13 (1 - lv) 0).1 13 (1 - lv) = 0
      exact wI_s
    have g14 : m9.1 14 (1 - lv) = 0 := by
      show (wI (wI (wI (wI m0 0 20 0) 11 (1 - lv) 0) 13 (1 - lv) 0) 14 (1 - lv) 0).1 14 (1 - lv) = 0
      exact wI_s
    have g17 : m9.1 17 (1 - lv) = 0 := by
      show (wI (wI (wI (wI (wI m0 0 20 0) 11 (1 - lv) 0) 13 (1 - lv) 0) 14 (1 - lv) 0) 17 (1 - lv) 0).1 17 (1 - lv) = 0
      exact wI_s
    have g25 : m9.1 25 (1 - lv) = 10 := by
      show m8.1 25 (1 - lv) = 10
      exact wI_s
    have g26 : ∀ r, r < 3 → m9.1 26 (3 * (1 - lv) + r) = 0 := fun r hr => by
      show (wI (wI (wI m8 26 (3 * (1 - lv) + 0) 0) 26 (3 * (1 - lv) + 1) 0) 26 (3 * (1 - lv) + 2) 0).1 26 (3 * (1 - lv) + r) = 0
      obtain rfl | rfl | rfl : r = 0 ∨ r = 1 ∨ r = 2 := by omega
      · rw [wI_j (by omega), wI_j (by omega), wI_s]
      · rw [wI_j (by omega), wI_s]
      · rw [wI_s]
    have N0 : NmR 0 0 0 c1 m9 := by
      refine ⟨rfl, fun _ => (0, 0), fun k hk => absurd hk (by omega), fun s i _ hi => ?_, fun k k' _ hk => absurd hk (by omega)⟩
      exfalso
      unfold cntN at hi
      split at hi
      · omega
      · split at hi <;> omega
    have U0 : CU K kd (1 - lv) 0 0 0 0 0 (c1.1 142 8 = 0) (fun _ => []) (fun _ => 0) (fun _ => 0) c1 m9 := ⟨rfl, rfl, fun l hl => absurd hl (by omega), fun l l' _ hl => absurd hl (by omega), fun l hl => absurd hl (by omega)⟩
    have V0 : CVl (1 - lv) 0 0 0 c1 m9 := ⟨fun p hp => absurd hp (by omega), fun q p hq hp => (by
      rw [b9 q hq]
      show bit (nI 0) (nI p) = false
      rw [bit_nI (by omega), Nat.zero_testBit]), fun l hl => absurd hl (by omega)⟩
    exact ⟨⟨P, rfl, b8, rfl, rfl, Nat.le_refl _⟩, ⟨by decide, by decide, by decide, by decide, b3, b4, b5, b6, g11, g13, g14, g17, by rw [b7, g25]⟩, N0, Nat.le_refl _, Nat.le_refl _, U0, fun _ => V0, fun r hr => ⟨b10 r hr, g26 r hr⟩⟩
  · show hm.1 0 2 = 0
    rw [q5.i 0 2 rfl, wI_s]
