/-- bytes of a word -/
theorem by_24 (w : Int32) : (w >>> ((24 : Int32) &&& 31)).toInt8 = (ushr w 24).toInt8 := by
  apply Int8.toBitVec_inj.mp
  apply BitVec.eq_of_getLsbD_eq
  intro i hi
  have a : i < 32 := by omega
  have b : 24 + i < 32 := by omega
  have d : ¬ 32 ≤ i := by omega
  simp [ushr, BitVec.getLsbD_signExtend, BitVec.getLsbD_sshiftRight]
  simp [a, b, d]
theorem by_16 (w : Int32) : (w >>> ((16 : Int32) &&& 31)).toInt8 = (ushr w 16).toInt8 := by
  apply Int8.toBitVec_inj.mp
  apply BitVec.eq_of_getLsbD_eq
  intro i hi
  have a : i < 32 := by omega
  have b : 16 + i < 32 := by omega
  have d : ¬ 32 ≤ i := by omega
  simp [ushr, BitVec.getLsbD_signExtend, BitVec.getLsbD_sshiftRight]
  simp [a, b, d]
theorem by_8 (w : Int32) : (w >>> ((8 : Int32) &&& 31)).toInt8 = (ushr w 8).toInt8 := by
  apply Int8.toBitVec_inj.mp
  apply BitVec.eq_of_getLsbD_eq
  intro i hi
  have a : i < 32 := by omega
  have b : 8 + i < 32 := by omega
  have d : ¬ 32 ≤ i := by omega
  simp [ushr, BitVec.getLsbD_signExtend, BitVec.getLsbD_sshiftRight]
  simp [a, b, d]
theorem by_0 (w : Int32) : (w >>> ((0 : Int32) &&& 31)).toInt8 = (ushr w 0).toInt8 := by
  apply Int8.toBitVec_inj.mp
  apply BitVec.eq_of_getLsbD_eq
  intro i hi
  have a : i < 32 := by omega
  have b : 0 + i < 32 := by omega
  have d : ¬ 32 ≤ i := by omega
  simp [ushr, BitVec.getLsbD_signExtend, BitVec.getLsbD_sshiftRight]
def RTn (T : Nat) (c m : Hp) : Prop := c.1 101 1 = nI T ∧ m.1 0 2 = nI T ∧ ∀ i, i < T → c.1 102 i = m.1 1 i
def WTc : Ws := [(101, some 1), (102, none)]
def WTm : Ws := [(0, some 2), (1, none)]
theorem RTn_push {T : Nat} {c m : Hp} (h : RTn T c m) (v : Int32) : RTn (T + 1) (wI (wI c 102 T v) 101 1 (nI (T + 1))) (wI (wI m 1 T v) 0 2 (nI (T + 1))) := by
  refine ⟨wI_s, wI_s, fun i hi => ?_⟩
  simp only [wI_r]
  by_cases e : i = T
  · simp [e]
  · simp [e]; exact h.2.2 i (by omega)
theorem C_add1 {T : Nat} {c : Hp} {w k : Int32} {f : Nat} (h : c.1 101 1 = nI T) (hT : T < 2000) (hk : ¬ k < 0) : lX8_add_3 (f + 1) w k c = lX8_add_3 f w (k + (-8)) (wI (wI c 102 T (ushr w k).toInt8.toInt32) 101 1 (nI (T + 1))) := by
  have h1 : ¬ (2000 : Int32) ≤ nI T := nI_ge (b := 2000) hT (by decide)
  simp only [lX8_add_3, bX8_add_3, h, if_neg hk, if_neg h1, ck_of (nI_inb hT (by decide)), nI_ix (show T < 2 ^ 31 by omega), lt_e, pk_vb]
  rw [wI_k (by decide), h, nI_1]
theorem M_put1 {T : Nat} {m : Hp} {w k : Int32} {f : Nat} (h : m.1 0 2 = nI T) (hT : T < 2000) (hk : ¬ k < 0) : lX12_put_3 (f + 1) w k m = lX12_put_3 f w (k + (-8)) (wI (wI m 1 T (w >>> (k &&& 31)).toInt8.toInt32) 0 2 (nI (T + 1))) := by
  simp only [lX12_put_3, bX12_put_3, h, if_neg hk, ck_of (nI_inb hT (by decide)), nI_ix (show T < 2 ^ 31 by omega), lt_e, pk_vb]
  rw [wI_k (by decide), h, nI_1]
theorem C_add0 {c : Hp} {w k : Int32} {f : Nat} (hk : k < 0) : lX8_add_3 (f + 1) w k c = some c := by
  simp only [lX8_add_3, bX8_add_3, if_pos hk]
theorem M_put0 {c : Hp} {w k : Int32} {f : Nat} (hk : k < 0) : lX12_put_3 (f + 1) w k c = some c := by
  simp only [lX12_put_3, bX12_put_3, if_pos hk]
theorem put_1 {T E : Nat} {c m c0 m0 : Hp} {w k : Int32} {f : Nat} (h : RTn T c m) (hT : T < 2000) (hk : ¬ k < 0) (hb : (w >>> (k &&& 31)).toInt8 = (ushr w k).toInt8) (ac : Agr WTc c0 c) (am : Agr WTm m0 m)
    (K : ∀ c' m', RTn (T + 1) c' m' → Agr WTc c0 c' → Agr WTm m0 m' → ∃ c1 m1, lX8_add_3 f w (k + (-8)) c' = some c1 ∧ lX12_put_3 f w (k + (-8)) m' = some m1 ∧ RTn E c1 m1 ∧ Agr WTc c0 c1 ∧ Agr WTm m0 m1) :
    ∃ c1 m1, lX8_add_3 (f + 1) w k c = some c1 ∧ lX12_put_3 (f + 1) w k m = some m1 ∧ RTn E c1 m1 ∧ Agr WTc c0 c1 ∧ Agr WTm m0 m1 := by
  rw [C_add1 h.1 hT hk, M_put1 h.2.1 hT hk, hb]
  exact K _ _ (RTn_push h _) ((ac.wI rfl).wI rfl) ((am.wI rfl).wI rfl)
theorem put_4 {T : Nat} {c m c0 m0 : Hp} (w : Int32) (h : RTn T c m) (hT : T + 4 ≤ 2000) (ac : Agr WTc c0 c) (am : Agr WTm m0 m) :
    ∃ c1 m1, fX8_add w c = some c1 ∧ fX12_put w m = some m1 ∧ RTn (T + 4) c1 m1 ∧ Agr WTc c0 c1 ∧ Agr WTm m0 m1 := by
  show ∃ c1 m1, lX8_add_3 (19995 + 1 + 1 + 1 + 1 + 1) w 24 c = some c1 ∧ lX12_put_3 (19995 + 1 + 1 + 1 + 1 + 1) w 24 m = some m1 ∧ RTn (T + 4) c1 m1 ∧ Agr WTc c0 c1 ∧ Agr WTm m0 m1
  refine put_1 h (by omega) (by decide) (by_24 w) ac am fun c m h ac am => ?_
  refine put_1 h (by omega) (by decide) (by_16 w) ac am fun c m h ac am => ?_
  refine put_1 h (by omega) (by decide) (by_8 w) ac am fun c m h ac am => ?_
  refine put_1 h (by omega) (by decide) (by_0 w) ac am fun c m h ac am => ?_
  exact ⟨c, m, C_add0 (by decide), M_put0 (by decide), h, ac, am⟩
theorem sim_feed0 {T : Nat} {c m : Hp} (a1 a2 a3 a4 a5 : Int32) (h : RTn T c m) (hT : T ≤ 2000) :
    ∃ r c1 m1, fX11_feed a1 a2 a3 a4 a5 c = some (r, c1) ∧ fX12_feed a1 a2 a3 a4 a5 m = some (r, m1) ∧ (∃ T1, T1 ≤ 2000 ∧ RTn T1 c1 m1) ∧ Agr WTc c c1 ∧ Agr WTm m m1 := by
  have e20 : nI T + 20 = nI (T + 20) := nI_add T 20
  by_cases hr : T + 20 ≤ 2000
  · have n1 : ¬ (2000 : Int32) < nI (T + 20) := nI_nlt (a := 2000) hr (by decide)
    have n2 : nI (T + 20) ≤ (2000 : Int32) := nI_le (b := 2000) hr (by decide)
    obtain ⟨c1, m1, p1, q1, h1, ac, am⟩ := put_4 a1 h (by omega) (Agr.refl (h := c)) (Agr.refl (h := m))
    obtain ⟨c2, m2, p2, q2, h2, ac, am⟩ := put_4 a2 h1 (by omega) ac am
    obtain ⟨c3, m3, p3, q3, h3, ac, am⟩ := put_4 a3 h2 (by omega) ac am
    obtain ⟨c4, m4, p4, q4, h4, ac, am⟩ := put_4 a4 h3 (by omega) ac am
    obtain ⟨c5, m5, p5, q5, h5, ac, am⟩ := put_4 a5 h4 (by omega) ac am
    refine ⟨nI (T + 20), c5, m5, ?_, ?_, ⟨T + 20, hr, h5⟩, ac, am⟩
    · simp only [fX11_feed, fX8_hasRoom, h.1, e20, if_neg n1, ck_of zb_1, bi_some, if_neg (show ¬ (1 : Int32) = 0 by decide), p1, p2, p3, p4, p5, bv_some, h5.1]
    · simp only [fX12_feed, h.2.1, e20, if_pos n2, q1, q2, q3, q4, q5, bv_some, h5.2.1]
  · have n1 : (2000 : Int32) < nI (T + 20) := nI_lt (a := 2000) (by omega) (by omega)
    have n2 : ¬ nI (T + 20) ≤ (2000 : Int32) := nI_ge (a := 2000) (by omega) (by omega)
    refine ⟨-1, c, m, ?_, ?_, ⟨T, hT, h⟩, .refl, .refl⟩
    · simp only [fX11_feed, fX8_hasRoom, h.1, e20, if_pos n1, ck_of zb_0, bi_some, if_pos]
    · simp only [fX12_feed, h.2.1, e20, if_neg n2]
theorem sim_back0 {T : Nat} {c m : Hp} (a1 : Int32) (h : RTn T c m) (hT : T ≤ 2000) :
    ∃ r c1 m1, fX11_back a1 c = some (r, c1) ∧ fX12_back a1 m = some (r, m1) ∧ (∃ T1, T1 ≤ 2000 ∧ RTn T1 c1 m1) ∧ Agr WTc c c1 ∧ Agr WTm m m1 := by
  by_cases hr : rng a1 0 (nI T) = true
  · obtain ⟨j, _, hj, rfl⟩ := (rng_c (a := 0) (by decide) (by omega)).mp hr
    have n1 : ¬ nI j < 0 := nI_pos (by omega)
    have n2 : nI j ≤ nI T := nI_le hj (by omega)
    refine ⟨nI (T - j), wI c 101 1 (nI (T - j)), wI m 0 2 (nI (T - j)), ?_, ?_, ⟨T - j, by omega, wI_s, wI_s, fun i hi => ?_⟩, Agr.refl.wI rfl, Agr.refl.wI rfl⟩
    · simp only [fX11_back, C_within, h.1, hr, b2_t, bi_some, if_neg (show ¬ (1 : Int32) = 0 by decide), lt_e, pk_sub hj, wI_s]
    · simp only [fX12_back, h.2.1, if_neg n1, if_pos n2, lt_e, pk_sub hj, wI_s]
    · rw [wI_k (h := c) (a := 102) (by decide), wI_k (h := m) (a := 1) (by decide)]; exact h.2.2 i (by omega)
  · have hf : rng a1 0 (nI T) = false := Bool.eq_false_iff.mpr hr
    refine ⟨-1, c, m, ?_, ?_, ⟨T, hT, h⟩, .refl, .refl⟩
    · simp only [fX11_back, C_within, h.1, hf, b2_f, bi_some, if_pos]
    · unfold fX12_back
      by_cases n1 : a1 < 0
      · rw [if_pos n1]
      · rw [if_neg n1, h.2.1, if_neg]
        intro n2
        apply hr
        unfold rng
        rw [decide_eq_true (i_nlt.mp n1), decide_eq_true n2]; rfl
