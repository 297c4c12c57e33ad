/-- expressions: steps -/
def WF : Ws := [(0, some 13), (0, some 14)]
theorem tk_goes2 {c0 m0 c m : Hp} {K sd t κ : Nat} {kd pl : Nat → Nat} (X : CTX c0 m0 K kd pl sd) (P : PB c0 m0 K kd sd t c m) (hκ : kd t = κ) (h2 : 2 ≤ κ) : ∃ v c1 m1, fX5_take (nI κ) c = some (v, c1) ∧ fX12_goesOn m = some m1 ∧ ((v = 1 ∧ t < 400 ∧ PB c0 m0 K kd sd (t + 1) c1 m1 ∧ Agr W67 c c1 ∧ Agr W11 m m1) ∨ (v = 0 ∧ FF c0 m0 sd c1 m1 ∧ Agr WF m m1)) := by
  by_cases c4 : t < 400
  · obtain ⟨v, c1, m1, e1, e2, h⟩ := tk_goes X P hκ h2
    rcases h with h | ⟨rfl, f, p, g1, g2, g3, g4, g5⟩
    · exact ⟨v, c1, m1, e1, e2, .inl h⟩
    · have := M_goesOn P c4
      rw [e2] at this
      rw [Option.some.inj this] at g5
      have z := (FM_13 g5).1
      rw [wI_j (by decide)] at z
      exact absurd P.2.2.2.2.2.2.1 z
  · obtain ⟨n1, n2⟩ := tk_nx X P.2.2.1 (by omega)
    have e4 : t = 400 := by omega
    obtain ⟨c1, m1, e1, e2, e3, e4', e5⟩ := C_fault X P (f := 2) (.inr rfl)
    obtain ⟨p1, p2, p3, p4, p5, p6, p7, p8⟩ := P
    refine ⟨0, c1, m1, ?_, ?_, .inr ⟨rfl, e4', e5⟩⟩
    · unfold fX5_take bX5_take_13 bX5_take_28 bX5_take_38
      rw [p5, hκ, if_pos rfl, lt_q, if_neg (by decide), if_neg (show ¬ c.1 142 6 < 400 by rw [p4, e4]; decide), if_neg (by decide), lt_q, wI_j (show (6 : Nat) ≠ 8 by decide), ck_of e2, lt_q, wI_k (show (105 : Nat) ≠ 142 by decide), show (2 : Int32) = nI 2 from rfl, e1, ck_of zb_0]
    · unfold fX12_goesOn
      rw [if_pos (show m.1 0 11 = 400 by rw [p6, e4]; rfl), show (2 : Int32) = nI 2 from rfl, e3, bv_q]
theorem D_unit {m0 m : Hp} {sd f p : Nat} (F : FM m0 sd f p m) : fX12_unit m = some m := by
  unfold fX12_unit bX12_unit_88
  rw [D_is F, bi_q, if_pos rfl, if_neg (FM_13 F).1, D_fail F, bv_q]
theorem D_23 {m0 m : Hp} {sd f p : Nat} {r12 : Int32 → Int32 → Hp → Option Hp} (F : FM m0 sd f p m) (g : Nat) (x : Int32) : lX12_expression_23 r12 (g + 1) x m = some m := by
  rw [lX12_expression_23]
  unfold bX12_expression_23
  rw [D_is F, bi_q, if_pos rfl, D_unit F, bv_q, if_neg (FM_13 F).2.1]
theorem D_12 {m0 m : Hp} {sd f p : Nat} (F : FM m0 sd f p m) (g : Nat) (x y : Int32) : lX12_expression_12 (g + 1) x y m = some m := by
  rw [lX12_expression_12]
  unfold bX12_expression_12
  rw [if_neg (FM_13 F).1, ite_self]
theorem D_exp {m0 m : Hp} {sd f p : Nat} (F : FM m0 sd f p m) : Ok (fX12_expression m) (FM m0 sd f p) := by
  unfold fX12_expression
  rw [lt_q, lt_q, lt_q]
  have F1 : FM m0 sd f p (wI m 0 53 0) := FM_w F (AgrM.refl.wI (pw_0 rfl)) ⟨wI_j (by decide), wI_j (by decide), wI_j (by decide)⟩
  rw [show FU = 19999 + 1 from rfl, D_12 F1, ok_some]
  exact F1
theorem D_pop {m0 m : Hp} {sd f p b : Nat} {st : List Nat} (F : FM m0 sd f p m) (ok : okS st = true) (h20 : st.length ≤ 20) (hb : m.1 0 49 = nI b) (r1 : 420 * sd ≤ b) (r2 : b + ops st ≤ 420 * sd + 420) (s2 : sd < 2) (h53 : m.1 0 53 = nI st.length) (sk : skM st m) : Ok (fX12_comesOut 0 m) (FM m0 sd f p) := by
  unfold fX12_comesOut
  obtain ⟨m1, e1, ⟨e2, _⟩, e3⟩ := M_pop (k := 1) (sd := sd) (.inl rfl) st b FU m ok h20 (show st.length < 20000 by omega) hb (by omega) h53 sk r1 r2
  have e1' : lX12_comesOut_0 FU 0 m = some m1 := e1
  rw [e1', ok_some]
  exact FM_w F e3 ⟨e2.i 0 11 rfl, e2.i 0 13 rfl, e2.i 0 14 rfl⟩
theorem D_96 {m0 m : Hp} {sd f p b : Nat} {st : List Nat} {r12 : Int32 → Int32 → Hp → Option Hp} (F : FM m0 sd f p m) (ok : okS st = true) (h20 : st.length ≤ 20) (hb : m.1 0 49 = nI b) (r1 : 420 * sd ≤ b) (r2 : b + ops st ≤ 420 * sd + 420) (s2 : sd < 2) (h53 : m.1 0 53 = nI st.length) (sk : skM st m) (g : Nat) (x : Int32) : Ok (lX12_expression_96 r12 (g + 1) x m) (FM m0 sd f p) := by
  rw [lX12_expression_96]
  unfold bX12_expression_96 bX12_expression_145 bX12_expression_186 bX12_expression_204
  simp only [D_is F, bi_q, ↓reduceIte, lt_q, D_fail F, bv_q, ite_self, bv_id]
  exact D_pop F ok h20 hb r1 r2 s2 h53 sk
def exS (c0 m0 : Hp) (K : Nat) (kd : Nat → Nat) (sd cs cd t0 sl : Nat) (cS mS c1 m1 : Hp) : Prop := ∃ t1 e1, EX c0 m0 K kd sd cs cd t1 [] e1 cS mS c1 m1 ∧ cs + sl + e1.length + 1 ≤ t1 ∧ dep e1 0 = some 1 ∧ t0 < t1
theorem EX_open {c0 m0 cS mS c m c1 m1 : Hp} {K sd cs cd t : Nat} {kd : Nat → Nat} {st : List Nat} {e : Cd} (E : EX c0 m0 K kd sd cs cd t st e cS mS c m) (h6 : nst st < 6) (P : PB c0 m0 K kd sd (t + 1) c1 m1) (C : Agr W67 (wI c 146 st.length 14) c1) (M : Agr W11 (wI m 0 12 (nI (nst st + 1))) m1) : EX c0 m0 K kd sd cs cd (t + 1) (14 :: st) e cS mS c1 (wI (wI m1 37 st.length 6) 0 53 (nI (st.length + 1))) := by
  obtain ⟨E1, ⟨E2, E3⟩, E4, E5, E6, E7, E8, E9, E10, E11, E12, E13, ⟨E14, E15⟩, E16, E17⟩ := E
  have C2 : Agr [(142, some 6), (142, some 7), (146, none)] c c1 := (Agr.refl.wI rfl).trans (C.sub rfl)
  have M2 : Agr [(0, some 11), (0, some 12), (37, none), (0, some 53)] m (wI (wI m1 37 st.length 6) 0 53 (nI (st.length + 1))) := (((Agr.refl.wI rfl).trans (M.sub rfl)).wI rfl).wI rfl
  have M3 : Agr [(37, none), (0, some 53)] m1 (wI (wI m1 37 st.length 6) 0 53 (nI (st.length + 1))) := (Agr.refl.wI rfl).wI rfl
  refine ⟨PB_w P (W := []) .refl rfl rfl (AgrM.ag rfl M3) ⟨M3.i 0 11 rfl, M3.i 0 13 rfl, M3.i 0 15 rfl, M3.i 0 16 rfl⟩, ⟨by rw [okS, E2]; rfl, by rw [nst, if_pos rfl]; omega⟩, ⟨by rw [C.i 146 _ rfl, wI_s]; rfl, skC_w E4 fun j hj => by rw [C.i 146 _ rfl, wI_j (by omega)]⟩, ⟨by rw [wI_k (by decide), wI_s]; rfl, skM_w E5 fun j hj => by rw [wI_k (by decide), wI_j (by omega), M.i 37 j rfl, wI_k (by decide)]⟩, by rw [C2.i 125 11 rfl]; exact E6, by rw [M2.i 0 49 rfl]; exact E7, wI_s, ?_, cwG_w E10 fun j _ => C2.i 129 j rfl, cdM_w E11 fun j _ => ⟨M2.i 35 j rfl, M2.i 36 j rfl⟩, E12, E13, ⟨E14.trans (C2.sub rfl), fun j hj => by rw [C2.i 129 j rfl]; exact E15 j hj⟩, E16.trans (M2.sub rfl), fun j hj => by rw [M2.i 35 j rfl, M2.i 36 j rfl]; exact E17 j hj⟩
  rw [wI_j (by decide), wI_k (by decide), M.i 0 12 rfl, wI_s, nst, if_pos rfl]
/-- behind a bracket that closes -/
theorem EX_close {c0 m0 cS mS c m : Hp} {K sd cs cd t : Nat} {kd : Nat → Nat} {r : List Nat} {e : Cd} (E : EX c0 m0 K kd sd cs cd t (14 :: r) e cS mS c m) : EX c0 m0 K kd sd cs cd t r e cS mS c (wI (wI m 0 53 (nI r.length)) 0 12 (nI (nst r))) := by
  obtain ⟨E1, ⟨E2, E3⟩, E4, E5, E6, E7, E8, E9, E10, E11, E12, E13, ⟨E14, E15⟩, E16, E17⟩ := E
  have M : Agr [(0, some 53), (0, some 12)] m (wI (wI m 0 53 (nI r.length)) 0 12 (nI (nst r))) := (Agr.refl.wI rfl).wI rfl
  rw [nst, if_pos rfl] at E3
  exact ⟨PB_w E1 (W := []) .refl rfl rfl (AgrM.ag rfl M) ⟨M.i 0 11 rfl, M.i 0 13 rfl, M.i 0 15 rfl, M.i 0 16 rfl⟩, ⟨(okS_h E2).1, by omega⟩, E4.2, skM_w E5.2 fun j _ => M.i 37 j rfl, E6, by rw [M.i 0 49 rfl]; exact E7, by rw [wI_j (by decide), wI_s], wI_s, E10, cdM_w E11 fun j _ => ⟨M.i 35 j rfl, M.i 36 j rfl⟩, E12, E13, ⟨E14, E15⟩, E16.trans (M.sub rfl), fun j hj => by rw [M.i 35 j rfl, M.i 36 j rfl]; exact E17 j hj⟩
