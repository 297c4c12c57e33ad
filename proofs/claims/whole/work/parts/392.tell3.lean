/-- rules are told -/
theorem ltT_h {K sd np np' cd cd' ln i : Nat} {kd : Nat → Nat} {U U' : Prop} {m m1 : Hp} {x : Lit} (h : ltT K kd sd np cd U m i x) (f2 : ∀ j, j < 420 * sd + cd → m1.1 35 j = m.1 35 j ∧ m1.1 36 j = m.1 36 j) (f3 : ∀ i, i < 150 * sd + ln → m1.1 29 i = m.1 29 i ∧ m1.1 30 i = m.1 30 i ∧ m1.1 31 i = m.1 31 i ∧ m1.1 32 i = m.1 32 i ∧ m1.1 33 i = m.1 33 i ∧ m1.1 34 i = m.1 34 i) (hi : i < 150 * sd + ln) (hc : cd ≤ cd') (hu : U' → U) (hn : np ≤ np') : ltT K kd sd np' cd' U' m1 i x := by
  obtain ⟨h1, h2, h3, h4, h5⟩ := h
  obtain ⟨g1, g2, g3, g4, g5, g6⟩ := f3 i hi
  refine ⟨h1, by rw [g1]; exact h2, by rw [g2]; exact h3, by rw [g3]; exact h4, ?_⟩
  by_cases c4 : x.1.1 = 4
  · rw [if_pos c4] at h5 ⊢
    intro u
    obtain ⟨h6, h7⟩ := h5 (hu u)
    exact ⟨by rw [g4]; exact h6, by omega⟩
  · rw [if_neg c4] at h5 ⊢
    by_cases c5 : x.1.1 = 5
    · rw [if_pos c5] at h5 ⊢
      rw [g4]; exact h5
    · rw [if_neg c5] at h5 ⊢
      obtain ⟨a, a1, a2, a3, a4, a5, a6, a7⟩ := h5
      exact ⟨a, a1, by rw [g4]; exact a2, by rw [g5]; exact a3, by rw [g6]; exact a4, by omega, cdM_w a6 fun j hj => f2 j (by omega), cdM_w a7 fun j hj => f2 j (by omega)⟩
def frT (sd cd ln : Nat) (m m1 : Hp) : Prop := (∀ j, j < 420 * sd + cd → m1.1 35 j = m.1 35 j ∧ m1.1 36 j = m.1 36 j) ∧ ∀ i, i < 150 * sd + ln → m1.1 29 i = m.1 29 i ∧ m1.1 30 i = m.1 30 i ∧ m1.1 31 i = m.1 31 i ∧ m1.1 32 i = m.1 32 i ∧ m1.1 33 i = m.1 33 i ∧ m1.1 34 i = m.1 34 i
theorem LetC_h {K sd np np' cs cd cs1 cd1 ln l a b : Nat} {kd : Nat → Nat} {U U' : Prop} {ls : List Lit} {c m c1 m1 : Hp} (H : LetC K kd sd np cs cd U l a b ls c m) (hb : b + ls.length ≤ ln) (e5 : c1.1 (132 + l) 5 = c.1 (132 + l) 5 ∧ c1.1 (132 + l) 6 = c.1 (132 + l) 6) (e9 : ∀ j, j < cs → c1.1 129 j = c.1 129 j) (e23 : m1.1 23 (10 * sd + l) = m.1 23 (10 * sd + l) ∧ m1.1 24 (10 * sd + l) = m.1 24 (10 * sd + l)) (f : frT sd cd ln m m1) (h1 : cs ≤ cs1) (h2 : cd ≤ cd1) (hu : U' → U) (hn : np ≤ np') : LetC K kd sd np' cs1 cd1 U' l a b ls c1 m1 := by
  obtain ⟨a1, a2, a3, a4, a5, a6, a7, a8, a9⟩ := H
  exact ⟨by omega, by rw [e5.1]; exact a2, by rw [e5.2]; exact a3, cwG_w a4 fun j hj => e9 j (by omega), a5, a6, by rw [e23.1]; exact a7, by rw [e23.2]; exact a8, fun i hi => ltT_h (a9 i hi) f.1 f.2 (by omega) h2 hu hn⟩
theorem CU_h {K sd np np' nl cs cd ln cs1 cd1 : Nat} {kd : Nat → Nat} {U U' : Prop} {Ls : Nat → List Lit} {as bs : Nat → Nat} {c m c1 m1 : Hp} (H : CU K kd sd np nl cs cd ln U Ls as bs c m) (e5 : ∀ l, l < nl → c1.1 (132 + l) 5 = c.1 (132 + l) 5 ∧ c1.1 (132 + l) 6 = c.1 (132 + l) 6) (e9 : ∀ j, j < cs → c1.1 129 j = c.1 129 j) (e23 : ∀ l, l < nl → m1.1 23 (10 * sd + l) = m.1 23 (10 * sd + l) ∧ m1.1 24 (10 * sd + l) = m.1 24 (10 * sd + l)) (f : frT sd cd ln m m1) (h1 : cs ≤ cs1) (h2 : cd ≤ cd1) (hu : U' → U) (hn : np ≤ np') : CU K kd sd np' nl cs1 cd1 ln U' Ls as bs c1 m1 := by
  obtain ⟨u1, u2, u3, u4, u5⟩ := H
  exact ⟨u1, u2, u3, u4, fun l hl => ⟨LetC_h (u5 l hl).1 (u5 l hl).2 (e5 l hl) e9 (e23 l hl) f h1 h2 hu hn, (u5 l hl).2⟩⟩
def M_rule1 (v : Int32) (h : Hp) : Option Hp := bv (fX12_goesOn h) (fun h12 => bv (fX12_must 16 h12) (fun h13 => ck (inb v 6) (lt (wI h13 26 (ix v) (vp_nar .boolean 1)) (fun h14 => ck (inb v 6) (lt (wI h14 27 (ix v) (h14.1 0 49)) (fun h15 => bv (fX12_expression h15) (fun h16 => ck (inb v 6) (lt (wI h16 28 (ix v) (h16.1 0 49)) (fun h17 => bv (fX12_must 4 h17) (fun h18 => some h18))))))))))
theorem tell_rule {c0 m0 c m : Hp} {K sd t np nc nb nl cs cd ln r : Nat} {kd pl : Nat → Nat} {A : Nat → Option Cd} {Ls : Nat → List Lit} {as bs : Nat → Nat} (X : CTX c0 m0 K kd pl sd) (T : TSt c0 m0 K kd sd t np nc nb nl cs cd ln A Ls as bs c m) (hr : r < 3) (k22 : kd t = 22 + r) : R2 c0 m0 sd (fX5_tellRule (nI r) c) (M_rule1 (nI (3 * sd + r)) m) (TellOk c0 m0 K kd sd t) := by
  obtain ⟨L, C, N, hc, hl, TD⟩ := T
  have P := L.1
  have s2 := X.2.2
  have i6 : inb (nI (3 * sd + r)) 6 = true := nI_inb (by omega) (by decide)
  have x6 : ix (nI (3 * sd + r)) = 3 * sd + r := nI_ix (by omega)
  have D3 : ∀ f p m', FM m0 sd f p m' → Ok (bv (fX12_expression m') (fun h16 => ck (inb (nI (3 * sd + r)) 6) (lt (wI h16 28 (ix (nI (3 * sd + r))) (h16.1 0 49)) (fun h17 => bv (fX12_must 4 h17) (fun h18 => some h18))))) (FM m0 sd f p) := fun f p m' F => by
    rw [ok_bv]
    refine (D_exp F).mono fun m3 F3 => ?_
    rw [ck_of i6, x6, lt_q, bv_id]
    exact D_must (FM_w F3 (AgrM.refl.wI (pw_3 rfl hr)) ⟨wI_k (by decide), wI_k (by decide), wI_k (by decide)⟩) 4
  have D2 : ∀ f p m', FM m0 sd f p m' → Ok (ck (inb (nI (3 * sd + r)) 6) (lt (wI m' 26 (ix (nI (3 * sd + r))) (vp_nar .boolean 1)) (fun h14 => ck (inb (nI (3 * sd + r)) 6) (lt (wI h14 27 (ix (nI (3 * sd + r))) (h14.1 0 49)) (fun h15 => bv (fX12_expression h15) (fun h16 => ck (inb (nI (3 * sd + r)) 6) (lt (wI h16 28 (ix (nI (3 * sd + r))) (h16.1 0 49)) (fun h17 => bv (fX12_must 4 h17) (fun h18 => some h18))))))))) (FM m0 sd f p) := fun f p m' F => by
    rw [ck_of i6, x6, lt_q, ck_of i6, lt_q]
    have := D3 f p (wI (wI m' 26 (3 * sd + r) (vp_nar .boolean 1)) 27 (3 * sd + r) ((wI m' 26 (3 * sd + r) (vp_nar .boolean 1)).1 0 49)) (FM_w F ((AgrM.refl.wI (pw_3 rfl hr)).wI (pw_3 rfl hr)) ⟨by rw [wI_k (by decide), wI_k (by decide)], by rw [wI_k (by decide), wI_k (by decide)], by rw [wI_k (by decide), wI_k (by decide)]⟩)
    rw [x6] at this
    exact this
  unfold fX5_tellRule M_rule1
  have st := tk_goes X P k22 (by omega)
  rw [show (22 : Int32) + nI r = nI (22 + r) from nI_add 22 r]
  refine R2_seq st ?_ ?_
  · rintro c1 m1 ⟨b1, bP, b3, b4⟩
    have mu : R2 c0 m0 sd (fX5_take 13 c1) (fX12_must 16 m1) (fun c2 m2 => kd (t + 1) = 13 ∧ t + 1 < 400 ∧ PB c0 m0 K kd sd (t + 1 + 1) c2 m2 ∧ Agr W67 c1 c2 ∧ Agr W11 m1 m2) := tk_must X bP (κ := 13) (by decide) (by decide)
    refine R2_seq mu ?_ ?_
    · rintro c2 m2 ⟨_, d1, d2, d3, d4⟩
      have aC2 : Agr W67 c c2 := b3.trans d3
      have aM2 : Agr W11 m m2 := b4.trans d4
      have L2 := LSt_a L d2 aC2 aM2 rfl rfl
      rw [lt_q, ck_of i6, x6, lt_q, nar1, ck_of i6, wI_k (show (0 : Nat) ≠ 26 by decide), L2.2.2.2.1, lt_q]
      have aM3 : Agr [(26, none), (27, none)] m2 (wI (wI m2 26 (3 * sd + r) 1) 27 (3 * sd + r) (nI (420 * sd + cd))) := (Agr.refl.wI rfl).wI rfl
      have AM3 : AgrM sd m2 (wI (wI m2 26 (3 * sd + r) 1) 27 (3 * sd + r) (nI (420 * sd + cd))) := (AgrM.refl.wI (pw_3 rfl hr)).wI (pw_3 rfl hr)
      have v26 : ∀ j, (wI (wI m2 26 (3 * sd + r) 1) 27 (3 * sd + r) (nI (420 * sd + cd))).1 26 j = if j = 3 * sd + r then 1 else m2.1 26 j := fun j => by simp [wI]
      have v27 : ∀ j, (wI (wI m2 26 (3 * sd + r) 1) 27 (3 * sd + r) (nI (420 * sd + cd))).1 27 j = if j = 3 * sd + r then nI (420 * sd + cd) else m2.1 27 j := fun j => by simp [wI]
      generalize wI (wI m2 26 (3 * sd + r) 1) 27 (3 * sd + r) (nI (420 * sd + cd)) = m3 at aM3 AM3 v26 v27 ⊢
      have P3 : PB c0 m0 K kd sd (t + 1 + 1) c2 m3 := PB_w d2 (W := []) .refl rfl rfl AM3 ⟨aM3.i 0 11 rfl, aM3.i 0 13 rfl, aM3.i 0 15 rfl, aM3.i 0 16 rfl⟩
      have L3 := LSt_a L2 P3 (Agr.refl (W := []) (h := c2)) aM3 rfl rfl
      refine R2_seq (expr_both 0 X L3 (by omega)) ?_ ?_
      · rintro c3 m4 ⟨t1, e, E1, E2, E3, E4, E5, E6, ⟨E7, E8⟩, E9, E10⟩
        simp only [ck_of (nI_inb hr (by decide)), nI_ix (show r < 2 ^ 31 by omega), L2.2.2.1, lt_q, ck_of i6, E1.2.2.2.1, wI_k (show (125 : Nat) ≠ 130 by decide), E1.2.2.1]
        have aC4 : Agr [(130, none), (131, none)] c3 (wI (wI c3 130 r (nI cs)) 131 r (nI (cs + e.length))) := (Agr.refl.wI rfl).wI rfl
        have aM4 : Agr [(28, none)] m4 (wI m4 28 (3 * sd + r) (nI (420 * sd + (cd + e.length)))) := Agr.refl.wI rfl
        have AM4 : AgrM sd m4 (wI m4 28 (3 * sd + r) (nI (420 * sd + (cd + e.length)))) := AgrM.refl.wI (pw_3 rfl hr)
        have v130 : ∀ j, (wI (wI c3 130 r (nI cs)) 131 r (nI (cs + e.length))).1 130 j = if j = r then nI cs else c3.1 130 j := fun j => by simp [wI]
        have v131 : ∀ j, (wI (wI c3 130 r (nI cs)) 131 r (nI (cs + e.length))).1 131 j = if j = r then nI (cs + e.length) else c3.1 131 j := fun j => by simp [wI]
        have v28 : ∀ j, (wI m4 28 (3 * sd + r) (nI (420 * sd + (cd + e.length)))).1 28 j = if j = 3 * sd + r then nI (420 * sd + (cd + e.length)) else m4.1 28 j := fun j => by simp [wI]
        generalize wI (wI c3 130 r (nI cs)) 131 r (nI (cs + e.length)) = c4 at aC4 v130 v131 ⊢
        generalize wI m4 28 (3 * sd + r) (nI (420 * sd + (cd + e.length))) = m5 at aM4 AM4 v28 ⊢
        have P5 : PB c0 m0 K kd sd t1 c4 m5 := PB_w E1.1 aC4 rfl rfl AM4 ⟨aM4.i 0 11 rfl, aM4.i 0 13 rfl, aM4.i 0 15 rfl, aM4.i 0 16 rfl⟩
        have L5 := LSt_a E1 P5 aC4 aM4 rfl rfl
        have mu4 : R2 c0 m0 sd (fX5_take 4 c4) (fX12_must 4 m5) (fun c5 m6 => kd t1 = 4 ∧ t1 < 400 ∧ PB c0 m0 K kd sd (t1 + 1) c5 m6 ∧ Agr W67 c4 c5 ∧ Agr W11 m5 m6) := tk_must X P5 (κ := 4) (by decide) (by decide)
        refine R2_seqw mu4 ?_ ?_
        · rintro c5 m6 ⟨_, w2, w3, w4, w5⟩
          have aC : Agr [(142, some 6), (142, some 7), (146, none), (129, none), (125, some 11), (130, none), (131, none)] c c5 := ((aC2.sub rfl).trans (E7.sub rfl)).trans ((aC4.sub rfl).trans (w4.sub rfl))
          have aM : Agr [(0, some 11), (0, some 12), (0, some 49), (0, some 53), (37, none), (35, none), (36, none), (26, none), (27, none), (28, none)] m m6 := (((aM2.sub rfl).trans (aM3.sub rfl)).trans (E9.sub rfl)).trans ((aM4.sub rfl).trans (w5.sub rfl))
          have p129 : ∀ j, j < cs → c5.1 129 j = c.1 129 j := fun j hj => by rw [w4.i 129 j rfl, aC4.i 129 j rfl, E8 j hj, aC2.i 129 j rfl]
          have p35 : ∀ j, j < 420 * sd + cd → m6.1 35 j = m.1 35 j ∧ m6.1 36 j = m.1 36 j := fun j hj => by
            obtain ⟨z1, z2⟩ := E10 j hj
            rw [w5.i 35 j rfl, w5.i 36 j rfl, aM4.i 35 j rfl, aM4.i 36 j rfl, z1, z2, aM3.i 35 j rfl, aM3.i 36 j rfl, aM2.i 35 j rfl, aM2.i 36 j rfl]
            exact ⟨rfl, rfl⟩
          have fT : frT sd cd ln m m6 := ⟨p35, fun i _ => ⟨aM.i 29 i rfl, aM.i 30 i rfl, aM.i 31 i rfl, aM.i 32 i rfl, aM.i 33 i rfl, aM.i 34 i rfl⟩⟩
          have uu : c5.1 142 8 = 0 → c.1 142 8 = 0 := fun z => by rw [aC.i 142 8 rfl] at z; exact z
          obtain ⟨CC, VV, RR⟩ := TD
          have eL : ∀ l, l < 10 → ∀ j, c5.1 (132 + l) j = c.1 (132 + l) j := fun l hl' j => by
            match l, hl' with
            | 0, _ => exact aC.i 132 j rfl
            | 1, _ => exact aC.i 133 j rfl
            | 2, _ => exact aC.i 134 j rfl
            | 3, _ => exact aC.i 135 j rfl
            | 4, _ => exact aC.i 136 j rfl
            | 5, _ => exact aC.i 137 j rfl
            | 6, _ => exact aC.i 138 j rfl
            | 7, _ => exact aC.i 139 j rfl
            | 8, _ => exact aC.i 140 j rfl
            | 9, _ => exact aC.i 141 j rfl
          have nl10 := C.2.2.2.1
          refine ⟨m6, rfl, t1 + 1, np, nc, nb, nl, cs + e.length, cd + e.length, ln, (fun x => if x = r then some e else A x), Ls, as, bs, by omega, LSt_a L5 w3 w4 w5 rfl rfl, Cnt_a C aC aM rfl rfl, NmR_a N aC aM rfl rfl, by omega, by omega, CU_h CC (fun l hl' => ⟨eL l (by omega) 5, eL l (by omega) 6⟩) p129 (fun l _ => ⟨aM.i 23 _ rfl, aM.i 24 _ rfl⟩) fT (by omega) (by omega) uu (Nat.le_refl _), fun z => ?_, fun x hx => ?_⟩
          · obtain ⟨z1, z2, z3⟩ := VV (uu z)
            refine ⟨fun p hp => by rw [aC.i 126 p rfl, aM.i 12 _ rfl]; exact z1 p hp, fun q p hq hp => ?_, fun l hl' => ?_⟩
            · rw [aC.i 127 q rfl, z2 q p hq hp]
              unfold barT
              congr 1
              funext k
              rw [aM.i 15 _ rfl, aM.i 16 _ rfl]
            · rw [eL l (by omega), eL l (by omega), eL l (by omega), eL l (by omega), eL l (by omega), aM.i 18 _ rfl, aM.i 19 _ rfl, aM.i 20 _ rfl, aM.i 21 _ rfl, aM.i 22 _ rfl]
              exact z3 l hl'
          · simp only
            by_cases ex : x = r
            · subst ex
              rw [if_pos rfl]
              simp only
              refine ⟨E4, ?_, ⟨cs, Nat.le_refl _, ?_, ?_, ?_⟩, cd, Nat.le_refl _, ?_, ?_, ?_⟩
              · rw [w5.i 26 _ rfl, aM4.i 26 _ rfl, E9.i 26 _ rfl, v26, if_pos rfl]
              · rw [w4.i 130 _ rfl, v130, if_pos rfl]
              · rw [w4.i 131 _ rfl, v131, if_pos rfl]
              · exact cwG_w E5 fun j _ => by rw [w4.i 129 j rfl, aC4.i 129 j rfl]
              · rw [w5.i 27 _ rfl, aM4.i 27 _ rfl, E9.i 27 _ rfl, v27, if_pos rfl]
              · rw [w5.i 28 _ rfl, v28, if_pos rfl, Nat.add_assoc]
              · exact cdM_w E6 fun j _ => by rw [w5.i 35 j rfl, w5.i 36 j rfl, aM4.i 35 j rfl, aM4.i 36 j rfl]; exact ⟨rfl, rfl⟩
            · rw [if_neg ex]
              have h := RR x hx
              have n3 : ¬ 3 * sd + x = 3 * sd + r := by omega
              have k130 : c5.1 130 x = c.1 130 x := by rw [w4.i 130 _ rfl, v130, if_neg ex, E7.i 130 x rfl, aC2.i 130 x rfl]
              have k131 : c5.1 131 x = c.1 131 x := by rw [w4.i 131 _ rfl, v131, if_neg ex, E7.i 131 x rfl, aC2.i 131 x rfl]
              have k26 : m6.1 26 (3 * sd + x) = m.1 26 (3 * sd + x) := by rw [w5.i 26 _ rfl, aM4.i 26 _ rfl, E9.i 26 _ rfl, v26, if_neg n3, aM2.i 26 _ rfl]
              have k27 : m6.1 27 (3 * sd + x) = m.1 27 (3 * sd + x) := by rw [w5.i 27 _ rfl, aM4.i 27 _ rfl, E9.i 27 _ rfl, v27, if_neg n3, aM2.i 27 _ rfl]
              have k28 : m6.1 28 (3 * sd + x) = m.1 28 (3 * sd + x) := by rw [w5.i 28 _ rfl, v28, if_neg n3, E9.i 28 _ rfl, aM3.i 28 _ rfl, aM2.i 28 _ rfl]
              cases hA : A x with
              | none =>
                rw [hA] at h
                simp only at h ⊢
                rw [k130, k26]; exact h
              | some e' =>
                rw [hA] at h
                simp only at h ⊢
                obtain ⟨y1, y2, ⟨a, y3, y4, y5, y6⟩, b, y7, y8, y9, y10⟩ := h
                exact ⟨y1, by rw [k26]; exact y2, ⟨a, by omega, by rw [k130]; exact y4, by rw [k131]; exact y5, cwG_w y6 fun j hj => p129 j (by rw [List.length_map] at hj; omega)⟩, b, by omega, by rw [k27]; exact y8, by rw [k28]; exact y9, cdM_w y10 fun j hj => p35 j (by omega)⟩
        · intro f p m6 F
          rw [ok_some]
          exact F
      · intro f p m4 F
        rw [ck_of i6, lt_q, bv_id]
        exact D_must (FM_w F (AgrM.refl.wI (pw_3 rfl hr)) ⟨wI_k (by decide), wI_k (by decide), wI_k (by decide)⟩) 4
    · intro f p m2 F
      exact D2 f p m2 F
  · intro f p m1 F
    rw [ok_bv]
    exact (D_must F 16).mono fun m2 F2 => D2 f p m2 F2
