/-- people and clerks are told -/
theorem LSt_a {c0 m0 c m c1 m1 : Hp} {K sd t t1 cs cd ln : Nat} {kd : Nat → Nat} {Wc Wm : Ws} (L : LSt c0 m0 K kd sd t cs cd ln c m) (P : PB c0 m0 K kd sd t1 c1 m1) (ac : Agr Wc c c1) (am : Agr Wm m m1) (hc : djw [(125, some 11)] Wc = true) (hm : djw [(0, some 12), (0, some 49), (0, some 42)] Wm = true) : LSt c0 m0 K kd sd t1 cs cd ln c1 m1 := by
  obtain ⟨_, L2, L3, L4, L5, L6⟩ := L
  exact ⟨P, by rw [(am 0 12 (djw_wm hm rfl)).1]; exact L2, by rw [(ac 125 11 (djw_wm hc rfl)).1]; exact L3, by rw [(am 0 49 (djw_wm hm rfl)).1]; exact L4, by rw [(am 0 42 (djw_wm hm rfl)).1]; exact L5, L6⟩
theorem full_both {c0 m0 c m : Hp} {K sd t : Nat} {kd pl : Nat → Nat} {S : Hp → Hp → Prop} {km : Hp → Option Hp} (X : CTX c0 m0 K kd pl sd) (P : PB c0 m0 K kd sd t c m) (hk : ∀ f p m, FM m0 sd f p m → km m = some m) : R2 c0 m0 sd (bi (fX5_stop 2 c) (fun w h => ck (zb w) (some (w, h)))) (bv (fX12_fail 2 m) km) S := by
  obtain ⟨c1, m1, e1, e2, ⟨f, p, g1, g2, g3, g4, g5⟩, _⟩ := st_both X P (f := 2) (.inr rfl)
  rw [show (2 : Int32) = nI 2 from rfl, e1, e2, bi_q, bv_q, ck_of zb_0, hk f p m1 g5]
  exact ⟨0, c1, m1, rfl, rfl, .inr ⟨rfl, f, p, g1, g2, g3, g4, g5⟩⟩
theorem tell_person {c0 m0 c m : Hp} {K sd t np nc nb nl cs cd ln : Nat} {kd pl : Nat → Nat} {A : Nat → Option Cd} {Ls : Nat → List Lit} {as bs : Nat → Nat} (X : CTX c0 m0 K kd pl sd) (T : TSt c0 m0 K kd sd t np nc nb nl cs cd ln A Ls as bs c m) (k16 : kd t = 16) : R2 c0 m0 sd (fX5_tellPerson c) (if m.1 11 sd = 10 then bv (fX12_fail 2 m) (fun h2 => bX12_tell_75 h2) else bX12_tell_75 m) (TellOk c0 m0 K kd sd t) := by
  obtain ⟨L, C, N, hc, hl, TD⟩ := T
  have P := L.1
  obtain ⟨C1, C2, C3, C4, C5, C6, C7, C8, C9, C10, C11, C12, C13⟩ := C
  have s2 := X.2.2
  unfold fX5_tellPerson
  rw [C5, C9]
  by_cases n10 : np = 10
  · rw [if_neg (show ¬ nI np < (10 : Int32) by rw [n10]; decide), if_pos (show nI np = (10 : Int32) by rw [n10]; rfl)]
    exact full_both X P fun f p m F => by unfold bX12_tell_75; rw [if_neg (FM_13 F).1]
  · rw [if_pos (show nI np < (10 : Int32) from nI_lt (b := 10) (by omega) (by decide)), if_neg (show ¬ nI np = (10 : Int32) from fun z => n10 (nI_inj (b := 10) (by omega) (by decide) z))]
    unfold bX12_tell_75
    rw [if_pos P.2.2.2.2.2.2.1, bv_id]
    unfold fX12_tellPerson
    have st := tk_goes X P k16 (by decide)
    rw [show nI 16 = (16 : Int32) from rfl] at st
    refine R2_seq st ?_ ?_
    · rintro c1 m1 ⟨b1, bP, b3, b4⟩
      have N1 := NmR_a N b3 b4 rfl rfl
      have q6 : c1.1 125 6 = nI np := by rw [b3.i 125 6 rfl]; exact C5
      rw [q6]
      refine R2b_seq (tk_new (s := 0) (n := 10) X bP N1 (by decide) C1 C2 C4 q6 (by rw [b3.i 125 7 rfl]; exact C6) (by rw [b3.i 125 9 rfl]; exact C8) (show np < 10 by omega) (by decide)) ?_ ?_
      · rintro x c2 m2 ⟨rfl, k2, d1, d2, d3, d4, d5, d6, d7⟩
        rw [lt_q]
        obtain ⟨v, c3, y, m3, e1, e2, h⟩ := tk_int (a := 0) (b := 99) X d2 (by decide) (by decide)
        have e1' : fX5_takeInt 0 99 c2 = some (v, c3) := e1
        have e2' : fX12_bounded 0 99 m2 = some (y, m3) := e2
        have r2 := tk_row X d2 (show t + 1 < K from bP.2.2.1)
        rw [e1', e2', bi_q, bi_q, lt_q, lt_q]
        rcases h with ⟨v0, g1, g2, g3, g4, a, a1, rfl, rfl, g5⟩ | ⟨rfl, F⟩
        · have q3 : c3.1 125 6 = nI np := by rw [g3.i 125 6 rfl, d3.i 125 6 rfl]; exact q6
          rw [q3, ck_of (nI_inb (show np < 10 by omega) (by decide)), nI_ix (by omega), lt_q, wI_k (show (125 : Nat) ≠ 126 by decide), q3, nI_1, lt_q, if_neg (nI_pos (by omega))]
          have a4 : Agr [(126, none), (125, some 6)] c3 (wI (wI c3 126 np (nI a)) 125 6 (nI (np + 1))) := (Agr.refl.wI rfl).wI rfl
          have P4 : PB c0 m0 K kd sd (t + 1 + 1 + 1) (wI (wI c3 126 np (nI a)) 125 6 (nI (np + 1))) m3 := PB_w g2 a4 rfl rfl .refl ⟨rfl, rfl, rfl, rfl⟩
          have v126 : ∀ p, (wI (wI c3 126 np (nI a)) 125 6 (nI (np + 1))).1 126 p = if p = np then nI a else c3.1 126 p := fun p => by
            rw [wI_k (by decide), wI_r]
            by_cases e : p = np
            · rw [if_pos ⟨rfl, e⟩, if_pos e]
            · rw [if_neg (fun z => e z.2), if_neg e]
          have v6 : (wI (wI c3 126 np (nI a)) 125 6 (nI (np + 1))).1 125 6 = nI (np + 1) := wI_s
          generalize wI (wI c3 126 np (nI a)) 125 6 (nI (np + 1)) = c4 at a4 P4 v126 v6 ⊢
          have mu := tk_must X P4 (κ := 4) (by decide) (by decide)
          have mu' : R2 c0 m0 sd (fX5_take 4 c4) (fX12_must 4 m3) (fun c1 m1 => kd (t + 1 + 1 + 1) = 4 ∧ t + 1 + 1 + 1 < 400 ∧ PB c0 m0 K kd sd (t + 1 + 1 + 1 + 1) c1 m1 ∧ Agr W67 c4 c1 ∧ Agr W11 m3 m1) := mu
          refine R2_seq (kc := fun h10 => ck (zb 1) (some (1, h10))) mu' ?_ ?_
          · rintro c5 m4 ⟨_, w2, w3, w4, w5⟩
            have s19 : m4.1 0 19 = nI sd := by rw [w3.2.1.i 0 19 rfl]; exact X.2.1
            have n11 : m4.1 11 sd = nI np := by rw [w5.i 11 sd rfl, g4.i 11 sd rfl, d4.i 11 sd rfl, b4.i 11 sd rfl]; exact C9
            have n20 : (wI m4 12 (10 * sd + np) (nI a)).1 0 20 = nI (np + nc + nl) := by rw [wI_k (by decide), w5.i 0 20 rfl, g4.i 0 20 rfl, d4.i 0 20 rfl]; exact N1.1
            rw [if_pos (show m4.1 0 13 ≤ 0 by rw [w3.2.2.2.2.2.2.1]; decide)]
            simp only [s19, ck_of (nI_inb s2 (by decide)), nI_ix (show sd < 2 ^ 31 by omega), n11, e10, ck_of (nI_inb (show 10 * sd + np < 20 by omega) (by decide)), nI_ix (show 10 * sd + np < 2 ^ 31 by omega), lt_q, wI_k (show (0 : Nat) ≠ 12 by decide), wI_k (show (11 : Nat) ≠ 12 by decide)]
            rw [show (0 : Int32) = nI 0 from rfl, M_notes n20 (by omega) (show t + 1 < 403 by omega), bv_q, ck_of zb_1]
            simp only [wI_j (show (19 : Nat) ≠ 20 by decide), wI_k (show (0 : Nat) ≠ 10 by decide), wI_k (show (0 : Nat) ≠ 9 by decide), wL_i, wI_k (show (0 : Nat) ≠ 12 by decide), s19, ck_of (nI_inb s2 (by decide)), nI_ix (show sd < 2 ^ 31 by omega), wI_k (show (11 : Nat) ≠ 0 by decide), wI_k (show (11 : Nat) ≠ 10 by decide), wI_k (show (11 : Nat) ≠ 9 by decide), wI_k (show (11 : Nat) ≠ 12 by decide), n11, nI_1]
            have tn : (wI m4 12 (10 * sd + np) (nI a)).2 6 (t + 1) = m.2 6 (t + 1) := by rw [wI_l, w5.l 6 _ rfl, g4.l 6 _ rfl, d4.l 6 _ rfl, b4.l 6 _ rfl]
            rw [tn]
            have AM : AgrM sd m4 (wI (wI (wI (wI (wL (wI m4 12 (10 * sd + np) (nI a)) 8 (np + nc + nl) (m.2 6 (t + 1))) 9 (np + nc + nl) (nI 0)) 10 (np + nc + nl) (nI np)) 0 20 (nI (np + nc + nl + 1))) 11 sd (nI (np + 1))) := (((((AgrM.refl.wI (pw_10 rfl (by omega))).wL (pw_0 rfl)).wI (pw_0 rfl)).wI (pw_0 rfl)).wI (pw_0 rfl)).wI (pw_1 rfl)
            have AG : Agr [(12, none), (8, none), (9, none), (10, none), (0, some 20), (11, none)] m4 (wI (wI (wI (wI (wL (wI m4 12 (10 * sd + np) (nI a)) 8 (np + nc + nl) (m.2 6 (t + 1))) 9 (np + nc + nl) (nI 0)) 10 (np + nc + nl) (nI np)) 0 20 (nI (np + nc + nl + 1))) 11 sd (nI (np + 1))) := (((((Agr.refl.wI rfl).wL rfl).wI rfl).wI rfl).wI rfl).wI rfl
            have VV : (∀ p, (wI (wI (wI (wI (wL (wI m4 12 (10 * sd + np) (nI a)) 8 (np + nc + nl) (m.2 6 (t + 1))) 9 (np + nc + nl) (nI 0)) 10 (np + nc + nl) (nI np)) 0 20 (nI (np + nc + nl + 1))) 11 sd (nI (np + 1))).1 12 p = if p = 10 * sd + np then nI a else m4.1 12 p) ∧ (wI (wI (wI (wI (wL (wI m4 12 (10 * sd + np) (nI a)) 8 (np + nc + nl) (m.2 6 (t + 1))) 9 (np + nc + nl) (nI 0)) 10 (np + nc + nl) (nI np)) 0 20 (nI (np + nc + nl + 1))) 11 sd (nI (np + 1))).1 11 sd = nI (np + 1) ∧ (wI (wI (wI (wI (wL (wI m4 12 (10 * sd + np) (nI a)) 8 (np + nc + nl) (m.2 6 (t + 1))) 9 (np + nc + nl) (nI 0)) 10 (np + nc + nl) (nI np)) 0 20 (nI (np + nc + nl + 1))) 11 sd (nI (np + 1))).1 0 20 = nI (np + nc + nl + 1) ∧ (wI (wI (wI (wI (wL (wI m4 12 (10 * sd + np) (nI a)) 8 (np + nc + nl) (m.2 6 (t + 1))) 9 (np + nc + nl) (nI 0)) 10 (np + nc + nl) (nI np)) 0 20 (nI (np + nc + nl + 1))) 11 sd (nI (np + 1))).2 8 (np + nc + nl) = m.2 6 (t + 1) ∧ (wI (wI (wI (wI (wL (wI m4 12 (10 * sd + np) (nI a)) 8 (np + nc + nl) (m.2 6 (t + 1))) 9 (np + nc + nl) (nI 0)) 10 (np + nc + nl) (nI np)) 0 20 (nI (np + nc + nl + 1))) 11 sd (nI (np + 1))).1 9 (np + nc + nl) = nI 0 ∧ (wI (wI (wI (wI (wL (wI m4 12 (10 * sd + np) (nI a)) 8 (np + nc + nl) (m.2 6 (t + 1))) 9 (np + nc + nl) (nI 0)) 10 (np + nc + nl) (nI np)) 0 20 (nI (np + nc + nl + 1))) 11 sd (nI (np + 1))).1 10 (np + nc + nl) = nI np ∧ ∀ k, k < np + nc + nl → (wI (wI (wI (wI (wL (wI m4 12 (10 * sd + np) (nI a)) 8 (np + nc + nl) (m.2 6 (t + 1))) 9 (np + nc + nl) (nI 0)) 10 (np + nc + nl) (nI np)) 0 20 (nI (np + nc + nl + 1))) 11 sd (nI (np + 1))).1 9 k = m4.1 9 k ∧ (wI (wI (wI (wI (wL (wI m4 12 (10 * sd + np) (nI a)) 8 (np + nc + nl) (m.2 6 (t + 1))) 9 (np + nc + nl) (nI 0)) 10 (np + nc + nl) (nI np)) 0 20 (nI (np + nc + nl + 1))) 11 sd (nI (np + 1))).1 10 k = m4.1 10 k ∧ (wI (wI (wI (wI (wL (wI m4 12 (10 * sd + np) (nI a)) 8 (np + nc + nl) (m.2 6 (t + 1))) 9 (np + nc + nl) (nI 0)) 10 (np + nc + nl) (nI np)) 0 20 (nI (np + nc + nl + 1))) 11 sd (nI (np + 1))).2 8 k = m4.2 8 k := by
              refine ⟨fun p => ?_, by simp [wI], by simp [wI], by simp [wI, wL], by simp [wI, wL], by simp [wI, wL], fun k hk => ?_⟩
              · simp [wI, wL]
              · have : k ≠ np + nc + nl := by omega
                simp [wI, wL, this]
            generalize wI (wI (wI (wI (wL (wI m4 12 (10 * sd + np) (nI a)) 8 (np + nc + nl) (m.2 6 (t + 1))) 9 (np + nc + nl) (nI 0)) 10 (np + nc + nl) (nI np)) 0 20 (nI (np + nc + nl + 1))) 11 sd (nI (np + 1)) = m7 at AM AG VV ⊢
            obtain ⟨V1, V2, V3, V4, V5, V6, V7⟩ := VV
            have P7 : PB c0 m0 K kd sd (t + 1 + 1 + 1 + 1) c5 m7 := PB_w w3 (W := []) .refl rfl rfl AM ⟨AG.i 0 11 rfl, AG.i 0 13 rfl, AG.i 0 15 rfl, AG.i 0 16 rfl⟩
            have aC : Agr [(142, some 6), (142, some 7), (142, some 8), (142, some 9), (143, none), (126, none), (125, some 6)] c c5 := (((b3.sub rfl).trans (d3.sub rfl)).trans ((g3.sub rfl).trans (a4.sub rfl))).trans (w4.sub rfl)
            have aM : Agr [(0, some 11), (0, some 15), (0, some 16), (12, none), (8, none), (9, none), (10, none), (0, some 20), (11, none)] m m7 := (((b4.sub rfl).trans (d4.sub rfl)).trans ((g4.sub rfl).trans (w5.sub rfl))).trans (AG.sub rfl)
            have uu : c5.1 142 8 = 0 → c.1 142 8 = 0 := fun z => by
              rw [w4.i 142 8 rfl, a4.i 142 8 rfl] at z
              have := d7 (g5 z).1
              rw [b3.i 142 8 rfl] at this
              exact this
            refine ⟨1, c5, m7, rfl, rfl, .inl ⟨rfl, t + 1 + 1 + 1 + 1, np + 1, nc, nb, nl, cs, cd, ln, A, Ls, as, bs, by omega, LSt_a L P7 aC aM rfl rfl, ⟨by omega, C2, C3, C4, by rw [w4.i 125 6 rfl]; exact v6, by rw [aC.i 125 7 rfl]; exact C6, by rw [aC.i 125 8 rfl]; exact C7, by rw [aC.i 125 9 rfl]; exact C8, V2, by rw [aM.i 13 sd rfl]; exact C10, by rw [aM.i 14 sd rfl]; exact C11, by rw [aM.i 17 sd rfl]; exact C12, by rw [aC.i 125 10 rfl, aM.i 25 sd rfl]; exact C13⟩, ?_, by omega, by omega, ?_⟩⟩
            · refine NmR_add (s := 0) (y := c1.2 106 (t + 1)) N (by decide) (fun s' => ?_) (by omega) ?_ (fun s' i hs' hn hi => ?_) V3 ?_ V5 V6 (fun k hk => ?_)
              · unfold cntN
                by_cases z : s' = 0
                · rw [if_pos z, if_pos z, if_pos z, if_pos rfl]
                · by_cases z1 : s' = 1
                  · subst z1; rfl
                  · simp [z, z1]
              · rw [w4.l 143 _ rfl, a4.l 143 _ rfl, g3.l 143 _ rfl]; exact d5
              · match s', hs' with
                | 0, _ =>
                  rw [w4.l 143 _ rfl, a4.l 143 _ rfl, g3.l 143 _ rfl, ← b3.l 143 i rfl]
                  exact d6 i (fun z => hn ⟨rfl, z⟩)
                | 1, _ => exact aC.l 144 i rfl
                | 2, _ => exact aC.l 145 i rfl
              · rw [V4, ← b4.l 6 (t + 1) rfl]
                exact (tk_row X bP bP.2.2.1).2.2.2.2.2.2.2 k2
              · obtain ⟨z1, z2, z3⟩ := V7 k hk
                rw [z1, z2, z3, w5.i 9 k rfl, g4.i 9 k rfl, d4.i 9 k rfl, b4.i 9 k rfl, w5.i 10 k rfl, g4.i 10 k rfl, d4.i 10 k rfl, b4.i 10 k rfl, w5.l 8 k rfl, g4.l 8 k rfl, d4.l 8 k rfl, b4.l 8 k rfl]
                exact ⟨rfl, rfl, rfl⟩
            · refine Told_g TD C4 (EqC_a aC rfl) (EqM_a aM rfl) (Nat.le_refl _) (Nat.le_refl _) uu (by omega) fun _ cv p hp => ?_
              rw [w4.i 126 p rfl, v126 p, V1]
              by_cases e : p = np
              · rw [if_pos e, if_pos (by omega)]
              · rw [if_neg e, if_neg (by omega), g3.i 126 p rfl, d3.i 126 p rfl, b3.i 126 p rfl, w5.i 12 _ rfl, g4.i 12 _ rfl, d4.i 12 _ rfl, b4.i 12 _ rfl]
                exact cv.1 p (by omega)
          · intro f p m4 F
            rw [if_neg (FM_13 F).2.1, ok_some]
            exact F
        · have q3 : inb (c3.1 125 6) 10 = true ∧ True := by
            obtain ⟨f, p, h1, h2, _⟩ := F
            refine ⟨?_, trivial⟩
            -- the count of people is as it was: takeInt writes nothing else
            have : Ok (fX5_takeInt 0 99 c2) (fun q => q.2.1 125 6 = c2.1 125 6) := by
              have t2 : t + 1 + 1 < 401 := by have := d2.2.2.1; have := X.1.2.1; omega
              unfold fX5_takeInt
              rw [d2.2.2.2.1, ck_of (nI_inb t2 (by decide)), lt_q, lt_q, show (3 : Int32) = nI 3 from rfl]
              have tk : Ok (fX5_take (nI 3) c2) (fun q => q.2.1 125 6 = c2.1 125 6 ∧ (q.1 = 0 ∨ kd (t + 1 + 1) = 3)) := by
                by_cases k3 : kd (t + 1 + 1) = 3
                · obtain ⟨v, c', m', f1, _, hh⟩ := tk_goes2 X d2 k3 (by decide)
                  refine ⟨(v, c'), f1, ?_, .inr k3⟩
                  rcases hh with ⟨_, _, _, z, _⟩ | ⟨_, ⟨_, _, _, z, _⟩, _⟩
                  · exact z.i 125 6 rfl
                  · unfold fX5_take bX5_take_13 bX5_take_28 bX5_take_38 at f1
                    rw [d2.2.2.2.2.1, k3, if_pos rfl, lt_q, if_neg (by decide)] at f1
                    by_cases z4 : c2.1 142 6 < 400
                    · rw [if_pos z4, lt_q] at f1
                      obtain ⟨_, f1⟩ := ck_el f1
                      rw [lt_q, ck_of zb_1] at f1
                      cases f1
                      rw [wI_k (by decide), wI_k (by decide)]
                    · rw [if_neg z4, if_neg (by decide), lt_q] at f1
                      obtain ⟨_, f1⟩ := ck_el f1
                      rw [lt_q, ck_of zb_0] at f1
                      cases f1
                      rw [wI_k (by decide), wI_k (by decide)]
                · obtain ⟨c', m', e1, e2, _, _, _⟩ := C_fault X d2 (f := 1) (.inl rfl)
                  refine ⟨(0, c'), ?_, ?_, .inl rfl⟩
                  · have r3 := tk_row X d2 d2.2.2.1
                    unfold fX5_take bX5_take_13 bX5_take_28 bX5_take_38
                    rw [d2.2.2.2.2.1, if_neg (fun q => k3 (nI_inj (by have := r3.1; omega) (by omega) q)), lt_q, if_pos rfl, if_pos rfl, lt_q, wI_j (show (6 : Nat) ≠ 8 by decide), ck_of e2, lt_q, wI_k (show (105 : Nat) ≠ 142 by decide), show (1 : Int32) = nI 1 from rfl, e1, ck_of zb_0]
                  · rw [← e1, wI_k (by decide), wI_k (by decide)]
              obtain ⟨⟨w, c'⟩, f1, f2, f3⟩ := tk
              simp only at f2 f3
              rw [f1, bi_q]
              rcases Decidable.em (w = 0) with rfl | hw
              · rw [if_pos rfl, ok_some]; exact f2
              · exfalso
                have := e1'
                unfold fX5_takeInt at this
                rw [d2.2.2.2.1, ck_of (nI_inb t2 (by decide)), lt_q, lt_q, show (3 : Int32) = nI 3 from rfl, f1, bi_q, if_neg hw, C_within, bi_q] at this
                have k3 : kd (t + 1 + 1) = 3 := by
                  rcases f3 with z | z
                  · exact absurd z hw
                  · exact z
                obtain ⟨vv, vv1, vv2, _⟩ := (tk_row X d2 d2.2.2.1).2.2.2.2.2.2.1 k3
                rw [nI_ix (by omega), vv2, lN_i] at this
                by_cases zz : b2 (rng (nI vv) 0 99) = 0
                · rw [if_pos zz] at this
                  obtain ⟨_, _, this⟩ := bv_el this
                  have := congrArg Prod.fst (Option.some.inj this)
                  simp only at this
                  have p := nI_pos' (show vv < 2 ^ 31 by omega)
                  rw [this] at p
                  exact absurd p (by decide)
                · rw [if_neg zz] at this
                  have := congrArg Prod.fst (Option.some.inj this)
                  simp only at this
                  have p := nI_pos' (show vv < 2 ^ 31 by omega)
                  rw [this] at p
                  exact absurd p (by decide)
            obtain ⟨q, f1, f2⟩ := this
            rw [e1'] at f1
            cases f1
            simp only at f2
            rw [f2, d3.i 125 6 rfl, q6]
            exact nI_inb (by omega) (by decide)
          rw [ck_of q3.1, lt_q, lt_q, if_pos (by decide), ck_of zb_0]
          obtain ⟨f, p, h1, h2, h3, h4, h5⟩ := FF_w (c1 := wI (wI c3 126 (ix (c3.1 125 6)) (-1)) 125 6 ((wI c3 126 (ix (c3.1 125 6)) (-1)).1 125 6 + 1)) F (W := [(126, none), (125, some 6)]) ((Agr.refl.wI rfl).wI rfl) rfl rfl
          refine R2_F h1 h2 h3 h4 rfl ?_
          rw [ok_bv]
          refine (D_must h5 4).mono fun m4 F4 => ?_
          rw [if_neg (FM_13 F4).2.1, ok_some]
          exact F4
      · intro f p x m2 F
        rw [lt_q, ok_bi]
        refine (D_bounded F 0 99).mono fun q F2 => ?_
        rw [lt_q, ok_bv]
        refine (D_must F2 4).mono fun m4 F4 => ?_
        rw [if_neg (FM_13 F4).2.1, ok_some]
        exact F4
    · intro f p m1 F
      rw [ok_bi]
      refine (D_named F).mono fun q F1 => ?_
      rw [lt_q, ok_bi]
      refine (D_bounded F1 0 99).mono fun q2 F2 => ?_
      rw [lt_q, ok_bv]
      refine (D_must F2 4).mono fun m4 F4 => ?_
      rw [if_neg (FM_13 F4).2.1, ok_some]
      exact F4
