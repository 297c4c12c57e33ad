/-- clerks, proof and rules are told -/
theorem R2_seqw {c0 m0 : Hp} {sd : Nat} {oc : Option (Int32 × Hp)} {om : Option Hp} {S S' : Hp → Hp → Prop} {km : Hp → Option Hp} (h : R2 c0 m0 sd oc om S) (hs : ∀ c m, S c m → ∃ m1, km m = some m1 ∧ S' c m1) (hf : ∀ f p m, FM m0 sd f p m → Ok (km m) (FM m0 sd f p)) : R2 c0 m0 sd (bi oc (fun w h => ck (zb w) (some (w, h)))) (bv om km) S' := by
  obtain ⟨v, c1, m1, e1, e2, h⟩ := h
  rw [e1, e2, bi_q, bv_q]
  rcases h with ⟨rfl, h2⟩ | ⟨rfl, f, p, hp, g1, g2, g3, g4⟩
  · rw [ck_of zb_1]
    obtain ⟨m2, e3, h3⟩ := hs _ _ h2
    exact ⟨1, c1, m2, rfl, e3, .inl ⟨rfl, h3⟩⟩
  · rw [ck_of zb_0]
    obtain ⟨m2, e3, g5⟩ := hf f p m1 g4
    exact ⟨0, c1, m2, rfl, e3, .inr ⟨rfl, f, p, hp, g1, g2, g3, g5⟩⟩
theorem FM_19 {c0 m0 m : Hp} {K sd f p : Nat} {kd pl : Nat → Nat} (X : CTX c0 m0 K kd pl sd) (F : FM m0 sd f p m) : m.1 0 19 = nI sd := by rw [F.1.i 0 19 rfl]; exact X.2.1
theorem tell_clerk {c0 m0 c m : Hp} {K sd t np nc nb nl cs cd ln : Nat} {kd pl : Nat → Nat} {A : Nat → Option Cd} {Ls : Nat → List Lit} {as bs : Nat → Nat} (X : CTX c0 m0 K kd pl sd) (T : TSt c0 m0 K kd sd t np nc nb nl cs cd ln A Ls as bs c m) (k17 : kd t = 17) : R2 c0 m0 sd (fX5_tellClerk c) (if m.1 13 sd = 4 then bv (fX12_fail 2 m) (fun h2 => bX12_tell_107 h2) else bX12_tell_107 m) (TellOk c0 m0 K kd sd t) := by
  obtain ⟨L, C, N, hc, hl, TD⟩ := T
  have P := L.1
  obtain ⟨C1, C2, C3, C4, C5, C6, C7, C8, C9, C10, C11, C12, C13⟩ := C
  have s2 := X.2.2
  unfold fX5_tellClerk
  rw [C6, C10]
  by_cases n4 : nc = 4
  · rw [if_neg (show ¬ nI nc < (4 : Int32) by rw [n4]; decide), if_pos (show nI nc = (4 : Int32) by rw [n4]; rfl)]
    exact full_both X P fun f p m F => by unfold bX12_tell_107; rw [if_neg (FM_13 F).1]
  · rw [if_pos (show nI nc < (4 : Int32) from nI_lt (b := 4) (by omega) (by decide)), if_neg (show ¬ nI nc = (4 : Int32) from fun z => n4 (nI_inj (b := 4) (by omega) (by decide) z))]
    unfold bX12_tell_107
    rw [if_pos P.2.2.2.2.2.2.1, bv_id]
    unfold fX12_tellClerk
    have st := tk_goes X P k17 (by decide)
    rw [show nI 17 = (17 : Int32) from rfl] at st
    refine R2_seq st ?_ ?_
    · rintro c1 m1 ⟨b1, bP, b3, b4⟩
      have N1 := NmR_a N b3 b4 rfl rfl
      have q7 : c1.1 125 7 = nI nc := by rw [b3.i 125 7 rfl]; exact C6
      rw [q7]
      refine R2b_seq (tk_new (s := 1) (n := 4) X bP N1 (by decide) C1 C2 C4 (by rw [b3.i 125 6 rfl]; exact C5) q7 (by rw [b3.i 125 9 rfl]; exact C8) (show nc < 4 by omega) (by decide)) ?_ ?_
      · rintro x c2 m2 ⟨rfl, k2, d1, d2, d3, d4, d5, d6, d7⟩
        have q3 : c2.1 125 7 = nI nc := by rw [d3.i 125 7 rfl]; exact q7
        rw [lt_q, q3, nI_1, lt_q]
        have a4 : Agr [(125, some 7)] c2 (wI c2 125 7 (nI (nc + 1))) := Agr.refl.wI rfl
        have P4 : PB c0 m0 K kd sd (t + 1 + 1) (wI c2 125 7 (nI (nc + 1))) m2 := PB_w d2 a4 rfl rfl .refl ⟨rfl, rfl, rfl, rfl⟩
        have v7 : (wI c2 125 7 (nI (nc + 1))).1 125 7 = nI (nc + 1) := wI_s
        generalize wI c2 125 7 (nI (nc + 1)) = c4 at a4 P4 v7 ⊢
        have mu : R2 c0 m0 sd (fX5_take 4 c4) (fX12_must 4 m2) (fun c1 m1 => kd (t + 1 + 1) = 4 ∧ t + 1 + 1 < 400 ∧ PB c0 m0 K kd sd (t + 1 + 1 + 1) c1 m1 ∧ Agr W67 c4 c1 ∧ Agr W11 m2 m1) := tk_must X P4 (κ := 4) (by decide) (by decide)
        refine R2_seqw mu ?_ ?_
        · rintro c5 m4 ⟨_, w2, w3, w4, w5⟩
          have s19 : m4.1 0 19 = nI sd := by rw [w3.2.1.i 0 19 rfl]; exact X.2.1
          have n13 : m4.1 13 sd = nI nc := by rw [w5.i 13 sd rfl, d4.i 13 sd rfl, b4.i 13 sd rfl]; exact C10
          have n20 : m4.1 0 20 = nI (np + nc + nl) := by rw [w5.i 0 20 rfl, d4.i 0 20 rfl]; exact N1.1
          rw [if_pos (show m4.1 0 13 ≤ 0 by rw [w3.2.2.2.2.2.2.1]; decide), s19, ck_of (nI_inb s2 (by decide)), nI_ix (by omega), n13, M_notes n20 (by omega) (show t + 1 < 403 by omega), bv_q]
          simp only [wI_j (show (19 : Nat) ≠ 20 by decide), wI_k (show (0 : Nat) ≠ 10 by decide), wI_k (show (0 : Nat) ≠ 9 by decide), wL_i, s19, ck_of (nI_inb s2 (by decide)), nI_ix (show sd < 2 ^ 31 by omega), wI_k (show (13 : Nat) ≠ 0 by decide), wI_k (show (13 : Nat) ≠ 10 by decide), wI_k (show (13 : Nat) ≠ 9 by decide), n13, nI_1, lt_q]
          have tn : m4.2 6 (t + 1) = m.2 6 (t + 1) := by rw [w5.l 6 _ rfl, d4.l 6 _ rfl, b4.l 6 _ rfl]
          rw [tn]
          have AM : AgrM sd m4 (wI (wI (wI (wI (wL m4 8 (np + nc + nl) (m.2 6 (t + 1))) 9 (np + nc + nl) 1) 10 (np + nc + nl) (nI nc)) 0 20 (nI (np + nc + nl + 1))) 13 sd (nI (nc + 1))) := ((((AgrM.refl.wL (pw_0 rfl)).wI (pw_0 rfl)).wI (pw_0 rfl)).wI (pw_0 rfl)).wI (pw_1 rfl)
          have AG : Agr [(8, none), (9, none), (10, none), (0, some 20), (13, none)] m4 (wI (wI (wI (wI (wL m4 8 (np + nc + nl) (m.2 6 (t + 1))) 9 (np + nc + nl) 1) 10 (np + nc + nl) (nI nc)) 0 20 (nI (np + nc + nl + 1))) 13 sd (nI (nc + 1))) := ((((Agr.refl.wL rfl).wI rfl).wI rfl).wI rfl).wI rfl
          have VV : (wI (wI (wI (wI (wL m4 8 (np + nc + nl) (m.2 6 (t + 1))) 9 (np + nc + nl) 1) 10 (np + nc + nl) (nI nc)) 0 20 (nI (np + nc + nl + 1))) 13 sd (nI (nc + 1))).1 13 sd = nI (nc + 1) ∧ (wI (wI (wI (wI (wL m4 8 (np + nc + nl) (m.2 6 (t + 1))) 9 (np + nc + nl) 1) 10 (np + nc + nl) (nI nc)) 0 20 (nI (np + nc + nl + 1))) 13 sd (nI (nc + 1))).1 0 20 = nI (np + nc + nl + 1) ∧ (wI (wI (wI (wI (wL m4 8 (np + nc + nl) (m.2 6 (t + 1))) 9 (np + nc + nl) 1) 10 (np + nc + nl) (nI nc)) 0 20 (nI (np + nc + nl + 1))) 13 sd (nI (nc + 1))).2 8 (np + nc + nl) = m.2 6 (t + 1) ∧ (wI (wI (wI (wI (wL m4 8 (np + nc + nl) (m.2 6 (t + 1))) 9 (np + nc + nl) 1) 10 (np + nc + nl) (nI nc)) 0 20 (nI (np + nc + nl + 1))) 13 sd (nI (nc + 1))).1 9 (np + nc + nl) = nI 1 ∧ (wI (wI (wI (wI (wL m4 8 (np + nc + nl) (m.2 6 (t + 1))) 9 (np + nc + nl) 1) 10 (np + nc + nl) (nI nc)) 0 20 (nI (np + nc + nl + 1))) 13 sd (nI (nc + 1))).1 10 (np + nc + nl) = nI nc ∧ ∀ k, k < np + nc + nl → (wI (wI (wI (wI (wL m4 8 (np + nc + nl) (m.2 6 (t + 1))) 9 (np + nc + nl) 1) 10 (np + nc + nl) (nI nc)) 0 20 (nI (np + nc + nl + 1))) 13 sd (nI (nc + 1))).1 9 k = m4.1 9 k ∧ (wI (wI (wI (wI (wL m4 8 (np + nc + nl) (m.2 6 (t + 1))) 9 (np + nc + nl) 1) 10 (np + nc + nl) (nI nc)) 0 20 (nI (np + nc + nl + 1))) 13 sd (nI (nc + 1))).1 10 k = m4.1 10 k ∧ (wI (wI (wI (wI (wL m4 8 (np + nc + nl) (m.2 6 (t + 1))) 9 (np + nc + nl) 1) 10 (np + nc + nl) (nI nc)) 0 20 (nI (np + nc + nl + 1))) 13 sd (nI (nc + 1))).2 8 k = m4.2 8 k := by
            refine ⟨by simp [wI], by simp [wI], by simp [wI, wL], by simp [wI, wL]; rfl, by simp [wI, wL], fun k hk => ?_⟩
            have : k ≠ np + nc + nl := by omega
            simp [wI, wL, this]
          generalize wI (wI (wI (wI (wL m4 8 (np + nc + nl) (m.2 6 (t + 1))) 9 (np + nc + nl) 1) 10 (np + nc + nl) (nI nc)) 0 20 (nI (np + nc + nl + 1))) 13 sd (nI (nc + 1)) = m7 at AM AG VV ⊢
          obtain ⟨V2, V3, V4, V5, V6, V7⟩ := VV
          have P7 : PB c0 m0 K kd sd (t + 1 + 1 + 1) c5 m7 := PB_w w3 (W := []) .refl rfl rfl AM ⟨AG.i 0 11 rfl, AG.i 0 13 rfl, AG.i 0 15 rfl, AG.i 0 16 rfl⟩
          have aC : Agr [(142, some 6), (142, some 7), (142, some 8), (142, some 9), (144, none), (125, some 7)] c c5 := ((b3.sub rfl).trans (d3.sub rfl)).trans ((a4.sub rfl).trans (w4.sub rfl))
          have aM : Agr [(0, some 11), (0, some 15), (0, some 16), (8, none), (9, none), (10, none), (0, some 20), (13, none)] m m7 := ((b4.sub rfl).trans (d4.sub rfl)).trans ((w5.sub rfl).trans (AG.sub rfl))
          have uu : c5.1 142 8 = 0 → c.1 142 8 = 0 := fun z => by
            rw [w4.i 142 8 rfl, a4.i 142 8 rfl] at z
            have := d7 z
            rw [b3.i 142 8 rfl] at this
            exact this
          refine ⟨m7, rfl, t + 1 + 1 + 1, np, nc + 1, nb, nl, cs, cd, ln, A, Ls, as, bs, by omega, LSt_a L P7 aC aM rfl rfl, ⟨C1, by omega, C3, C4, by rw [aC.i 125 6 rfl]; exact C5, by rw [w4.i 125 7 rfl]; exact v7, by rw [aC.i 125 8 rfl]; exact C7, by rw [aC.i 125 9 rfl]; exact C8, by rw [aM.i 11 sd rfl]; exact C9, V2, by rw [aM.i 14 sd rfl]; exact C11, by rw [aM.i 17 sd rfl]; exact C12, by rw [aC.i 125 10 rfl, aM.i 25 sd rfl]; exact C13⟩, ?_, by omega, by omega, Told_f TD C4 (EqC_a aC rfl) (EqM_a aM rfl) (Nat.le_refl _) (Nat.le_refl _) uu (fun p => aC.i 126 p rfl) (fun p => aM.i 12 p rfl)⟩
          refine NmR_add (s := 1) (y := c1.2 106 (t + 1)) N (by decide) (fun s' => ?_) (by omega) ?_ (fun s' i hs' hn hi => ?_) V3 ?_ V5 V6 (fun k hk => ?_)
          · unfold cntN
            by_cases z : s' = 0
            · subst z; rfl
            · by_cases z1 : s' = 1
              · subst z1; rfl
              · simp [z, z1]
          · rw [w4.l 144 _ rfl, a4.l 144 _ rfl]; exact d5
          · match s', hs' with
            | 0, _ => exact aC.l 143 i rfl
            | 1, _ =>
              rw [w4.l 144 _ rfl, a4.l 144 _ rfl, ← b3.l 144 i rfl]
              exact d6 i (fun z => hn ⟨rfl, z⟩)
            | 2, _ => exact aC.l 145 i rfl
          · rw [V4, ← b4.l 6 (t + 1) rfl]
            exact (tk_row X bP bP.2.2.1).2.2.2.2.2.2.2 k2
          · obtain ⟨z1, z2, z3⟩ := V7 k hk
            rw [z1, z2, z3, w5.i 9 k rfl, d4.i 9 k rfl, b4.i 9 k rfl, w5.i 10 k rfl, d4.i 10 k rfl, b4.i 10 k rfl, w5.l 8 k rfl, d4.l 8 k rfl, b4.l 8 k rfl]
            exact ⟨rfl, rfl, rfl⟩
        · intro f p m4 F
          rw [if_neg (FM_13 F).2.1, ok_some]
          exact F
      · intro f p x m2 F
        rw [lt_q, ok_bv]
        refine (D_must F 4).mono fun m4 F4 => ?_
        rw [if_neg (FM_13 F4).2.1, ok_some]
        exact F4
    · intro f p m1 F
      rw [ok_bi]
      refine (D_named F).mono fun q F1 => ?_
      rw [lt_q, ok_bv]
      refine (D_must F1 4).mono fun m4 F4 => ?_
      rw [if_neg (FM_13 F4).2.1, ok_some]
      exact F4
theorem tell_proof {c0 m0 c m : Hp} {K sd t np nc nb nl cs cd ln : Nat} {kd pl : Nat → Nat} {A : Nat → Option Cd} {Ls : Nat → List Lit} {as bs : Nat → Nat} (X : CTX c0 m0 K kd pl sd) (T : TSt c0 m0 K kd sd t np nc nb nl cs cd ln A Ls as bs c m) (k21 : kd t = 21) : R2 c0 m0 sd (fX5_tellProof c) (bv (fX12_goesOn m) (fun h6 => bi (fX12_bounded 1 99 h6) (fun w8 h7 => ck (inb (h6.1 0 19) 2) (lt (wI h7 25 (ix (h6.1 0 19)) w8) (fun h9 => bv (fX12_must 4 h9) (fun h10 => some h10)))))) (TellOk c0 m0 K kd sd t) := by
  obtain ⟨L, C, N, hc, hl, TD⟩ := T
  have P := L.1
  obtain ⟨C1, C2, C3, C4, C5, C6, C7, C8, C9, C10, C11, C12, C13⟩ := C
  have s2 := X.2.2
  have dead : ∀ f p m', FM m0 sd f p m' → ∀ w8 : Int32, ∀ h6 : Hp, h6.1 0 19 = nI sd → Ok (ck (inb (h6.1 0 19) 2) (lt (wI m' 25 (ix (h6.1 0 19)) w8) (fun h9 => bv (fX12_must 4 h9) (fun h10 => some h10)))) (FM m0 sd f p) := fun f p m' F w8 h6 e19 => by
    rw [e19, ck_of (nI_inb s2 (by decide)), nI_ix (by omega), lt_q, bv_id]
    exact D_must (FM_w F (AgrM.refl.wI (pw_1 rfl)) ⟨wI_k (by decide), wI_k (by decide), wI_k (by decide)⟩) 4
  unfold fX5_tellProof
  have st := tk_goes X P k21 (by decide)
  rw [show nI 21 = (21 : Int32) from rfl] at st
  refine R2_seq st ?_ ?_
  · rintro c1 m1 ⟨b1, bP, b3, b4⟩
    obtain ⟨v, c3, y, m3, e1, e2, h⟩ := tk_int (a := 1) (b := 99) X bP (by decide) (by decide)
    have e1' : fX5_takeInt 1 99 c1 = some (v, c3) := e1
    have e2' : fX12_bounded 1 99 m1 = some (y, m3) := e2
    have s19 : m1.1 0 19 = nI sd := by rw [bP.2.1.i 0 19 rfl]; exact X.2.1
    rw [e1', e2', bi_q, bi_q, lt_q, wI_s]
    rcases h with ⟨v0, g1, g2, g3, g4, a, a1, rfl, rfl, g5⟩ | ⟨rfl, F⟩
    · rw [s19, ck_of (nI_inb s2 (by decide)), nI_ix (by omega), lt_q, bv_id, if_neg (nI_pos (by omega))]
      have a4 : Agr [(125, some 10)] c3 (wI c3 125 10 (nI a)) := Agr.refl.wI rfl
      have a5 : Agr [(25, none)] m3 (wI m3 25 sd (nI a)) := Agr.refl.wI rfl
      have P4 : PB c0 m0 K kd sd (t + 1 + 1) (wI c3 125 10 (nI a)) (wI m3 25 sd (nI a)) := PB_w g2 a4 rfl rfl (AgrM.refl.wI (pw_1 rfl)) ⟨a5.i 0 11 rfl, a5.i 0 13 rfl, a5.i 0 15 rfl, a5.i 0 16 rfl⟩
      have mu : R2 c0 m0 sd (fX5_take 4 (wI c3 125 10 (nI a))) (fX12_must 4 (wI m3 25 sd (nI a))) (fun c1 m1 => kd (t + 1 + 1) = 4 ∧ t + 1 + 1 < 400 ∧ PB c0 m0 K kd sd (t + 1 + 1 + 1) c1 m1 ∧ Agr W67 (wI c3 125 10 (nI a)) c1 ∧ Agr W11 (wI m3 25 sd (nI a)) m1) := tk_must X P4 (κ := 4) (by decide) (by decide)
      have mu2 := R2_seq (kc := fun h10 => ck (zb 1) (some (1, h10))) (km := fun h => some h) (S' := TellOk c0 m0 K kd sd t) mu (fun c5 m4 hh => by
        obtain ⟨_, w2, w3, w4, w5⟩ := hh
        rw [ck_of zb_1]
        have aC : Agr [(142, some 6), (142, some 7), (142, some 8), (142, some 9), (125, some 10)] c c5 := ((b3.sub rfl).trans (g3.sub rfl)).trans ((a4.sub rfl).trans (w4.sub rfl))
        have aM : Agr [(0, some 11), (0, some 15), (0, some 16), (25, none)] m m4 := ((b4.sub rfl).trans (g4.sub rfl)).trans ((a5.sub rfl).trans (w5.sub rfl))
        have uu : c5.1 142 8 = 0 → c.1 142 8 = 0 := fun z => by
          rw [w4.i 142 8 rfl, a4.i 142 8 rfl] at z
          have := (g5 z).1
          rw [b3.i 142 8 rfl] at this
          exact this
        exact ⟨1, c5, m4, rfl, rfl, .inl ⟨rfl, t + 1 + 1 + 1, np, nc, nb, nl, cs, cd, ln, A, Ls, as, bs, by omega, LSt_a L w3 aC aM rfl rfl, ⟨C1, C2, C3, C4, by rw [aC.i 125 6 rfl]; exact C5, by rw [aC.i 125 7 rfl]; exact C6, by rw [aC.i 125 8 rfl]; exact C7, by rw [aC.i 125 9 rfl]; exact C8, by rw [aM.i 11 sd rfl]; exact C9, by rw [aM.i 13 sd rfl]; exact C10, by rw [aM.i 14 sd rfl]; exact C11, by rw [aM.i 17 sd rfl]; exact C12, by rw [w4.i 125 10 rfl, wI_s, w5.i 25 sd rfl, wI_s]⟩, NmR_a N aC aM rfl rfl, by omega, by omega, Told_f TD C4 (EqC_a aC rfl) (EqM_a aM rfl) (Nat.le_refl _) (Nat.le_refl _) uu (fun p => aC.i 126 p rfl) (fun p => aM.i 12 p rfl)⟩⟩) (fun f p m4 F => ok_some.mpr F)
      rw [bv_id] at mu2
      exact mu2
    · rw [if_pos (by decide), ck_of zb_0]
      obtain ⟨f, p, h1, h2, h3, h4, h5⟩ := FF_w (c1 := wI c3 125 10 (-1)) F (W := [(125, some 10)]) (Agr.refl.wI rfl) rfl rfl
      exact R2_F h1 h2 h3 h4 rfl (dead f p m3 h5 y m1 s19)
  · intro f p m1 F
    rw [ok_bi]
    refine (D_bounded F 1 99).mono fun q F1 => ?_
    exact dead f p q.2 F1 q.1 m1 (FM_19 X F)
