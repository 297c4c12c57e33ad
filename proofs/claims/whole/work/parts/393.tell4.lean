/-- bars are told -/
theorem any_cg {f g : Nat → Bool} : ∀ {n : Nat}, (∀ k, k < n → f k = g k) → (List.range n).any f = (List.range n).any g
  | 0, _ => rfl
  | n + 1, h => by rw [List.range_succ, List.any_append, List.any_append, any_cg (n := n) (fun k hk => h k (by omega)), List.any_cons, List.any_cons, h n (by omega)]; rfl
theorem told_step {c0 m0 : Hp} {sd : Nat} {oc om : Option (Int32 × Hp)} {S : Int32 → Int32 → Hp → Hp → Prop} {S' : Hp → Hp → Prop} {kc : Int32 → Hp → Option (Int32 × Hp)} {km : Int32 → Hp → Option Hp} (h : R3 c0 m0 sd oc om S) (hs : ∀ v x c m, 0 ≤ v → S v x c m → R2 c0 m0 sd (kc v c) (km x m) S') (hf : ∀ f p x m, FM m0 sd f p m → Ok (km x m) (FM m0 sd f p)) : R2 c0 m0 sd (bi oc (fun w h => lt w (fun v => if 0 ≤ v then kc v h else ck (zb 0) (some (0, h))))) (bi om (fun x h => lt x (fun y => km y h))) S' := by
  obtain ⟨v, c1, x, m1, e1, e2, h⟩ := h
  rw [e1, e2, bi_q, bi_q, lt_q, lt_q]
  rcases h with ⟨v0, h2⟩ | ⟨rfl, f, p, hp, g1, g2, g3, g4⟩
  · rw [if_pos v0]
    exact hs _ _ _ _ v0 h2
  · rw [if_neg (by decide), ck_of zb_0]
    obtain ⟨m2, e3, g5⟩ := hf f p x m1 g4
    exact ⟨0, c1, m2, rfl, e3, .inr ⟨rfl, f, p, hp, g1, g2, g3, g5⟩⟩
theorem tell_barred {c0 m0 c m : Hp} {K sd t np nc nb nl cs cd ln : Nat} {kd pl : Nat → Nat} {A : Nat → Option Cd} {Ls : Nat → List Lit} {as bs : Nat → Nat} (X : CTX c0 m0 K kd pl sd) (T : TSt c0 m0 K kd sd t np nc nb nl cs cd ln A Ls as bs c m) (k18 : kd t = 18) : R2 c0 m0 sd (fX5_tellBarred c) (if m.1 14 sd = 12 then bv (fX12_fail 2 m) (fun h2 => bX12_tell_140 h2) else bX12_tell_140 m) (TellOk c0 m0 K kd sd t) := by
  obtain ⟨L, C, N, hc, hl, TD⟩ := T
  have P := L.1
  have C' := C
  obtain ⟨C1, C2, C3, C4, C5, C6, C7, C8, C9, C10, C11, C12, C13⟩ := C'
  have s2 := X.2.2
  unfold fX5_tellBarred
  rw [C7, C11]
  by_cases n12 : nb = 12
  · rw [if_neg (show ¬ nI nb < (12 : Int32) by rw [n12]; decide), if_pos (show nI nb = (12 : Int32) by rw [n12]; rfl)]
    exact full_both X P fun f p m F => by unfold bX12_tell_140; rw [if_neg (FM_13 F).1]
  · rw [if_pos (show nI nb < (12 : Int32) from nI_lt (b := 12) (by omega) (by decide)), if_neg (show ¬ nI nb = (12 : Int32) from fun z => n12 (nI_inj (b := 12) (by omega) (by decide) z))]
    unfold bX12_tell_140
    rw [if_pos P.2.2.2.2.2.2.1, bv_id]
    unfold fX12_tellBar
    have st := tk_goes X P k18 (by decide)
    rw [show nI 18 = (18 : Int32) from rfl] at st
    have dE : ∀ f p m', FM m0 sd f p m' → ∀ a b : Int32, Ok (bv (fX12_must 4 m') (fun h8 => if h8.1 0 13 ≤ 0 then ck (inb (h8.1 0 19) 2) (ck (inb (((12 : Int32) * (h8.1 0 19)) + (h8.1 14 (ix (h8.1 0 19)))) 24) (lt (wI h8 15 (ix (((12 : Int32) * (h8.1 0 19)) + (h8.1 14 (ix (h8.1 0 19))))) a) (fun h9 => ck (inb (h9.1 0 19) 2) (ck (inb (((12 : Int32) * (h9.1 0 19)) + (h9.1 14 (ix (h9.1 0 19)))) 24) (lt (wI h9 16 (ix (((12 : Int32) * (h9.1 0 19)) + (h9.1 14 (ix (h9.1 0 19))))) b) (fun h10 => ck (inb (h10.1 0 19) 2) (ck (inb (h10.1 0 19) 2) (lt (wI h10 14 (ix (h10.1 0 19)) ((h10.1 14 (ix (h10.1 0 19))) + 1)) (fun h11 => some h11))))))))) else some h8)) (FM m0 sd f p) := fun f p m' F a b => by
      rw [ok_bv]
      refine (D_must F 4).mono fun m4 F4 => ?_
      rw [if_neg (FM_13 F4).2.1, ok_some]
      exact F4
    refine R2_seq st ?_ ?_
    · rintro c1 m1 ⟨b1, bP, b3, b4⟩
      have N1 := NmR_a N b3 b4 rfl rfl
      rw [show c1.1 125 7 = nI nc by rw [b3.i 125 7 rfl]; exact C6]
      refine told_step (tk_told (s := 1) (n := 4) X bP N1 (by decide) C2 (by decide) (by decide) (by omega)) ?_ ?_
      · rintro v x c2 m2 v0 ⟨d1, d2, d3, d4, ⟨i, d5, rfl⟩, d6⟩
        have N2 := NmR_a N1 d3 d4 rfl rfl
        rw [show c2.1 125 6 = nI np by rw [d3.i 125 6 rfl, b3.i 125 6 rfl]; exact C5]
        refine told_step (tk_told (s := 0) (n := 10) X d2 N2 (by decide) C1 (by decide) (by decide) (by omega)) ?_ ?_
        · rintro w y c3 m3 w0 ⟨g1, g2, g3, g4, ⟨j, g5, rfl⟩, g6⟩
          have q8 : c3.1 125 8 = nI nb := by rw [g3.i 125 8 rfl, d3.i 125 8 rfl, b3.i 125 8 rfl]; exact C7
          rw [ck_of (nI_inb d5 (by decide)), ck_of (nI_inb d5 (by decide)), nI_ix (by omega), lt_q, wI_k (show (125 : Nat) ≠ 127 by decide), q8, nI_1, lt_q]
          have a4 : Agr [(127, none), (125, some 8)] c3 (wI (wI c3 127 i (c3.1 127 i ||| ((1 : Int32) <<< (nI j &&& 31)))) 125 8 (nI (nb + 1))) := (Agr.refl.wI rfl).wI rfl
          have v127 : ∀ q, (wI (wI c3 127 i (c3.1 127 i ||| ((1 : Int32) <<< (nI j &&& 31)))) 125 8 (nI (nb + 1))).1 127 q = if q = i then c3.1 127 i ||| ((1 : Int32) <<< (nI j &&& 31)) else c3.1 127 q := fun q => by simp [wI]
          have v8 : (wI (wI c3 127 i (c3.1 127 i ||| ((1 : Int32) <<< (nI j &&& 31)))) 125 8 (nI (nb + 1))).1 125 8 = nI (nb + 1) := wI_s
          generalize wI (wI c3 127 i (c3.1 127 i ||| ((1 : Int32) <<< (nI j &&& 31)))) 125 8 (nI (nb + 1)) = c4 at a4 v127 v8 ⊢
          have P4 : PB c0 m0 K kd sd (t + 1 + 1 + 1) c4 m3 := PB_w g2 a4 rfl rfl .refl ⟨rfl, rfl, rfl, rfl⟩
          have mu : R2 c0 m0 sd (fX5_take 4 c4) (fX12_must 4 m3) (fun c1 m1 => kd (t + 1 + 1 + 1) = 4 ∧ t + 1 + 1 + 1 < 400 ∧ PB c0 m0 K kd sd (t + 1 + 1 + 1 + 1) c1 m1 ∧ Agr W67 c4 c1 ∧ Agr W11 m3 m1) := tk_must X P4 (κ := 4) (by decide) (by decide)
          refine R2_seqw mu ?_ ?_
          · rintro c5 m4 ⟨_, w2, w3, w4, w5⟩
            have s19 : m4.1 0 19 = nI sd := by rw [w3.2.1.i 0 19 rfl]; exact X.2.1
            have n14 : m4.1 14 sd = nI nb := by rw [w5.i 14 sd rfl, g4.i 14 sd rfl, d4.i 14 sd rfl, b4.i 14 sd rfl]; exact C11
            rw [if_pos (show m4.1 0 13 ≤ 0 by rw [w3.2.2.2.2.2.2.1]; decide)]
            simp only [s19, ck_of (nI_inb s2 (by decide)), nI_ix (show sd < 2 ^ 31 by omega), n14, e12, ck_of (nI_inb (show 12 * sd + nb < 24 by omega) (by decide)), nI_ix (show 12 * sd + nb < 2 ^ 31 by omega), lt_q, wI_k (show (0 : Nat) ≠ 15 by decide), wI_k (show (14 : Nat) ≠ 15 by decide), wI_k (show (0 : Nat) ≠ 16 by decide), wI_k (show (14 : Nat) ≠ 16 by decide), nI_1]
            have AM : AgrM sd m4 (wI (wI (wI m4 15 (12 * sd + nb) x) 16 (12 * sd + nb) y) 14 sd (nI (nb + 1))) := ((AgrM.refl.wI (pw_12 rfl (by omega))).wI (pw_12 rfl (by omega))).wI (pw_1 rfl)
            have AG : Agr [(15, none), (16, none), (14, none)] m4 (wI (wI (wI m4 15 (12 * sd + nb) x) 16 (12 * sd + nb) y) 14 sd (nI (nb + 1))) := ((Agr.refl.wI rfl).wI rfl).wI rfl
            have V15 : ∀ k, (wI (wI (wI m4 15 (12 * sd + nb) x) 16 (12 * sd + nb) y) 14 sd (nI (nb + 1))).1 15 k = if k = 12 * sd + nb then x else m4.1 15 k := fun k => by simp [wI]
            have V16 : ∀ k, (wI (wI (wI m4 15 (12 * sd + nb) x) 16 (12 * sd + nb) y) 14 sd (nI (nb + 1))).1 16 k = if k = 12 * sd + nb then y else m4.1 16 k := fun k => by simp [wI]
            have V14 : (wI (wI (wI m4 15 (12 * sd + nb) x) 16 (12 * sd + nb) y) 14 sd (nI (nb + 1))).1 14 sd = nI (nb + 1) := wI_s
            generalize wI (wI (wI m4 15 (12 * sd + nb) x) 16 (12 * sd + nb) y) 14 sd (nI (nb + 1)) = m7 at AM AG V15 V16 V14 ⊢
            have P7 : PB c0 m0 K kd sd (t + 1 + 1 + 1 + 1) c5 m7 := PB_w w3 (W := []) .refl rfl rfl AM ⟨AG.i 0 11 rfl, AG.i 0 13 rfl, AG.i 0 15 rfl, AG.i 0 16 rfl⟩
            have aC : Agr [(142, some 6), (142, some 7), (142, some 8), (142, some 9), (127, none), (125, some 8)] c c5 := (((b3.sub rfl).trans (d3.sub rfl)).trans ((g3.sub rfl).trans (a4.sub rfl))).trans (w4.sub rfl)
            have aM : Agr [(0, some 11), (0, some 15), (0, some 16), (15, none), (16, none), (14, none)] m m7 := (((b4.sub rfl).trans (d4.sub rfl)).trans ((g4.sub rfl).trans (w5.sub rfl))).trans (AG.sub rfl)
            have eL : ∀ l, l < 10 → ∀ j, c5.1 (132 + l) j = c.1 (132 + l) j := fun l hl' j => by
              match l, hl' with
              | 0, _ => exact aC.i 132 j rfl
              | 1, _ => exact aC.i 133 j rfl
              | 2, _ => exact aC.i 134 j rfl
              | 3, _ => exact aC.i 135 j rfl
              | 4, _ => exact aC.i 136 j rfl
              | 5, _ => exact aC.i 137 j rfl
              | 6, _ => exact aC.i 138 j rfl
              | 7, _ => exact aC.i 139 j rfl
              | 8, _ => exact aC.i 140 j rfl
              | 9, _ => exact aC.i 141 j rfl
            have un : c5.1 142 8 = 0 → c.1 142 8 = 0 ∧ x = nI i ∧ y = nI j := fun z => by
              rw [w4.i 142 8 rfl, a4.i 142 8 rfl] at z
              obtain ⟨z1, z2, _⟩ := g6 z
              obtain ⟨z3, z4, _⟩ := d6 z1
              rw [b3.i 142 8 rfl] at z3
              exact ⟨z3, z4, z2⟩
            obtain ⟨CC, VV, RR⟩ := TD
            refine ⟨m7, rfl, t + 1 + 1 + 1 + 1, np, nc, nb + 1, nl, cs, cd, ln, A, Ls, as, bs, by omega, LSt_a L P7 aC aM rfl rfl, ⟨C1, C2, by omega, C4, by rw [aC.i 125 6 rfl]; exact C5, by rw [aC.i 125 7 rfl]; exact C6, by rw [w4.i 125 8 rfl]; exact v8, by rw [aC.i 125 9 rfl]; exact C8, by rw [aM.i 11 sd rfl]; exact C9, by rw [aM.i 13 sd rfl]; exact C10, V14, by rw [aM.i 17 sd rfl]; exact C12, by rw [aC.i 125 10 rfl, aM.i 25 sd rfl]; exact C13⟩, NmR_a N aC aM rfl rfl, by omega, by omega, CU_h CC (fun l hl' => ⟨eL l (by omega) 5, eL l (by omega) 6⟩) (fun j _ => aC.i 129 j rfl) (fun l _ => ⟨aM.i 23 _ rfl, aM.i 24 _ rfl⟩) ⟨fun j _ => ⟨aM.i 35 j rfl, aM.i 36 j rfl⟩, fun i _ => ⟨aM.i 29 i rfl, aM.i 30 i rfl, aM.i 31 i rfl, aM.i 32 i rfl, aM.i 33 i rfl, aM.i 34 i rfl⟩⟩ (Nat.le_refl _) (Nat.le_refl _) (fun z => (un z).1) (Nat.le_refl _), fun z => ?_, fun r hr => ?_⟩
            · obtain ⟨u1, rfl, rfl⟩ := un z
              obtain ⟨z1, z2, z3⟩ := VV u1
              refine ⟨fun p hp => by rw [aC.i 126 p rfl, aM.i 12 _ rfl]; exact z1 p hp, fun q p hq hp => ?_, fun l hl' => ?_⟩
              · have old : c3.1 127 q = c.1 127 q := by rw [g3.i 127 q rfl, d3.i 127 q rfl, b3.i 127 q rfl]
                have bo : barT sd (nb + 1) m7 (nI q) (nI p) = (barT sd nb m (nI q) (nI p) || (decide (nI i = nI q) && decide (nI j = nI p))) := by
                  unfold barT
                  rw [List.range_succ, List.any_append, List.any_cons, List.any_nil, Bool.or_false, V15, V16, if_pos rfl, if_pos rfl]
                  congr 1
                  refine any_cg fun k hk => ?_
                  rw [V15, V16, if_neg (by omega), if_neg (by omega), w5.i 15 _ rfl, g4.i 15 _ rfl, d4.i 15 _ rfl, b4.i 15 _ rfl, w5.i 16 _ rfl, g4.i 16 _ rfl, d4.i 16 _ rfl, b4.i 16 _ rfl]
                rw [bo, ← z2 q p hq hp, w4.i 127 q rfl, v127]
                by_cases eq : q = i
                · subst eq
                  rw [if_pos rfl, bit_or (by omega), bit_1 (by omega) (by omega), old, decide_eq_true (show nI q = nI q from rfl), Bool.true_and]
                  congr 1
                  by_cases ep : j = p
                  · rw [decide_eq_true ep, decide_eq_true (by rw [ep])]
                  · rw [decide_eq_false ep, decide_eq_false (fun z => ep (nI_inj (by omega) (by omega) z))]
                · rw [if_neg eq, old, decide_eq_false (fun z => eq (nI_inj (by omega) (by omega) z).symm), Bool.false_and, Bool.or_false]
              · rw [eL l (by omega), eL l (by omega), eL l (by omega), eL l (by omega), eL l (by omega), aM.i 18 _ rfl, aM.i 19 _ rfl, aM.i 20 _ rfl, aM.i 21 _ rfl, aM.i 22 _ rfl]
                exact z3 l hl'
            · have h := RR r hr
              cases hA : A r with
              | none =>
                rw [hA] at h
                simp only at h ⊢
                rw [aC.i 130 r rfl, aM.i 26 _ rfl]; exact h
              | some e =>
                rw [hA] at h
                simp only at h ⊢
                obtain ⟨y1, y2, ⟨a, y3, y4, y5, y6⟩, b, y7, y8, y9, y10⟩ := h
                exact ⟨y1, by rw [aM.i 26 _ rfl]; exact y2, ⟨a, y3, by rw [aC.i 130 r rfl]; exact y4, by rw [aC.i 131 r rfl]; exact y5, cwG_w y6 fun j _ => aC.i 129 j rfl⟩, b, y7, by rw [aM.i 27 _ rfl]; exact y8, by rw [aM.i 28 _ rfl]; exact y9, cdM_w y10 fun j _ => ⟨aM.i 35 j rfl, aM.i 36 j rfl⟩⟩
          · intro f p m4 F
            rw [if_neg (FM_13 F).2.1, ok_some]
            exact F
        · intro f p y m3 F
          exact dE f p m3 F x y
      · intro f p x m2 F
        rw [ok_bi]
        refine (D_known F 0).mono fun q F1 => ?_
        rw [lt_q]
        exact dE f p q.2 F1 x q.1
    · intro f p m1 F
      rw [ok_bi]
      refine (D_known F 1).mono fun q F1 => ?_
      rw [lt_q, ok_bi]
      refine (D_known F1 0).mono fun q2 F2 => ?_
      rw [lt_q]
      exact dE f p q2.2 F2 q.1 q2.1
