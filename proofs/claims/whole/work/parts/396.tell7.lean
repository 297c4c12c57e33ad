/-- letters are told -/
theorem tell_letter {c0 m0 c m : Hp} {K sd t np nc nb nl cs cd ln : Nat} {kd pl : Nat → Nat} {A : Nat → Option Cd} {Ls : Nat → List Lit} {as bs : Nat → Nat} (X : CTX c0 m0 K kd pl sd) (T : TSt c0 m0 K kd sd t np nc nb nl cs cd ln A Ls as bs c m) (k19 : kd t = 19) : R2 c0 m0 sd (fX5_tellLetter c) (if m.1 17 sd = 10 then bv (fX12_fail 2 m) (fun h2 => bX12_tell_173 h2) else bX12_tell_173 m) (TellOk c0 m0 K kd sd t) := by
  have T' := T
  obtain ⟨L, C, N, hc, hl, TD⟩ := T'
  have P := L.1
  obtain ⟨C1, C2, C3, C4, C5, C6, C7, C8, C9, C10, C11, C12, C13⟩ := C
  have s2 := X.2.2
  unfold fX5_tellLetter
  rw [C8, C12]
  by_cases n10 : nl = 10
  · rw [if_neg (show ¬ nI nl < (10 : Int32) by rw [n10]; decide), if_pos (show nI nl = (10 : Int32) by rw [n10]; rfl)]
    exact full_both X P fun f p m F => by unfold bX12_tell_173; rw [if_neg (FM_13 F).1]
  · have hnl : nl < 10 := by omega
    have iv : inb (nI (10 * sd + nl)) 20 = true := nI_inb (by omega) (by decide)
    have xv : ix (nI (10 * sd + nl)) = 10 * sd + nl := nI_ix (by omega)
    rw [if_pos (show nI nl < (10 : Int32) from nI_lt (b := 10) hnl (by decide)), if_neg (show ¬ nI nl = (10 : Int32) from fun z => n10 (nI_inj (b := 10) (by omega) (by decide) z))]
    unfold bX12_tell_173
    rw [if_pos P.2.2.2.2.2.2.1, bv_id, ML_e, show m.1 0 19 = nI sd by rw [P.2.1.i 0 19 rfl]; exact X.2.1, ck_of (nI_inb s2 (by decide)), nI_ix (by omega), C12, e10, lt_q]
    have st := tk_goes X P k19 (by decide)
    rw [show nI 19 = (19 : Int32) from rfl] at st
    refine R2_seq st ?_ ?_
    · rintro c1 m1 ⟨b1, bP, b3, b4⟩
      have N1 := NmR_a N b3 b4 rfl rfl
      have q9 : c1.1 125 9 = nI nl := by rw [b3.i 125 9 rfl]; exact C8
      rw [q9]
      refine R2b_seq (tk_new (s := 2) (n := 10) X bP N1 (by decide) C1 C2 C4 (by rw [b3.i 125 6 rfl]; exact C5) (by rw [b3.i 125 7 rfl]; exact C6) q9 (show nl < 10 from hnl) (by decide)) ?_ ?_
      · rintro x c2 m2 ⟨rfl, k2, d1, d2, d3, d4, d5, d6, d7⟩
        have r9 : c2.1 125 9 = nI nl := by rw [d3.i 125 9 rfl]; exact q9
        rw [lt_q, r9, ck_of (nI_inb hnl (by decide)), nI_ix (by omega), nI_1, lt_q]
        obtain ⟨c3, hc3⟩ : ∃ c3, c3 = wI c2 125 9 (nI (nl + 1)) := ⟨_, rfl⟩
        rw [← hc3]
        have a3 : Agr [(125, some 9)] c2 c3 := by rw [hc3]; exact Agr.refl.wI rfl
        have P3 : PB c0 m0 K kd sd (t + 1 + 1) c3 m2 := PB_w d2 a3 rfl rfl .refl ⟨rfl, rfl, rfl, rfl⟩
        have v9 : c3.1 125 9 = nI (nl + 1) := by rw [hc3, wI_s]
        have N3 : NmR np nc nl c3 m2 := NmR_w N1 (fun s' i hs' hi => by
          match s', hs' with
          | 0, _ => rw [a3.l 143 i rfl, d3.l 143 i rfl]
          | 1, _ => rw [a3.l 144 i rfl, d3.l 144 i rfl]
          | 2, _ =>
            rw [a3.l 145 i rfl]
            exact d6 i (fun z => by rw [z] at hi; exact absurd hi (Nat.lt_irrefl _))) ⟨d4.i 0 20 rfl, fun k => d4.i 9 k rfl, fun k => d4.i 10 k rfl, fun k => d4.l 8 k rfl⟩
        have aC3 : Agr (TL nl) c c3 := ((b3.sub (sbw_r rfl)).trans (d3.sub (sbw_r rfl))).trans (a3.sub (sbw_r rfl))
        have aM2 : Agr TLm m m2 := (b4.sub rfl).trans (d4.sub rfl)
        have lr2 : lrow sd nl m m2 := lrow_a (lrow_a (fun _ _ _ _ => rfl) b4 rfl) d4 rfl
        have u3 : c3.1 142 8 = 0 → c.1 142 8 = 0 := fun z => by
          rw [a3.i 142 8 rfl] at z
          have := d7 z
          rw [b3.i 142 8 rfl] at this
          exact this
        have n145 : c3.2 145 nl = c.2 106 (t + 1) := by rw [a3.l 145 _ rfl, ← b3.l 106 (t + 1) rfl]; exact d5
        have q6 : c3.1 125 6 = nI np := by rw [(TL_i aC3 (.inl (by decide)) hnl rfl).1]; exact C5
        rw [q6]
        -- the writer
        obtain ⟨v1, c4, x1, m3, e1, e2, h⟩ := tk_told (s := 0) (n := 10) X P3 N3 (by decide) C1 (by decide) (by decide) (by omega)
        have e1' : fX5_takeTold 143 10 (nI np) c3 = some (v1, c4) := e1
        have e2' : fX12_known 0 m2 = some (x1, m3) := e2
        unfold ML1
        rw [e1', e2', bi_q, bi_q, lt_q, wI_s]
        unfold ML2
        rw [ck_of iv, xv, lt_q]
        rcases h with ⟨v10, g1, g2, g3, g4, ⟨i1, g5, rfl⟩, g6⟩ | ⟨rfl, F⟩
        · rw [if_pos v10]
          have N4 := NmR_a N3 g3 g4 rfl rfl
          obtain ⟨P5, N5⟩ := ls_w g2 N4 hnl 0 (nI i1) (k := 18) rfl x1
          obtain ⟨c5, hc5⟩ : ∃ c5, c5 = wI c4 (132 + nl) 0 (nI i1) := ⟨_, rfl⟩
          obtain ⟨m4, hm4⟩ : ∃ m4, m4 = wI m3 18 (10 * sd + nl) x1 := ⟨_, rfl⟩
          rw [← hc5] at P5 N5 ⊢
          rw [← hm4] at P5 N5 ⊢
          have aC5 : Agr (TL nl) c c5 := by rw [hc5]; exact (aC3.trans (g3.sub (sbw_r rfl))).wI wm_hd
          have aM4 : Agr TLm m m4 := by rw [hm4]; exact (aM2.trans (g4.sub rfl)).wI rfl
          have lr4 : lrow sd nl m m4 := by rw [hm4]; exact lrow_w (lrow_a lr2 g4 rfl)
          have q65 : c5.1 125 6 = nI np := by rw [(TL_i aC5 (.inl (by decide)) hnl rfl).1]; exact C5
          rw [q65]
          -- the reader
          obtain ⟨v2, c6, x2, m5, e1, e2, h⟩ := tk_told (s := 0) (n := 10) X P5 N5 (by decide) C1 (by decide) (by decide) (by omega)
          have e1' : fX5_takeTold 143 10 (nI np) c5 = some (v2, c6) := e1
          have e2' : fX12_known 0 m4 = some (x2, m5) := e2
          rw [e1', e2', bi_q, bi_q, lt_q, wI_s]
          unfold ML3
          rw [ck_of iv, xv, lt_q]
          rcases h with ⟨v20, j1, j2, j3, j4, ⟨i2, j5, rfl⟩, j6⟩ | ⟨rfl, F⟩
          · rw [if_neg (nI_pos (by omega))]
            have N6 := NmR_a N5 j3 j4 rfl rfl
            obtain ⟨P7, N7⟩ := ls_w j2 N6 hnl 1 (nI i2) (k := 19) rfl x2
            obtain ⟨c7, hc7⟩ : ∃ c7, c7 = wI c6 (132 + nl) 1 (nI i2) := ⟨_, rfl⟩
            obtain ⟨m6, hm6⟩ : ∃ m6, m6 = wI m5 19 (10 * sd + nl) x2 := ⟨_, rfl⟩
            rw [← hc7] at P7 N7 ⊢
            rw [← hm6] at P7 N7 ⊢
            have aC7 : Agr (TL nl) c c7 := by rw [hc7]; exact (aC5.trans (j3.sub (sbw_r rfl))).wI wm_hd
            have aM6 : Agr TLm m m6 := by rw [hm6]; exact (aM4.trans (j4.sub rfl)).wI rfl
            have lr6 : lrow sd nl m m6 := by rw [hm6]; exact lrow_w (lrow_a lr4 j4 rfl)
            unfold fX5_takeLetterInts
            -- the shelf
            obtain ⟨v3, c8, x3, m7, e1, e2, h⟩ := tk_int (a := 0) (b := 3) X P7 (by decide) (by decide)
            have e1' : fX5_takeInt 0 3 c7 = some (v3, c8) := e1
            have e2' : fX12_bounded 0 3 m6 = some (x3, m7) := e2
            rw [e1', e2', bi_q, bi_q, lt_q, wI_s]
            unfold ML4
            rw [ck_of iv, xv, lt_q]
            rcases h with ⟨v30, k1, k2', k3, k4, y3, k5, rfl, rfl, k6⟩ | ⟨rfl, F⟩
            · rw [if_pos v30]
              have N8 := NmR_a N7 k3 k4 rfl rfl
              obtain ⟨P9, N9⟩ := ls_w k2' N8 hnl 2 (nI y3) (k := 20) rfl (nI y3)
              obtain ⟨c9, hc9⟩ : ∃ c9, c9 = wI c8 (132 + nl) 2 (nI y3) := ⟨_, rfl⟩
              obtain ⟨m8, hm8⟩ : ∃ m8, m8 = wI m7 20 (10 * sd + nl) (nI y3) := ⟨_, rfl⟩
              rw [← hc9] at P9 N9 ⊢
              rw [← hm8] at P9 N9 ⊢
              have aC9 : Agr (TL nl) c c9 := by rw [hc9]; exact (aC7.trans (k3.sub (sbw_r rfl))).wI wm_hd
              have aM8 : Agr TLm m m8 := by rw [hm8]; exact (aM6.trans (k4.sub rfl)).wI rfl
              have lr8 : lrow sd nl m m8 := by rw [hm8]; exact lrow_w (lrow_a lr6 k4 rfl)
              -- what is laid in
              obtain ⟨v4, cA, x4, m9, e1, e2, h⟩ := tk_int (a := 0) (b := 999) X P9 (by decide) (by decide)
              have e1' : fX5_takeInt 0 999 c9 = some (v4, cA) := e1
              have e2' : fX12_bounded 0 999 m8 = some (x4, m9) := e2
              rw [e1', e2', bi_q, bi_q, lt_q, wI_s]
              unfold ML5
              rw [ck_of iv, xv, lt_q]
              rcases h with ⟨v40, p1, p2, p3, p4, y4, p5, rfl, rfl, p6⟩ | ⟨rfl, F⟩
              · rw [if_pos v40]
                have NA := NmR_a N9 p3 p4 rfl rfl
                obtain ⟨PB', NB'⟩ := ls_w p2 NA hnl 3 (nI y4) (k := 21) rfl (nI y4)
                obtain ⟨cB, hcB⟩ : ∃ cB, cB = wI cA (132 + nl) 3 (nI y4) := ⟨_, rfl⟩
                obtain ⟨mA, hmA⟩ : ∃ mA, mA = wI m9 21 (10 * sd + nl) (nI y4) := ⟨_, rfl⟩
                rw [← hcB] at PB' NB' ⊢
                rw [← hmA] at PB' NB' ⊢
                have aCB : Agr (TL nl) c cB := by rw [hcB]; exact (aC9.trans (p3.sub (sbw_r rfl))).wI wm_hd
                have aMA : Agr TLm m mA := by rw [hmA]; exact (aM8.trans (p4.sub rfl)).wI rfl
                have lrA : lrow sd nl m mA := by rw [hmA]; exact lrow_w (lrow_a lr8 p4 rfl)
                -- the harm
                obtain ⟨v5, cC, x5, mB, e1, e2, h⟩ := tk_int (a := 0) (b := 99) X PB' (by decide) (by decide)
                have e1' : fX5_takeInt 0 99 cB = some (v5, cC) := e1
                have e2' : fX12_bounded 0 99 mA = some (x5, mB) := e2
                rw [e1', e2', bi_q, bi_q, lt_q, wI_s]
                unfold ML6
                rw [ck_of iv, xv, lt_q]
                rcases h with ⟨v50, r1, r2, r3, r4, y5, r5, rfl, rfl, r6⟩ | ⟨rfl, F⟩
                · rw [if_neg (nI_pos (by omega)), ck_of zb_1, bi_q, if_neg (by decide), ck_of iv, lt_q, lt_q, wI_k (show (0 : Nat) ≠ 22 by decide)]
                  have NC := NmR_a NB' r3 r4 rfl rfl
                  obtain ⟨PD, ND⟩ := ls_w r2 NC hnl 4 (nI y5) (k := 22) rfl (nI y5)
                  obtain ⟨cD, hcD⟩ : ∃ cD, cD = wI cC (132 + nl) 4 (nI y5) := ⟨_, rfl⟩
                  obtain ⟨mC, hmC⟩ : ∃ mC, mC = wI mB 22 (10 * sd + nl) (nI y5) := ⟨_, rfl⟩
                  rw [← hcD] at PD ND ⊢
                  rw [← hmC] at PD ND ⊢
                  have aCD : Agr (TL nl) c cD := by rw [hcD]; exact (aCB.trans (r3.sub (sbw_r rfl))).wI wm_hd
                  have aMC : Agr TLm m mC := by rw [hmC]; exact (aMA.trans (r4.sub rfl)).wI rfl
                  have lrC : lrow sd nl m mC := by rw [hmC]; exact lrow_w (lrow_a lrA r4 rfl)
                  have s11 : cD.1 125 11 = nI cs := by rw [hcD, wI_k (by omega), r3.i 125 11 rfl, hcB, wI_k (by omega), p3.i 125 11 rfl, hc9, wI_k (by omega), k3.i 125 11 rfl, hc7, wI_k (by omega), j3.i 125 11 rfl, hc5, wI_k (by omega), g3.i 125 11 rfl, a3.i 125 11 rfl, d3.i 125 11 rfl, b3.i 125 11 rfl]; exact L.2.2.1
                  have eq0 : ∀ k, k = 12 ∨ k = 42 ∨ k = 49 → mC.1 0 k = m.1 0 k := fun k hk => by
                    rcases hk with rfl | rfl | rfl <;> rw [hmC, wI_k (by decide), r4.i 0 _ rfl, hmA, wI_k (by decide), p4.i 0 _ rfl, hm8, wI_k (by decide), k4.i 0 _ rfl, hm6, wI_k (by decide), j4.i 0 _ rfl, hm4, wI_k (by decide), g4.i 0 _ rfl, d4.i 0 _ rfl, b4.i 0 _ rfl]
                  have s42 : mC.1 0 42 = nI (150 * sd + ln) := by rw [eq0 42 (by omega)]; exact L.2.2.2.2.1
                  have s42' : mB.1 0 42 = nI (150 * sd + ln) := by rw [← s42, hmC, wI_k (by decide)]
                  rw [s11, s42']
                  obtain ⟨PE, NE⟩ := ls_w PD ND hnl 5 (nI cs) (k := 23) rfl (nI (150 * sd + ln))
                  obtain ⟨cE, hcE⟩ : ∃ cE, cE = wI cD (132 + nl) 5 (nI cs) := ⟨_, rfl⟩
                  obtain ⟨mD, hmD⟩ : ∃ mD, mD = wI mC 23 (10 * sd + nl) (nI (150 * sd + ln)) := ⟨_, rfl⟩
                  rw [← hcE] at PE NE ⊢
                  rw [← hmD] at PE NE ⊢
                  have aCE : Agr (TL nl) c cE := by rw [hcE]; exact aCD.wI wm_hd
                  have aMD : Agr TLm m mD := by rw [hmD]; exact aMC.wI rfl
                  have lrD : lrow sd nl m mD := by rw [hmD]; exact lrow_w lrC
                  have LE : LSt c0 m0 K kd sd (t + 1 + 1 + 1 + 1 + 1 + 1 + 1) cs cd ln cE mD := ⟨PE, by rw [hmD, wI_k (by decide), eq0 12 (by omega)]; exact L.2.1, by rw [hcE, wI_k (by omega)]; exact s11, by rw [hmD, wI_k (by decide), eq0 49 (by omega)]; exact L.2.2.2.1, by rw [hmD, wI_k (by decide)]; exact s42, L.2.2.2.2.2⟩
                  have f0 : cE.1 (132 + nl) 0 = nI i1 ∧ cE.1 (132 + nl) 1 = nI i2 ∧ cE.1 (132 + nl) 2 = nI y3 ∧ cE.1 (132 + nl) 3 = nI y4 ∧ cE.1 (132 + nl) 4 = nI y5 ∧ cE.1 (132 + nl) 5 = nI cs := by
                    refine ⟨?_, ?_, ?_, ?_, ?_, by rw [hcE, wI_s]⟩
                    · rw [hcE, wI_j (by decide), hcD, wI_j (by decide), W69_o r3 hnl, hcB, wI_j (by decide), W69_o p3 hnl, hc9, wI_j (by decide), W69_o k3 hnl, hc7, wI_j (by decide), W69_o j3 hnl, hc5, wI_s]
                    · rw [hcE, wI_j (by decide), hcD, wI_j (by decide), W69_o r3 hnl, hcB, wI_j (by decide), W69_o p3 hnl, hc9, wI_j (by decide), W69_o k3 hnl, hc7, wI_s]
                    · rw [hcE, wI_j (by decide), hcD, wI_j (by decide), W69_o r3 hnl, hcB, wI_j (by decide), W69_o p3 hnl, hc9, wI_s]
                    · rw [hcE, wI_j (by decide), hcD, wI_j (by decide), W69_o r3 hnl, hcB, wI_s]
                    · rw [hcE, wI_j (by decide), hcD, wI_s]
                  have fm : mD.1 18 (10 * sd + nl) = x1 ∧ mD.1 19 (10 * sd + nl) = x2 ∧ mD.1 20 (10 * sd + nl) = nI y3 ∧ mD.1 21 (10 * sd + nl) = nI y4 ∧ mD.1 22 (10 * sd + nl) = nI y5 ∧ mD.1 23 (10 * sd + nl) = nI (150 * sd + ln) := by
                    refine ⟨?_, ?_, ?_, ?_, ?_, by rw [hmD, wI_s]⟩
                    · rw [hmD, wI_k (by decide), hmC, wI_k (by decide), r4.i 18 _ rfl, hmA, wI_k (by decide), p4.i 18 _ rfl, hm8, wI_k (by decide), k4.i 18 _ rfl, hm6, wI_k (by decide), j4.i 18 _ rfl, hm4, wI_s]
                    · rw [hmD, wI_k (by decide), hmC, wI_k (by decide), r4.i 19 _ rfl, hmA, wI_k (by decide), p4.i 19 _ rfl, hm8, wI_k (by decide), k4.i 19 _ rfl, hm6, wI_s]
                    · rw [hmD, wI_k (by decide), hmC, wI_k (by decide), r4.i 20 _ rfl, hmA, wI_k (by decide), p4.i 20 _ rfl, hm8, wI_s]
                    · rw [hmD, wI_k (by decide), hmC, wI_k (by decide), r4.i 21 _ rfl, hmA, wI_s]
                    · rw [hmD, wI_k (by decide), hmC, wI_s]
                  have un : cE.1 142 8 = 0 → c.1 142 8 = 0 ∧ (x1 = nI i1 ∧ i1 < np) ∧ (x2 = nI i2 ∧ i2 < np) ∧ y3 < 4 := fun z => by
                    rw [hcE, wI_k (by omega), hcD, wI_k (by omega)] at z
                    obtain ⟨z1, _⟩ := r6 z
                    rw [hcB, wI_k (by omega)] at z1
                    obtain ⟨z2, _⟩ := p6 z1
                    rw [hc9, wI_k (by omega)] at z2
                    obtain ⟨z3, _, z3'⟩ := k6 z2
                    rw [hc7, wI_k (by omega)] at z3
                    obtain ⟨z4, z5, q, z6, z7⟩ := j6 z3
                    rw [hc5, wI_k (by omega)] at z4
                    obtain ⟨z8, z9, q', z10, z11⟩ := g6 z4
                    have a1 : i2 = q := nI_inj (by omega) (by have : cntN np nc nl 0 = np := rfl; omega) z7
                    have a2 : i1 = q' := nI_inj (by omega) (by have : cntN np nc nl 0 = np := rfl; omega) z11
                    refine ⟨u3 z8, ⟨z9, by rw [a2]; exact z10⟩, ⟨z5, by rw [a1]; exact z6⟩, by omega⟩
                  have cdn : ∀ j, cE.1 129 j = c.1 129 j := fun j => by rw [hcE, wI_k (by omega), hcD, wI_k (by omega), r3.i 129 j rfl, hcB, wI_k (by omega), p3.i 129 j rfl, hc9, wI_k (by omega), k3.i 129 j rfl, hc7, wI_k (by omega), j3.i 129 j rfl, hc5, wI_k (by omega), g3.i 129 j rfl, a3.i 129 j rfl, d3.i 129 j rfl, b3.i 129 j rfl]
                  have mdn : ∀ k j, wm [(29, none), (30, none), (31, none), (32, none), (33, none), (34, none), (35, none), (36, none)] k j = true → mD.1 k j = m.1 k j := fun k j hk => by
                    have nk : k ≠ 18 ∧ k ≠ 19 ∧ k ≠ 20 ∧ k ≠ 21 ∧ k ≠ 22 ∧ k ≠ 23 := by
                      obtain ⟨e, he, h1, _⟩ := wm_el hk
                      simp at he
                      rcases he with rfl | rfl | rfl | rfl | rfl | rfl | rfl | rfl <;> simp at h1 <;> omega
                    have dj1 : ∀ W : Ws, djw [(29, none), (30, none), (31, none), (32, none), (33, none), (34, none), (35, none), (36, none)] W = true → wm W k j = false := fun W hW => djw_wm hW hk
                    rw [hmD, wI_k nk.2.2.2.2.2, hmC, wI_k nk.2.2.2.2.1, (r4 k j (dj1 _ rfl)).1, hmA, wI_k nk.2.2.2.1, (p4 k j (dj1 _ rfl)).1, hm8, wI_k nk.2.2.1, (k4 k j (dj1 _ rfl)).1, hm6, wI_k nk.2.1, (j4 k j (dj1 _ rfl)).1, hm4, wI_k nk.1, (g4 k j (dj1 _ rfl)).1, (d4 k j (dj1 _ rfl)).1, (b4 k j (dj1 _ rfl)).1]
                  have fTD : frT sd cd ln m mD := ⟨fun j _ => ⟨mdn 35 j rfl, mdn 36 j rfl⟩, fun i _ => ⟨mdn 29 i rfl, mdn 30 i rfl, mdn 31 i rfl, mdn 32 i rfl, mdn 33 i rfl, mdn 34 i rfl⟩⟩
                  have q9E : cE.1 125 9 = nI (nl + 1) := by rw [hcE, wI_k (by omega), hcD, wI_k (by omega), r3.i 125 9 rfl, hcB, wI_k (by omega), p3.i 125 9 rfl, hc9, wI_k (by omega), k3.i 125 9 rfl, hc7, wI_k (by omega), j3.i 125 9 rfl, hc5, wI_k (by omega), g3.i 125 9 rfl]; exact v9
                  have nE : cE.2 145 nl = c.2 106 (t + 1) := by rw [hcE, wI_l, hcD, wI_l, r3.l 145 _ rfl, hcB, wI_l, p3.l 145 _ rfl, hc9, wI_l, k3.l 145 _ rfl, hc7, wI_l, j3.l 145 _ rfl, hc5, wI_l, g3.l 145 _ rfl]; exact n145
                  have tnK : t + 1 < K := bP.2.2.1
                  clear hcE hcD hcB hc9 hc7 hc5 hc3 hmD hmC hmA hm8 hm6 hm4
                  unfold ML7
                  rw [if_pos PE.2.2.2.2.2.2.1, show fX12_is 28 mD = fX12_is (nI (kM 20)) mD from rfl, M_is X PE (by decide), bi_q, PE.2.2.2.2.1]
                  by_cases k20 : kd (t + 1 + 1 + 1 + 1 + 1 + 1 + 1) = 20
                  · rw [decide_eq_true k20, if_neg (show ¬ b2 true = 0 by decide), if_pos (show nI (kd (t + 1 + 1 + 1 + 1 + 1 + 1 + 1)) = (20 : Int32) by rw [k20]; rfl)]
                    unfold fX12_condition
                    rw [bv_as]
                    have tg := tk_goes X PE k20 (by decide)
                    rw [show nI 20 = (20 : Int32) from rfl] at tg
                    refine R2_seq tg ?_ ?_
                    · rintro cF mE ⟨z1, z2, z3, z4⟩
                      rw [lt_q, lt_q]
                      have LF := LSt_a LE z2 z3 z4 rfl rfl
                      have NF := NmR_a NE z3 z4 rfl rfl
                      refine R2_seq (cond_both (np := np) (nc := nc) (nl := nl) X (by omega) C1 LF (by omega) (by omega) NF (by rw [z3.i 125 6 rfl, (TL_i aCE (.inl (by decide)) hnl rfl).1]; exact C5)) ?_ ?_
                      · rintro cG mF ⟨t1, y, r, B0, cd1, B1, B2, B3, B4, B5, B6, B7, B8, B9, B10⟩
                        have aCF : frC cs cE cF := frC_a z3 rfl rfl
                        have aMF : frM sd cd ln mD mE := frM_a z4 rfl rfl
                        have fc : frC cs cE cG := aCF.trans B9 (Nat.le_refl _)
                        have fmm : frM sd cd ln mD mF := aMF.trans B10 (Nat.le_refl _) (Nat.le_refl _)
                        have oL : ∀ j, cG.1 (132 + nl) j = cE.1 (132 + nl) j := fun j => fc.1.i _ _ (LWc_l hnl)
                        refine letter_end (y :: r) X T hnl (by
                          have := B2
                          have := B3
                          have a := PE.2.2.1
                          have b := B1.1.2.2.1
                          -- the place only goes forward
                          omega) tnK k2 B1 (by omega) (by omega) (NmR_f NE fc fmm) (aCE.trans (fc.1.sub (sbw_r rfl))) (fun j hj => by rw [fc.2 j hj, cdn]) (by rw [fc.1.i 125 9 rfl]; exact q9E) (by rw [fc.1.l 145 _ rfl]; exact nE) (aMD.trans (fmm.1.sub rfl)) ⟨fun j hj => by
                            obtain ⟨w1, w2⟩ := fmm.2.1 j hj
                            obtain ⟨w3, w4⟩ := fTD.1 j hj
                            rw [w1, w2, w3, w4]; exact ⟨rfl, rfl⟩, fun i hi => by
                            obtain ⟨w1, w2, w3, w4, w5, w6⟩ := fmm.2.2 i hi
                            obtain ⟨o1, o2, o3, o4, o5, o6⟩ := fTD.2 i hi
                            rw [w1, w2, w3, w4, w5, w6, o1, o2, o3, o4, o5, o6]; exact ⟨rfl, rfl, rfl, rfl, rfl, rfl⟩⟩ (lrow_a lrD fmm.1 rfl) rfl B4 (by rw [List.length_cons]; omega) B7 (by rw [oL]; exact f0.2.2.2.2.2) (by rw [fmm.1.i 23 _ rfl]; exact fm.2.2.2.2.2) (fun x' r' e => by cases e; exact B6) B5 B8.2 (fun z => (un (by rw [← z3.i 142 8 rfl]; exact B8.1 z)).1) (fun z => ?_)
                        obtain ⟨_, ⟨w1, w2⟩, ⟨w3, w4⟩, w5⟩ := un (by rw [← z3.i 142 8 rfl]; exact B8.1 z)
                        rw [oL, oL, oL, oL, oL, fmm.1.i 18 _ rfl, fmm.1.i 19 _ rfl, fmm.1.i 20 _ rfl, fmm.1.i 21 _ rfl, fmm.1.i 22 _ rfl, f0.1, f0.2.1, f0.2.2.1, f0.2.2.2.1, f0.2.2.2.2.1, fm.1, fm.2.1, fm.2.2.1, fm.2.2.2.1, fm.2.2.2.2.1, w1, w3]
                        exact ⟨rfl, rfl, rfl, rfl, rfl, ⟨i1, w2, rfl⟩, ⟨i2, w4, rfl⟩, y3, w5, rfl⟩
                      · intro f p mF F
                        exact DL_118 F s2 hnl _
                    · intro f p mE F
                      rw [lt_q, lt_q, show lX12_condition_8 FU = lX12_condition_8 (19999 + 1) from rfl, D_cond8 F, bv_q]
                      exact DL_118 F s2 hnl _
                  · rw [decide_eq_false k20, if_pos (show b2 false = 0 from rfl), if_neg (show ¬ nI (kd (t + 1 + 1 + 1 + 1 + 1 + 1 + 1)) = (20 : Int32) from fun z => k20 (nI_inj (b := 20) (by have := (tk_row X PE PE.2.2.1).1; omega) (by decide) z))]
                    refine letter_end [] X T hnl (by omega) tnK k2 LE (by omega) (by omega) NE aCE (fun j _ => cdn j) q9E nE aMD fTD lrD rfl (Nat.le_refl _) rfl cwG_n f0.2.2.2.2.2 fm.2.2.2.2.2 (fun x' r' e => by cases e) (fun y hy => by cases hy) (fun i hi => absurd hi (by simp)) (fun z => (un z).1) (fun z => ?_)
                    obtain ⟨_, ⟨w1, w2⟩, ⟨w3, w4⟩, w5⟩ := un z
                    rw [f0.1, f0.2.1, f0.2.2.1, f0.2.2.2.1, f0.2.2.2.2.1, fm.1, fm.2.1, fm.2.2.1, fm.2.2.2.1, fm.2.2.2.2.1, w1, w3]
                    exact ⟨rfl, rfl, rfl, rfl, rfl, ⟨i1, w2, rfl⟩, ⟨i2, w4, rfl⟩, y3, w5, rfl⟩
                · rw [if_pos (by decide), ck_of zb_0, bi_q, if_pos rfl, ck_of zb_0, ck_of iv, lt_q]
                  obtain ⟨f, p, h1, h2, h3, h4, h5⟩ := ls_F F hnl 4 (-1)
                  exact R2_F h1 h2 h3 h4 rfl (DL7 (FM_l (FM_l h5 hnl rfl _) hnl rfl _) s2 hnl _)
              · rw [if_neg (by decide), ck_of zb_0, bi_q, if_pos rfl, ck_of zb_0]
                obtain ⟨f, p, h1, h2, h3, h4, h5⟩ := ls_F F hnl 3 (-1)
                refine R2_F h1 h2 h3 h4 rfl ?_
                rw [ok_bi]
                exact (D_bounded (FM_l h5 hnl rfl _) 0 99).mono fun q F2 => DL6 F2 s2 hnl _ _
            · rw [if_neg (by decide), ck_of zb_0, bi_q, if_pos rfl, ck_of zb_0]
              obtain ⟨f, p, h1, h2, h3, h4, h5⟩ := ls_F F hnl 2 (-1)
              refine R2_F h1 h2 h3 h4 rfl ?_
              rw [ok_bi]
              exact (D_bounded (FM_l h5 hnl rfl _) 0 999).mono fun q F2 => DL5 F2 s2 hnl _ _
          · rw [if_pos (by decide), ck_of zb_0]
            obtain ⟨f, p, h1, h2, h3, h4, h5⟩ := ls_F F hnl 1 (-1)
            refine R2_F h1 h2 h3 h4 rfl ?_
            rw [ok_bi]
            exact (D_bounded (FM_l h5 hnl rfl _) 0 3).mono fun q F2 => DL4 F2 s2 hnl _ _
        · rw [if_neg (by decide), ck_of zb_0]
          obtain ⟨f, p, h1, h2, h3, h4, h5⟩ := ls_F F hnl 0 (-1)
          refine R2_F h1 h2 h3 h4 rfl ?_
          rw [ok_bi]
          exact (D_known (FM_l h5 hnl rfl _) 0).mono fun q F2 => DL3 F2 s2 hnl _ _
      · intro f p x m2 F
        rw [lt_q]
        exact DL1 F s2 hnl _
    · intro f p m1 F
      rw [ok_bi]
      refine (D_named F).mono fun q F1 => ?_
      rw [lt_q]
      exact DL1 F1 s2 hnl _
