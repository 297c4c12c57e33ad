theorem n59 : nI 59 = 59 := rfl
theorem n1 : nI 1 = 1 := rfl
/-- what is known of class and model when a question comes -/
def QH (S : Sem) (F : Nat) (c m : Hp) : Prop := RD0 c m ∧ RFn (nP m) (nL m) F c m ∧ XM S m ∧ XC S c m
def SimQ {α : Type} (c m : Hp) (oc om : Option (α × Hp)) : Prop := ∃ r c1 m1, oc = some (r, c1) ∧ om = some (r, m1) ∧ Agr SC c c1 ∧ Agr SM m m1
theorem SimQ_no {α : Type} {c m : Hp} (r : α) : SimQ c m (some (r, c)) (some (r, m)) := ⟨r, c, m, rfl, rfl, .refl, .refl⟩
theorem SimQ_of {α : Type} {c m : Hp} {oc om : Option (α × Hp)} (v : α) (hc : Ok oc (fun p => p.1 = v ∧ Agr SC c p.2)) (hm : Ok om (fun p => p.1 = v ∧ Agr SM m p.2)) : SimQ c m oc om := by
  obtain ⟨⟨r, c1⟩, e1, h1, a1⟩ := hc
  obtain ⟨⟨r2, m1⟩, e2, h2, a2⟩ := hm
  simp only at h1 h2 a1 a2
  exact ⟨v, c1, m1, by rw [e1, h1], by rw [e2, h2], a1, a2⟩
theorem lkq_k {k : Nat} {aa bb : Int32} (k0 : 0 < k) (k31 : k < 2 ^ 31) : lkq (nI k) aa bb (qk k) := .inr ⟨k, k0, k31, rfl, fun _ => rfl⟩
theorem C_runOf {S : Sem} {F n k la : Nat} {c m h : Hp} (Q : QH S F c m) (e : Agr SC c h) (hn : n ≤ F) (k0 : 0 < k) (k31 : k < 2 ^ 31) (hla : la < 60) : Ok (fX2_runOf (nI n) (nI k) (nI la) h) (fun h' => KC 190 (nL m) (runS S m n false (qk k) (la + 1)).1 (runS S m n false (qk k) (la + 1)).2 false h' ∧ Agr SC c h') := by
  obtain ⟨D, RF, XM', XC'⟩ := Q
  simp only [fX2_runOf, ok_bv]
  refine (C_arrange RF hn e).mono ?_
  rintro h1 ⟨ar, a1⟩
  have e1 : Agr SC c h1 := e.trans (a1.sub rfl)
  have w := C_walk (tr := false) D XC' RF hn (show isC 190 from .inr (.inl rfl)) k0 k31 e1 ar hla
  rw [b2_f] at w
  refine w.mono ?_
  rintro h2 ⟨H2, a2⟩
  rw [ok_some]
  exact ⟨H2, e1.trans (a2.agr (.inr (.inl rfl)))⟩
theorem M_runsK {S : Sem} {F n k la : Nat} {c m h : Hp} (Q : QH S F c m) (e : Agr SM m h) (hn : n ≤ F) (k0 : 0 < k) (k31 : k < 2 ^ 31) (hla : la < 60) : Ok (fX12_runs (nI n) (nI k) 0 0 0 (nI la) h) (fun h' => KM (nL m) (runS S m n false (qk k) (la + 1)).1 (yrR S m n false (qk k) la (runS S m n false (qk k) la).1).2 h' ∧ Agr SM m h') := by
  obtain ⟨D, RF, XM', XC'⟩ := Q
  have w := M_runs (tr := false) D XM' RF hn (lkq_k (aa := 0) (bb := 0) k0 k31) e hla
  rw [b2_f] at w
  refine w.mono ?_
  rintro h2 ⟨H2, a2⟩
  exact ⟨H2, e.trans (a2.sub rfl)⟩
theorem M_runsAll {S : Sem} {F n : Nat} {c m h : Hp} (Q : QH S F c m) (e : Agr SM m h) (hn : n ≤ F) : Ok (fX12_runsAll (nI n) h) (fun h' => KM (nL m) (runS S m n false (qk 1) 60).1 (yrR S m n false (qk 1) 59 (runS S m n false (qk 1) 59).1).2 h' ∧ Agr SM m h') := by
  simp only [fX12_runsAll, ok_bv]
  have w := M_runsK (k := 1) (la := 59) Q e hn (by decide) (by decide) (by decide)
  rw [n59, n1] at w
  refine w.mono ?_
  intro h2 x
  rw [ok_some]; exact x
theorem sim_run0 {S : Sem} {F : Nat} {c m : Hp} (a1 a2 a3 a4 : Int32) (Q : QH S F c m) : SimQ c m (fX11_run a1 a2 a3 a4 c) (fX12_run a1 a2 a3 a4 m) := by
  obtain ⟨D, RF, XM', XC'⟩ := Q
  have Q : QH S F c m := ⟨D, RF, XM', XC'⟩
  have s1 := D.2.2.2.2.1.1
  have h60 := RF.1
  simp only [fX11_run, fX12_run, M_hasLetter D .refl, C_isLetter D .refl, M_isKnown RF .refl, C_isKnown RF .refl, M_in, C_within, C_isLook, bi_some]
  cases h1 : rng a1 0 (nI (nL m) - 1)
  · exact SimQ_no (-1)
  · cases h2 : rng a2 0 (nI F)
    · exact SimQ_no (-1)
    · cases h3 : rng a3 1 20
      · exact SimQ_no (-1)
      · cases h4 : rng a4 0 2
        · exact SimQ_no (-1)
        · obtain ⟨l, hl, rfl⟩ := (rng_n (by omega)).mp h1
          obtain ⟨n, hn, rfl⟩ := rng_0 (by omega) h2
          obtain ⟨k, k1, k20, rfl⟩ := (rng_c (a := 1) (n := 20) (by decide) (by decide)).mp h3
          simp only [b2_t, i10, ↓reduceIte, ck_of (nI_inb (n := l) (N := 10) (by omega) (by decide)), nI_ix (show l < 2 ^ 31 by omega)]
          have rc := C_runOf (k := k) (la := 59) Q .refl hn (by omega) (by omega) (by decide)
          rw [n59] at rc
          have rm := M_runsK (k := k) (la := 59) Q .refl hn (by omega) (by omega) (by decide)
          rw [n59] at rm
          have iv := (inv_run (S := S) (m := m) (n := n) (tr := false) (q := qk k) 60).2.2.2.2 l
          refine SimQ_of (if a4 = 0 then (runS S m n false (qk k) 60).1 0 l else if a4 = 1 then (runS S m n false (qk k) 60).1 1 l else (runS S m n false (qk k) 60).1 2 l) ?_ ?_
          · rw [ok_bv]
            refine rc.mono ?_
            rintro c2 ⟨H, a⟩
            have q0 : c2.1 191 l = (runS S m n false (qk k) 60).1 0 l := H.st hl
            have q1 : c2.1 192 l = (runS S m n false (qk k) 60).1 1 l := H.si hl
            have q2 : c2.1 193 l = (runS S m n false (qk k) 60).1 2 l := H.lf hl
            simp only [q0, q1, q2]
            by_cases z0 : a4 = 0
            · rw [if_pos z0, if_pos z0, ok_some]; exact ⟨rfl, a⟩
            · rw [if_neg z0, if_neg z0]
              by_cases z1 : a4 = 1
              · rw [if_pos z1, if_pos z1]
                by_cases z2 : (runS S m n false (qk k) 60).1 0 l = 0
                · rw [if_pos z2, ok_some]; exact ⟨(iv z2).symm, a⟩
                · rw [if_neg z2, ok_some]; exact ⟨rfl, a⟩
              · rw [if_neg z1, if_neg z1, ok_some]; exact ⟨rfl, a⟩
          · rw [ok_bv]
            refine rm.mono ?_
            rintro m2 ⟨H, a⟩
            simp only [H.st hl, H.si hl, H.lf hl]
            by_cases z0 : a4 = 0
            · rw [if_pos z0, if_pos z0, ok_some]; exact ⟨rfl, a⟩
            · rw [if_neg z0, if_neg z0]
              by_cases z1 : a4 = 1
              · rw [if_pos z1, if_pos z1, ok_some]; exact ⟨rfl, a⟩
              · rw [if_neg z1, if_neg z1, ok_some]; exact ⟨rfl, a⟩
theorem sim_harm0 {S : Sem} {F : Nat} {c m : Hp} (a1 : Int32) (Q : QH S F c m) : SimQ c m (fX11_harm a1 c) (fX12_harm a1 m) := by
  obtain ⟨D, RF, XM', XC'⟩ := Q
  have Q : QH S F c m := ⟨D, RF, XM', XC'⟩
  have h60 := RF.1
  simp only [fX11_harm, fX12_harm, M_isKnown RF .refl, C_isKnown RF .refl, bi_some]
  cases h2 : rng a1 0 (nI F)
  · exact SimQ_no (-1)
  · obtain ⟨n, hn, rfl⟩ := rng_0 (by omega) h2
    simp only [b2_t, i10, ↓reduceIte]
    have rc := C_runOf (k := 1) (la := 59) Q .refl hn (by omega) (by omega) (by decide)
    rw [n59, n1] at rc
    refine SimQ_of ((runS S m n false (qk 1) 60).1 6 2) ?_ ?_
    · rw [ok_bv]
      refine rc.mono ?_
      rintro c2 ⟨H, a⟩
      rw [ok_some]
      exact ⟨H.ha, a⟩
    · rw [ok_bv]
      refine (M_runsAll Q .refl hn).mono ?_
      rintro m2 ⟨H, a⟩
      rw [ok_some]
      exact ⟨H.ha, a⟩
/-- why -/
def whyS (S : Sem) (m : Hp) (R : Run) (l y : Nat) : Int32 := if R 0 l = 1 then 0 else if R 0 l = 2 then 0 else if R 0 l = 0 then (if S.1 l y (R 6 0) (R 6 1) = false then 2 else if R 3 l ≤ nI y then (if bit (R 6 0) (rdI m l) = true then 4 else 5) else 3) else 1
theorem bit_eq1 {x i : Int32} : ((x >>> (i &&& 31)) &&& 1 = 1) = (bit x i = true) := propext bit_t.symm
theorem sim_why0 {S : Sem} {F : Nat} {c m : Hp} (a1 a2 a3 : Int32) (Q : QH S F c m) : SimQ c m (fX11_why a1 a2 a3 c) (fX12_why a1 a2 a3 m) := by
  obtain ⟨D, RF, XM', XC'⟩ := Q
  have Q : QH S F c m := ⟨D, RF, XM', XC'⟩
  have s1 := D.2.2.2.2.1.1
  have h60 := RF.1
  simp only [fX11_why, fX12_why, M_hasLetter D .refl, C_isLetter D .refl, M_isKnown RF .refl, C_isKnown RF .refl, M_isYear, C_isYear, bi_some, bi_id]
  cases h1 : rng a1 0 (nI (nL m) - 1)
  · exact SimQ_no (-1)
  · cases h2 : rng a2 0 59
    · exact SimQ_no (-1)
    · cases h3 : rng a3 0 (nI F)
      · exact SimQ_no (-1)
      · obtain ⟨l, hl, rfl⟩ := (rng_n (by omega)).mp h1
        obtain ⟨y, hy, rfl⟩ := rng_0 (n := 59) (by omega) h2
        obtain ⟨n, hn, rfl⟩ := rng_0 (by omega) h3
        simp only [b2_t, i10, ↓reduceIte, ck_of (nI_inb (n := l) (N := 10) (by omega) (by decide)), nI_ix (show l < 2 ^ 31 by omega)]
        have rc := C_runOf (k := 1) (la := y) Q .refl hn (by omega) (by omega) (by omega)
        rw [n1] at rc
        have rm := M_runsK (k := 1) (la := y) Q .refl hn (by omega) (by omega) (by omega)
        rw [n1] at rm
        refine SimQ_of (whyS S m (runS S m n false (qk 1) (y + 1)).1 l y) ?_ ?_
        · rw [ok_bv]
          refine rc.mono ?_
          rintro c2 ⟨H, a⟩
          generalize (runS S m n false (qk 1) (y + 1)).1 = R at *
          have z1 := (D.2.2.2.2.2.2.1 l hl).2.1
          have q0 : c2.1 (190 + 1) l = R 0 l := H.st hl
          simp only [fX1_reasonOf, fX1_hasBeenOpened, ck_of (nI_inb (n := l) (N := 10) (by omega) (by decide)), nI_ix (show l < 2 ^ 31 by omega), q0, ok_bi, H.de, H.be]
          unfold whyS
          by_cases y1 : R 0 l = 1
          · rw [if_pos y1, if_pos y1, ck_of zb_1, ok_some, if_neg (show ¬ ((1 : Int32), c2).1 = 0 from (by decide : ¬ (1 : Int32) = 0)), ok_some]; exact ⟨rfl, a⟩
          · rw [if_neg y1, if_neg y1]
            by_cases y2 : R 0 l = 2
            · rw [if_pos y2, if_pos y2, ck_of zb_1, ok_some, if_neg (show ¬ ((1 : Int32), c2).1 = 0 from (by decide : ¬ (1 : Int32) = 0)), ok_some]; exact ⟨rfl, a⟩
            · rw [if_neg y2, if_neg y2, ck_of zb_0, ok_some]
              simp only [↓reduceIte, q0, H.de, H.be]
              by_cases y0 : R 0 l = 0
              · rw [if_pos y0, if_pos y0, ok_bi]
                refine ((XC' c2 a).1 l y (R 6 0) (R 6 1) hl (by omega)).mono ?_
                rintro ⟨r, c3⟩ ⟨hr, a3⟩
                simp only at hr a3
                subst hr
                have H3 := KC_ev H (.inr (.inl rfl)) a3
                have e3 : Agr SC c c3 := a.trans (a3.sub rfl)
                have q3 : c3.1 (190 + 4) l = R 3 l := H3.da hl
                simp only [b2_0, q3, SC_l e3 (show l < 10 by omega), z1, C_has, bi_some, H3.de]
                cases S.1 l y (R 6 0) (R 6 1)
                · simp only [↓reduceIte, ok_some]; exact ⟨trivial, e3⟩
                · simp only [show ((true : Bool) = false) = False from eq_false (by decide), ↓reduceIte]
                  by_cases yd : R 3 l ≤ nI y
                  · rw [if_pos yd, if_pos yd]
                    cases bit (R 6 0) (rdI m l) <;> exact ⟨_, rfl, rfl, e3⟩
                  · rw [if_neg yd, if_neg yd, ok_some]; exact ⟨rfl, e3⟩
              · rw [if_neg y0, if_neg y0, ok_some]; exact ⟨rfl, a⟩
        · rw [ok_bv]
          refine rm.mono ?_
          rintro m2 ⟨H, a⟩
          generalize (runS S m n false (qk 1) (y + 1)).1 = R at *
          simp only [H.st hl, H.de, H.be]
          unfold whyS
          by_cases y1 : R 0 l = 1
          · rw [if_pos y1, if_pos y1, ok_some]; exact ⟨rfl, a⟩
          · rw [if_neg y1, if_neg y1]
            by_cases y2 : R 0 l = 2
            · rw [if_pos y2, if_pos y2, ok_some]; exact ⟨rfl, a⟩
            · rw [if_neg y2, if_neg y2]
              by_cases y0 : R 0 l = 0
              · rw [if_pos y0, if_pos y0, ok_bi]
                refine ((XM' m2 a).1 l y (R 6 0) (R 6 1) hl (by omega)).mono ?_
                rintro ⟨r, m3⟩ ⟨hr, a3⟩
                simp only at hr a3
                subst hr
                have H3 := KM_agr H a3 rfl
                have e3 : Agr SM m m3 := a.trans (a3.sub rfl)
                simp only [b2_0, H3.da hl, M_reader D e3 hl, bi_some, H3.de, bit_eq1]
                cases S.1 l y (R 6 0) (R 6 1)
                · simp only [↓reduceIte, ok_some]; exact ⟨trivial, e3⟩
                · simp only [show ((true : Bool) = false) = False from eq_false (by decide), ↓reduceIte]
                  by_cases yd : R 3 l ≤ nI y
                  · rw [if_pos yd, if_pos yd]
                    cases bit (R 6 0) (rdI m l) <;> exact ⟨_, rfl, rfl, e3⟩
                  · rw [if_neg yd, if_neg yd, ok_some]; exact ⟨rfl, e3⟩
              · rw [if_neg y0, if_neg y0, ok_some]; exact ⟨rfl, a⟩
