theorem ieq_1_0 : ((1 : Int32) = 0) = False := eq_false (by decide)
theorem ieq_1_2 : ((1 : Int32) = 2) = False := eq_false (by decide)
theorem ieq_1_3 : ((1 : Int32) = 3) = False := eq_false (by decide)
theorem ieq_1_4 : ((1 : Int32) = 4) = False := eq_false (by decide)
theorem ieq_1_5 : ((1 : Int32) = 5) = False := eq_false (by decide)
theorem ieq_1_6 : ((1 : Int32) = 6) = False := eq_false (by decide)
theorem ieq_2_0 : ((2 : Int32) = 0) = False := eq_false (by decide)
theorem ieq_2_1 : ((2 : Int32) = 1) = False := eq_false (by decide)
theorem ieq_2_3 : ((2 : Int32) = 3) = False := eq_false (by decide)
theorem ieq_2_4 : ((2 : Int32) = 4) = False := eq_false (by decide)
theorem ieq_2_5 : ((2 : Int32) = 5) = False := eq_false (by decide)
theorem ieq_2_6 : ((2 : Int32) = 6) = False := eq_false (by decide)
theorem ieq_3_0 : ((3 : Int32) = 0) = False := eq_false (by decide)
theorem ieq_3_1 : ((3 : Int32) = 1) = False := eq_false (by decide)
theorem ieq_3_2 : ((3 : Int32) = 2) = False := eq_false (by decide)
theorem ieq_3_4 : ((3 : Int32) = 4) = False := eq_false (by decide)
theorem ieq_3_5 : ((3 : Int32) = 5) = False := eq_false (by decide)
theorem ieq_3_6 : ((3 : Int32) = 6) = False := eq_false (by decide)
theorem ieq_4_0 : ((4 : Int32) = 0) = False := eq_false (by decide)
theorem ieq_4_1 : ((4 : Int32) = 1) = False := eq_false (by decide)
theorem ieq_4_2 : ((4 : Int32) = 2) = False := eq_false (by decide)
theorem ieq_4_3 : ((4 : Int32) = 3) = False := eq_false (by decide)
theorem ieq_4_5 : ((4 : Int32) = 5) = False := eq_false (by decide)
theorem ieq_4_6 : ((4 : Int32) = 6) = False := eq_false (by decide)
theorem ieq_5_0 : ((5 : Int32) = 0) = False := eq_false (by decide)
theorem ieq_5_1 : ((5 : Int32) = 1) = False := eq_false (by decide)
theorem ieq_5_2 : ((5 : Int32) = 2) = False := eq_false (by decide)
theorem ieq_5_3 : ((5 : Int32) = 3) = False := eq_false (by decide)
theorem ieq_5_4 : ((5 : Int32) = 4) = False := eq_false (by decide)
theorem ieq_5_6 : ((5 : Int32) = 6) = False := eq_false (by decide)
theorem ieq_6_0 : ((6 : Int32) = 0) = False := eq_false (by decide)
theorem ieq_6_1 : ((6 : Int32) = 1) = False := eq_false (by decide)
theorem ieq_6_2 : ((6 : Int32) = 2) = False := eq_false (by decide)
theorem ieq_6_3 : ((6 : Int32) = 3) = False := eq_false (by decide)
theorem ieq_6_4 : ((6 : Int32) = 4) = False := eq_false (by decide)
theorem ieq_6_5 : ((6 : Int32) = 5) = False := eq_false (by decide)
theorem ieq_0_1 : ((0 : Int32) = 1) = False := eq_false (by decide)
theorem ieq_0_2 : ((0 : Int32) = 2) = False := eq_false (by decide)
theorem ieq_0_3 : ((0 : Int32) = 3) = False := eq_false (by decide)
theorem ieq_0_4 : ((0 : Int32) = 4) = False := eq_false (by decide)
theorem ieq_0_5 : ((0 : Int32) = 5) = False := eq_false (by decide)
theorem ieq_0_6 : ((0 : Int32) = 6) = False := eq_false (by decide)
/-- fees -/
def payF (S : Sem) (m : Hp) (y l : Nat) (R : Run) : Run :=
  if R 0 l = 0 then
    if bit (R 6 0) (wrI m l) = false then up R 5 y (R 5 y + S.2.2.1 l y)
    else if S.2.2.1 l y ≤ R 2 l then up (up R 5 y (R 5 y + S.2.2.1 l y)) 2 l (R 2 l - S.2.2.1 l y)
    else becS (up (up R 5 y (R 5 y + R 2 l)) 2 l 0) l 5 (nI y)
  else R
def payS (S : Sem) (m : Hp) (y : Nat) (R : Run) : Run := forN (nL m) (payF S m y) R
theorem bit_eq0 {x i : Int32} : ((x >>> (i &&& 31)) &&& 1 = 0) = (bit x i = false) := propext bit_f.symm
theorem M_pays {S : Sem} {c m h : Hp} {R : Run} {ls : List Nat} (D : RD0 c m) (X : XM S m) (e : Agr SM m h) (H : KM (nL m) R ls h) {y : Nat} (hy : y < 60) : Ok (fX12_pays (nI y) h) (fun h' => KM (nL m) (payS S m y R) ls h' ∧ Agr RWM h h') := by
  have D' := D
  obtain ⟨⟨d1, d2⟩, _, _, _, ⟨s1, s2, s3⟩, _⟩ := D'
  refine up0 (fun f i h => lX12_pays_2 f (nI y) (nI i) h) (nL m) (by omega) (fun i h' => KM (nL m) (forN i (payF S m y) R) ls h' ∧ Agr RWM h h') h ⟨H, .refl⟩ ?_ ?_
  · rintro f h' ⟨H', a⟩
    have e' : Agr SM m h' := e.trans (a.sub rfl)
    simp only [lX12_pays_2, bX12_pays_2, e'.i 0 18 rfl, d2, ck_of (nI_inb d1 (by decide)), nI_ix (show lv m < 2 ^ 31 by omega), e'.i 17 _ rfl, s2, if_pos (nI_le (Nat.le_refl (nL m)) (show nL m < 2 ^ 31 by omega)), ok_some]
    exact ⟨H', a⟩
  · rintro f l h' hl ⟨H', a⟩ K
    have e' : Agr SM m h' := e.trans (a.sub rfl)
    have nx : ∀ R', R' = forN (l + 1) (payF S m y) R → ∀ h'', KM (nL m) R' ls h'' → Agr RWM h h'' → Ok (lX12_pays_2 f (nI y) (nI (l + 1)) h'') (fun h' => KM (nL m) (payS S m y R) ls h' ∧ Agr RWM h h') := by
      rintro R' rfl h'' H'' a''
      exact K h'' ⟨H'', a''⟩
    simp only [lX12_pays_2, bX12_pays_2, bX12_pays_124, e'.i 0 18 rfl, d2, ck_of (nI_inb d1 (by decide)), nI_ix (show lv m < 2 ^ 31 by omega), e'.i 17 _ rfl, s2, if_neg (nI_ge hl (show nL m < 2 ^ 31 by omega)), ck_of (nI_inb (n := l) (N := 10) (by omega) (by decide)), ck_of (nI_inb (n := y) (N := 60) (by omega) (by decide)), nI_ix (show l < 2 ^ 31 by omega), nI_ix (show y < 2 ^ 31 by omega), H'.st hl, lt_e, nI_1]
    generalize hR : forN l (payF S m y) R = R1 at *
    by_cases h0 : R1 0 l = 0
    · rw [if_pos h0, ok_bi]
      refine ((X h' e').2.2.1 l y hl hy).mono ?_
      rintro ⟨r, h2⟩ ⟨hr, a2⟩
      simp only at hr a2
      subst hr
      have H2 : KM (nL m) R1 ls h2 := KM_agr H' a2 rfl
      have e2 : Agr SM m h2 := e'.trans (a2.sub rfl)
      have a2' : Agr RWM h h2 := a.trans (a2.sub rfl)
      simp only [M_writer D e2 hl, bi_some, H2.de, bit_eq0, H2.lf hl]
      by_cases hb : bit (R1 6 0) (wrI m l) = false
      · rw [if_pos hb, H2.pa hy]
        refine nx _ ?_ _ (H2.pa_u hy _) (a2'.wI rfl)
        rw [forN_s, hR]; unfold payF
        rw [if_pos h0, if_pos hb]
      · rw [if_neg hb, H2.pa hy]
        by_cases hf : S.2.2.1 l y ≤ R1 2 l
        · rw [if_pos hf]
          have H3 := H2.pa_u hy (R1 5 y + S.2.2.1 l y)
          have q : (wI h2 49 y (R1 5 y + S.2.2.1 l y)).1 46 l = R1 2 l := (wI_k (by decide)).trans (H2.lf hl)
          rw [q]
          refine nx _ ?_ _ (H3.lf_u hl _) ((a2'.wI rfl).wI rfl)
          rw [forN_s, hR]; unfold payF
          rw [if_pos h0, if_neg hb, if_pos hf]
        · rw [if_neg hf]
          have H3 := (H2.pa_u hy (R1 5 y + R1 2 l)).lf_u hl 0
          rw [ok_bv]
          refine (M_becomes H3 s1 hl 5 (nI y) (by decide) (by decide)).mono ?_
          rintro h4 ⟨H4, a4⟩
          refine nx _ ?_ _ H4 (((a2'.wI rfl).wI rfl).trans a4)
          rw [forN_s, hR]; unfold payF
          rw [if_pos h0, if_neg hb, if_neg hf]
    · rw [if_neg h0]
      refine nx _ ?_ _ H' a
      rw [forN_s, hR]; unfold payF
      rw [if_neg h0]
theorem C_pays {S : Sem} {c m h : Hp} {o : Nat} {R : Run} {ls : List Nat} {tr : Bool} (D : RD0 c m) (X : XC S c m) (ho : isC o) (e : Agr SC c h) (H : KC o (nL m) R ls tr h) {y : Nat} (hy : y < 60) : Ok (fX1_payFees o (nI y) h) (fun h' => KC o (nL m) (payS S m y R) ls tr h' ∧ CF o h h') := by
  have D' := D
  obtain ⟨⟨d1, d2⟩, _, _, _, ⟨s1, s2, s3⟩, _, d7, _⟩ := D'
  refine up0 (fun f i h => lX1_payFees_2 o f (nI y) (nI i) h) (nL m) (by omega) (fun i h' => KC o (nL m) (forN i (payF S m y) R) ls tr h' ∧ CF o h h') h ⟨H, .refl⟩ ?_ ?_
  · rintro f h' ⟨H', a⟩
    have e' : Agr SC c h' := e.trans (a.agr ho)
    simp only [lX1_payFees_2, bX1_payFees_2, e'.i 108 9 rfl, s3, if_pos (nI_le (Nat.le_refl (nL m)) (show nL m < 2 ^ 31 by omega)), ok_some]
    exact ⟨H', a⟩
  · rintro f l h' hl ⟨H', a⟩ K
    have e' : Agr SC c h' := e.trans (a.agr ho)
    have nx : ∀ R', R' = forN (l + 1) (payF S m y) R → ∀ h'', KC o (nL m) R' ls tr h'' → CF o h h'' → Ok (lX1_payFees_2 o f (nI y) (nI (l + 1)) h'') (fun h' => KC o (nL m) (payS S m y R) ls tr h' ∧ CF o h h') := by
      rintro R' rfl h'' H'' a''
      exact K h'' ⟨H'', a''⟩
    obtain ⟨z0, z1, z2, z3, z4⟩ := d7 l hl
    simp only [lX1_payFees_2, bX1_payFees_2, bX1_payFees_92, bX1_payFees_102, bX1_payFees_112, e'.i 108 9 rfl, s3, if_neg (nI_ge hl (show nL m < 2 ^ 31 by omega)), ck_of (nI_inb (n := l) (N := 10) (by omega) (by decide)), ck_of (nI_inb (n := y) (N := 60) (by omega) (by decide)), nI_ix (show l < 2 ^ 31 by omega), nI_ix (show y < 2 ^ 31 by omega), H'.st hl, SC_l e' (show l < 10 by omega), z0, z2, (X h' e').2.2.1 l y hl hy, bi_some, C_has, H'.de, H'.lf hl, lt_e, nI_1, b2_0]
    generalize hR : forN l (payF S m y) R = R1 at *
    by_cases h0 : R1 0 l = 0
    · rw [if_pos h0]
      by_cases hb : bit (R1 6 0) (wrI m l) = false
      · rw [if_pos hb, H'.pa hy]
        refine nx _ ?_ _ (H'.pa_u hy _) (a.wI (by omega))
        rw [forN_s, hR]; unfold payF
        rw [if_pos h0, if_pos hb]
      · rw [if_neg hb]
        by_cases hf : S.2.2.1 l y ≤ R1 2 l
        · rw [if_pos hf]
          have H3 := H'.lf_u hl (R1 2 l - S.2.2.1 l y)
          have q : (wI h' (o + 3) l (R1 2 l - S.2.2.1 l y)).1 (o + 7) y = R1 5 y := (wI_k (by omega)).trans (H'.pa hy)
          rw [q]
          refine nx _ ?_ _ (H3.pa_u hy _) ((a.wI (by omega)).wI (by omega))
          rw [forN_s, hR]; unfold payF
          rw [if_pos h0, if_neg hb, if_pos hf]
          exact up_cm (by omega)
        · rw [if_neg hf, ok_bv]
          refine (C_endAs H' s1 hl 5 (nI y)).mono ?_
          rintro h4 ⟨H4, a4⟩
          have q0 : h4.1 (o + 3) l = R1 2 l := H4.lf hl
          rw [q0, Int32.sub_self]
          have H5 := H4.lf_u hl 0
          have q : (wI h4 (o + 3) l 0).1 (o + 7) y = R1 5 y := (wI_k (by omega)).trans (H4.pa hy)
          rw [q]
          refine nx _ ?_ _ (H5.pa_u hy _) (((a.trans a4).wI (by omega)).wI (by omega))
          rw [forN_s, hR]; unfold payF
          rw [if_pos h0, if_neg hb, if_neg hf]
          unfold becS
          rw [up_cm (k := 2) (k' := 5) (by omega), up_cm (k := 1) (k' := 5) (by omega), up_cm (k := 0) (k' := 5) (by omega), up_cm (k := 1) (k' := 2) (by omega), up_cm (k := 0) (k' := 2) (by omega)]
    · rw [if_neg h0]
      refine nx _ ?_ _ H' a
      rw [forN_s, hR]; unfold payF
      rw [if_neg h0]
/-- a fact happens -/
def hapS (S : Sem) (m : Hp) (tr : Bool) (k : Nat) (R : Run) : Run :=
  if m.1 40 k = 0 then
    if tr = false ∧ prI m ≤ R 4 (ix (m.1 42 k)) + m.1 43 k then up (up R 4 (ix (m.1 42 k)) (R 4 (ix (m.1 42 k)) + m.1 43 k)) 6 0 (R 6 0 ||| ((1 : Int32) <<< (m.1 42 k &&& 31)))
    else up R 4 (ix (m.1 42 k)) (R 4 (ix (m.1 42 k)) + m.1 43 k)
  else if m.1 40 k = 1 then (if tr = true then up R 6 0 (R 6 0 ||| ((1 : Int32) <<< (m.1 42 k &&& 31))) else R)
  else if m.1 40 k = 2 then (if R 0 (ix (m.1 42 k)) = 0 ∧ bit (R 6 0) (wrI m (ix (m.1 42 k))) = false then becS R (ix (m.1 42 k)) 3 (m.1 41 k) else R)
  else if m.1 40 k = 3 then (if R 0 (ix (m.1 42 k)) = 0 then opnS (if S.1 (ix (m.1 42 k)) (ix (m.1 41 k)) (R 6 0) (R 6 1) = true then R else up R 6 2 (R 6 2 + hmI m (ix (m.1 42 k)))) (ix (m.1 42 k)) 2 (m.1 41 k) else R)
  else if m.1 40 k = 4 then up R 3 (ix (m.1 42 k)) (m.1 43 k)
  else floS m (m.1 42 k) (m.1 41 k) R
theorem fok_el {P L k : Nat} {a y w : Int32} (h : fok P L k a y w) (hP : P ≤ 10) (hL : L ≤ 10) (h6 : ¬ a = 6) : ∃ q b, q < 60 ∧ y = nI q ∧ w = nI b ∧ b < 10 ∧ ((a = 0 ∧ b < P) ∨ (a = 1 ∧ b < P) ∨ (a = 2 ∧ b < L) ∨ (a = 3 ∧ b < L) ∨ (a = 4 ∧ b < L) ∨ (a = 5 ∧ b < 4)) := by
  obtain ⟨t, b, t6, g1, g2, g3⟩ := h
  by_cases h : t = 6
  · subst h; exact absurd g1 h6
  · rw [if_neg h] at g3
    obtain ⟨⟨q, hq, gq⟩, gb⟩ := g3
    have ht : t = 0 ∨ t = 1 ∨ t = 2 ∨ t = 3 ∨ t = 4 ∨ t = 5 := by omega
    rcases ht with rfl | rfl | rfl | rfl | rfl | rfl
    · rw [if_pos (by decide)] at gb; exact ⟨q, b, hq, gq, g2, by omega, .inl ⟨g1, gb⟩⟩
    · rw [if_pos (by decide)] at gb; exact ⟨q, b, hq, gq, g2, by omega, .inr (.inl ⟨g1, gb⟩)⟩
    · rw [if_neg (by decide), if_pos (by decide)] at gb; exact ⟨q, b, hq, gq, g2, by omega, .inr (.inr (.inl ⟨g1, gb⟩))⟩
    · rw [if_neg (by decide), if_pos (by decide)] at gb; exact ⟨q, b, hq, gq, g2, by omega, .inr (.inr (.inr (.inl ⟨g1, gb⟩)))⟩
    · rw [if_neg (by decide), if_pos (by decide)] at gb; exact ⟨q, b, hq, gq, g2, by omega, .inr (.inr (.inr (.inr (.inl ⟨g1, gb⟩))))⟩
    · rw [if_neg (by decide), if_neg (by decide)] at gb; exact ⟨q, b, hq, gq, g2, by omega, .inr (.inr (.inr (.inr (.inr ⟨g1, gb⟩))))⟩
theorem M_happens {S : Sem} {F k : Nat} {c m h : Hp} {R : Run} {ls : List Nat} {tr : Bool} (D : RD0 c m) (X : XM S m) (RF : RFn (nP m) (nL m) F c m) (e : Agr SM m h) (H : KM (nL m) R ls h) (hk : k < F) (h6 : ¬ m.1 40 k = 6) : Ok (fX12_happens (nI k) (b2 tr) h) (fun h' => KM (nL m) (hapS S m tr k R) ls h' ∧ Agr RWM h h') := by
  have D' := D
  obtain ⟨⟨d1, d2⟩, ⟨p1, _⟩, _, _, ⟨s1, s2, s3⟩, _⟩ := D'
  have h60 := RF.1
  obtain ⟨q, b, hq, gy, gw, hb, cs⟩ := fok_el (RF.2.2.2.2 k hk) p1 s1 h6
  have ib : ix (nI b) = b := nI_ix (by omega)
  have iq : ix (nI q) = q := nI_ix (by omega)
  simp only [fX12_happens, bX12_happens_213, ck_of (nI_inb (n := k) (N := 60) (by omega) (by decide)), nI_ix (show k < 2 ^ 31 by omega), e.i 40 _ rfl, e.i 41 _ rfl, e.i 42 _ rfl, e.i 43 _ rfl, gy, gw, lt_e, ck_of (nI_inb (n := b) (N := 10) (by omega) (by decide)), ib]
  unfold hapS
  simp only [gy, gw, ib, iq]
  rcases cs with ⟨ht, hb'⟩ | ⟨ht, hb'⟩ | ⟨ht, hb'⟩ | ⟨ht, hb'⟩ | ⟨ht, hb'⟩ | ⟨ht, hb'⟩
  · simp only [ht, ↓reduceIte, ieq_0_1, ieq_0_2, ieq_0_3, ieq_0_4, if_neg (show ¬ ((0 : Int32).toInt < 0 ∨ 4 < (0 : Int32).toInt) by decide), ↓reduceIte, H.we hb]
    have H2 := H.we_u hb (R 4 b + m.1 43 k)
    have e2 : Agr SM m (wI h 48 b (R 4 b + m.1 43 k)) := e.wI rfl
    cases tr
    · simp only [b2_f, ↓reduceIte, e2.i 0 18 rfl, d2, ck_of (nI_inb d1 (by decide)), nI_ix (show lv m < 2 ^ 31 by omega), e2.i 25 _ rfl, wI_s, true_and]
      by_cases hw : prI m ≤ R 4 b + m.1 43 k
      · rw [if_neg (show ¬ R 4 b + m.1 43 k < m.1 25 (lv m) from i_nlt.mpr hw), if_pos hw, ok_some]
        rw [show (wI h 48 b (R 4 b + m.1 43 k)).1 0 69 = R 6 0 from H2.de]
        exact ⟨H2.de_u _, (Agr.refl.wI rfl).wI rfl⟩
      · rw [if_pos (show R 4 b + m.1 43 k < m.1 25 (lv m) from i_nle.mp hw), if_neg hw, ok_some]
        exact ⟨H2, Agr.refl.wI rfl⟩
    · simp only [b2_t, i10, ↓reduceIte, ok_some, show ((true : Bool) = false) = False from eq_false (by decide), false_and]
      exact ⟨H2, Agr.refl.wI rfl⟩
  · simp only [ht, ↓reduceIte, ieq_0_1, ieq_0_2, ieq_0_3, ieq_0_4, if_neg (show ¬ ((1 : Int32).toInt < 0 ∨ 4 < (1 : Int32).toInt) by decide), ieq_1_0, ↓reduceIte, H.de]
    cases tr
    · simp only [b2_f, ↓reduceIte, ok_some]
      exact ⟨H, .refl⟩
    · simp only [b2_t, i10, ↓reduceIte, ok_some]
      exact ⟨H.de_u _, Agr.refl.wI rfl⟩
  · simp only [ht, ↓reduceIte, ieq_0_1, ieq_0_2, ieq_0_3, ieq_0_4, if_neg (show ¬ ((2 : Int32).toInt < 0 ∨ 4 < (2 : Int32).toInt) by decide), ieq_2_0, ieq_2_1, ↓reduceIte, H.st hb', M_writer D e hb', bi_some, H.de, bit_eq0]
    by_cases h0 : R 0 b = 0
    · by_cases hb2 : bit (R 6 0) (wrI m b) = false
      · rw [if_pos h0, if_pos hb2, if_pos ⟨h0, hb2⟩, ok_bv]
        refine (M_becomes H s1 hb' 3 (nI q) (by decide) (by decide)).mono fun h2 x => ?_
        rw [ok_some]; exact x
      · rw [if_pos h0, if_neg hb2, if_neg fun x => hb2 x.2, ok_some]
        exact ⟨H, .refl⟩
    · rw [if_neg h0, if_neg fun x => h0 x.1, ok_some]
      exact ⟨H, .refl⟩
  · simp only [ht, ↓reduceIte, ieq_0_1, ieq_0_2, ieq_0_3, ieq_0_4, if_neg (show ¬ ((3 : Int32).toInt < 0 ∨ 4 < (3 : Int32).toInt) by decide), ieq_3_0, ieq_3_1, ieq_3_2, ↓reduceIte, H.st hb', H.de, H.be]
    by_cases h0 : R 0 b = 0
    · rw [if_pos h0, if_pos h0, ok_bi]
      refine ((X h e).1 b q (R 6 0) (R 6 1) hb' hq).mono ?_
      rintro ⟨r, h2⟩ ⟨hr, a2⟩
      simp only at hr a2
      subst hr
      have H2 : KM (nL m) R ls h2 := KM_agr H a2 rfl
      have e2 : Agr SM m h2 := e.trans (a2.sub rfl)
      have a2' : Agr RWM h h2 := a2.sub rfl
      obtain ⟨x1, x2, x3⟩ := M_lt D e2 hb'
      cases S.1 b q (R 6 0) (R 6 1)
      · simp only [b2_f, ↓reduceIte, x1, ck_of x2, x3, e2.i 22 _ rfl, H2.ha, ok_bv, show ((false : Bool) = true) = False from eq_false (by decide), ↓reduceIte]
        refine (M_becomesO (H2.ha_u _) s1 hb' 2 (nI q) (.inr rfl)).mono ?_
        rintro h3 ⟨H3, a3⟩
        rw [ok_some]
        exact ⟨H3, (a2'.wI rfl).trans a3⟩
      · simp only [b2_t, i10, ↓reduceIte, ok_bv]
        refine (M_becomesO H2 s1 hb' 2 (nI q) (.inr rfl)).mono ?_
        rintro h3 ⟨H3, a3⟩
        rw [ok_some]
        exact ⟨H3, a2'.trans a3⟩
    · rw [if_neg h0, if_neg h0, ok_some]
      exact ⟨H, .refl⟩
  · simp only [ht, ↓reduceIte, ieq_0_1, ieq_0_2, ieq_0_3, ieq_0_4, if_neg (show ¬ ((4 : Int32).toInt < 0 ∨ 4 < (4 : Int32).toInt) by decide), ieq_4_0, ieq_4_1, ieq_4_2, ieq_4_3, ↓reduceIte, ok_some]
    exact ⟨H.da_u hb' _, Agr.refl.wI rfl⟩
  · simp only [ht, ↓reduceIte, ieq_0_1, ieq_0_2, ieq_0_3, ieq_0_4, if_pos (show ((5 : Int32).toInt < 0 ∨ 4 < (5 : Int32).toInt) by decide), ieq_5_0, ieq_5_1, ieq_5_2, ieq_5_3, ieq_5_4, ok_bv]
    refine (M_floods D e H (nI b) (nI q)).mono fun h2 x => ?_
    rw [ok_some]; exact x
theorem C_takeFact {S : Sem} {F k y o : Nat} {c m h : Hp} {R : Run} {ls : List Nat} {tr : Bool} (D : RD0 c m) (X : XC S c m) (RF : RFn (nP m) (nL m) F c m) (ho : isC o) (e : Agr SC c h) (H : KC o (nL m) R ls tr h) (hk : k < F) (h6 : ¬ m.1 40 k = 6) (hy : m.1 41 k = nI y) (hy60 : y < 60) : Ok (fX1_takeFact o (nI k) (nI y) h) (fun h' => KC o (nL m) (hapS S m tr k R) ls tr h' ∧ CF o h h') := by
  have D' := D
  obtain ⟨⟨d1, d2⟩, ⟨p1, _⟩, _, _, ⟨s1, s2, s3⟩, d6, d7, _⟩ := D'
  have h60 := RF.1
  obtain ⟨q, b, hq, gy, gw, hb, cs⟩ := fok_el (RF.2.2.2.2 k hk) p1 s1 h6
  have hqy : q = y := (nI_eq (by omega) (by omega)).mp (gy.symm.trans hy)
  subst hqy
  have ib : ix (nI b) = b := nI_ix (by omega)
  have iq : ix (nI q) = q := nI_ix (by omega)
  obtain ⟨z1, z2, z3, z4⟩ := RF.2.2.2.1 k hk
  simp only [fX1_takeFact, bX1_takeFact_253, ck_of (nI_inb (n := k) (N := 60) (by omega) (by decide)), nI_ix (show k < 2 ^ 31 by omega), e.i 153 _ rfl, e.i 155 _ rfl, e.i 156 _ rfl, z1, z3, z4, gw, lt_e, ck_of (nI_inb (n := b) (N := 10) (by omega) (by decide)), ib, if_neg (nI_pos (show b < 2 ^ 31 by omega)), if_neg (show ¬ (10 : Int32) ≤ nI b from nI_ge (b := 10) hb (by decide)), if_pos (show nI b < (10 : Int32) from nI_lt (b := 10) hb (by decide))]
  unfold hapS
  simp only [gy, gw, ib, iq]
  rcases cs with ⟨ht, hb'⟩ | ⟨ht, hb'⟩ | ⟨ht, hb'⟩ | ⟨ht, hb'⟩ | ⟨ht, hb'⟩ | ⟨ht, hb'⟩
  · simp only [ht, ↓reduceIte, ieq_0_1, ieq_0_2, ieq_0_3, ieq_0_4, if_neg (show ¬ ((0 : Int32).toInt < 0 ∨ 4 < (0 : Int32).toInt) by decide), ↓reduceIte, H.we hb]
    have H2 := H.we_u hb (R 4 b + m.1 43 k)
    have a2 : CF o h (wI h (o + 6) b (R 4 b + m.1 43 k)) := CF.refl.wI (by omega)
    have e2 : Agr SC c (wI h (o + 6) b (R 4 b + m.1 43 k)) := e.trans (a2.agr ho)
    simp only [H2.2.2.2]
    cases tr
    · simp only [b2_f, ↓reduceIte, e2.i 108 10 rfl, d6, wI_s, true_and]
      by_cases hw : prI m ≤ R 4 b + m.1 43 k
      · rw [if_neg (i_nlt.mpr hw), if_pos hw, ok_some]
        rw [show (wI h (o + 6) b (R 4 b + m.1 43 k)).1 o 11 = R 6 0 from H2.de]
        exact ⟨H2.de_u _, a2.wI (by omega)⟩
      · rw [if_pos (i_nle.mp hw), if_neg hw, ok_some]
        exact ⟨H2, a2⟩
    · simp only [b2_t, i10, ↓reduceIte, ok_some, show ((true : Bool) = false) = False from eq_false (by decide), false_and]
      exact ⟨H2, a2⟩
  · simp only [ht, ↓reduceIte, ieq_0_1, ieq_0_2, ieq_0_3, ieq_0_4, if_neg (show ¬ ((1 : Int32).toInt < 0 ∨ 4 < (1 : Int32).toInt) by decide), ieq_1_0, ↓reduceIte, H.de, H.2.2.2]
    cases tr
    · simp only [b2_f, ↓reduceIte, ok_some]
      exact ⟨H, .refl⟩
    · simp only [b2_t, i10, ↓reduceIte, ok_some]
      exact ⟨H.de_u _, CF.refl.wI (by omega)⟩
  · simp only [ht, ↓reduceIte, ieq_0_1, ieq_0_2, ieq_0_3, ieq_0_4, if_neg (show ¬ ((2 : Int32).toInt < 0 ∨ 4 < (2 : Int32).toInt) by decide), ieq_2_0, ieq_2_1, ↓reduceIte, H.st hb', SC_l e hb, (d7 b hb').1, C_has, bi_some, H.de, b2_0]
    by_cases h0 : R 0 b = 0
    · by_cases hb2 : bit (R 6 0) (wrI m b) = false
      · rw [if_pos h0, if_pos hb2, if_pos ⟨h0, hb2⟩, ok_bv]
        refine (C_endAs H s1 hb' 3 (nI q)).mono fun h2 x => ?_
        rw [ok_some]; exact x
      · rw [if_pos h0, if_neg hb2, if_neg fun x => hb2 x.2, ok_some]
        exact ⟨H, .refl⟩
    · rw [if_neg h0, if_neg fun x => h0 x.1, ok_some]
      exact ⟨H, .refl⟩
  · simp only [ht, ↓reduceIte, ieq_0_1, ieq_0_2, ieq_0_3, ieq_0_4, if_neg (show ¬ ((3 : Int32).toInt < 0 ∨ 4 < (3 : Int32).toInt) by decide), ieq_3_0, ieq_3_1, ieq_3_2, ↓reduceIte, H.st hb', H.de, H.be]
    by_cases h0 : R 0 b = 0
    · rw [if_pos h0, if_pos h0, ok_bi]
      refine ((X h e).1 b q (R 6 0) (R 6 1) hb' hq).mono ?_
      rintro ⟨r, h2⟩ ⟨hr, a2⟩
      simp only at hr a2
      subst hr
      have H2 : KC o (nL m) R ls tr h2 := KC_ev H ho a2
      have f2 : CF o h h2 := CF.refl.ev a2
      have e2 : Agr SC c h2 := e.trans (f2.agr ho)
      have fin : ∀ v R2, R2 = up R 6 2 v → Ok (bv (fX1_endAs o 2 (nI b) (nI q) (wI h2 o 13 v)) (fun h2 => some (wI h2 o 12 ((h2.1 o 12) ||| ((1 : Int32) <<< (nI b &&& 31)))))) (fun h' => KC o (nL m) (opnS R2 b 2 (nI q)) ls tr h' ∧ CF o h h') := by
        rintro v R2 rfl
        rw [ok_bv]
        refine (C_endAs (H2.ha_u v) s1 hb' 2 (nI q)).mono ?_
        rintro h3 ⟨H3, a3⟩
        rw [ok_some, H3.be]
        exact ⟨H3.be_u _, ((f2.wI (by omega)).trans a3).wI (by omega)⟩
      cases S.1 b q (R 6 0) (R 6 1)
      · simp only [b2_f, ↓reduceIte, SC_l e2 hb, (d7 b hb').2.2.2.2, H2.ha, show ((false : Bool) = true) = False from eq_false (by decide), ↓reduceIte]
        exact fin _ _ rfl
      · simp only [b2_t, i10, ↓reduceIte, H2.ha]
        exact fin _ _ (up_id (by rw [Int32.add_zero])).symm
    · rw [if_neg h0, if_neg h0, ok_some]
      exact ⟨H, .refl⟩
  · simp only [ht, ↓reduceIte, ieq_0_1, ieq_0_2, ieq_0_3, ieq_0_4, if_neg (show ¬ ((4 : Int32).toInt < 0 ∨ 4 < (4 : Int32).toInt) by decide), ieq_4_0, ieq_4_1, ieq_4_2, ieq_4_3, ↓reduceIte, ok_some]
    exact ⟨H.da_u hb' _, CF.refl.wI (by omega)⟩
  · simp only [ht, ↓reduceIte, ieq_0_1, ieq_0_2, ieq_0_3, ieq_0_4, if_pos (show ((5 : Int32).toInt < 0 ∨ 4 < (5 : Int32).toInt) by decide), ieq_5_0, ieq_5_1, ieq_5_2, ieq_5_3, ieq_5_4, ok_bv]
    refine (C_floods D ho e H (nI b) (nI q)).mono fun h2 x => ?_
    rw [ok_some]; exact x
