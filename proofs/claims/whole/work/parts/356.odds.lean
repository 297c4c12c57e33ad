/-- looks as numbers -/
theorem lkB_n10 {S : Sem} {m : Hp} (hL : nL m ≤ 10) {y : Nat} {d : Int32} : ∀ (n b : Nat), b < 1024 → ∃ b', b' < 1024 ∧ lkB S m y d n (nI b) = nI b' ∧ ∀ i, b.testBit i = true → b'.testBit i = true
  | 0, b, h => ⟨b, h, rfl, fun _ h => h⟩
  | n + 1, b, h => by
    cases hf : fmS S m y d (nI b) with
    | none => exact ⟨b, h, lkB_n hf, fun _ h => h⟩
    | some l =>
      obtain ⟨hl, _⟩ := fd_el hf
      have l10 : l < 10 := by omega
      have hb : b ||| 2 ^ l < 2 ^ 10 := Nat.or_lt_two_pow h (Nat.pow_lt_pow_right (by decide) l10)
      obtain ⟨b', h1, h2, h3⟩ := lkB_n10 hL n (b ||| 2 ^ l) hb
      refine ⟨b', h1, ?_, fun i hi => h3 i ?_⟩
      · rw [lkB_s hf, s1l l (by omega), nI_or, h2]
      · rw [Nat.testBit_or, hi]; rfl
def lkn (S : Sem) (m : Hp) (y d b : Nat) : Nat := ix (lkB S m y (nI d) 10 (nI b))
theorem lkn_e {S : Sem} {m : Hp} (hL : nL m ≤ 10) {y d b : Nat} (hb : b < 1024) : lkB S m y (nI d) 10 (nI b) = nI (lkn S m y d b) ∧ lkn S m y d b < 1024 ∧ ∀ i, b.testBit i = true → (lkn S m y d b).testBit i = true := by
  obtain ⟨b', h1, h2, h3⟩ := lkB_n10 hL (S := S) (y := y) (d := nI d) 10 b hb
  have e : lkn S m y d b = b' := by unfold lkn; rw [h2, nI_ix (by omega)]
  rw [e]
  exact ⟨h2, h1, h3⟩
def DB (S : Sem) : Prop := ∀ p y, ∃ u, u ≤ 100 ∧ S.2.1 p y = nI u
def dvN (S : Sem) (y p : Nat) : Nat := ix (S.2.1 p y)
theorem dv_e {S : Sem} (H : DB S) (y p : Nat) : dvN S y p ≤ 100 ∧ S.2.1 p y = nI (dvN S y p) := by
  obtain ⟨u, h1, h2⟩ := H p y
  have : dvN S y p = u := by unfold dvN; rw [h2, nI_ix (by omega)]
  rw [this]
  exact ⟨h1, h2⟩
theorem dv_l {S : Sem} (H : DB S) (y p : Nat) : (S.2.1 p y).toInt64 = lN (dvN S y p) ∧ ((100 : Int32) - S.2.1 p y).toInt64 = lN (100 - dvN S y p) := by
  obtain ⟨h1, h2⟩ := dv_e H y p
  rw [h2]
  refine ⟨nI_l (by omega), ?_⟩
  rw [show (100 : Int32) = nI 100 from rfl, pk_sub h1, nI_l (by omega)]
theorem M_waysOf {S : Sem} {c m h : Hp} (D : RD0 c m) (X : XM S m) (H : DB S) (e : Agr SM m h) {y : Nat} (hy : y < 60) (a d : Nat) : Ok (fX12_waysOf (nI a) (nI d) (nI y) h) (fun p => p.1 = lN (wN (dvN S y) (nP m) a d) ∧ Agr EM h p.2) := by
  have D' := D
  obtain ⟨⟨d1, d2⟩, ⟨p1, p2, p3⟩, _⟩ := D'
  unfold fX12_waysOf
  rw [lt_q, lt_q]
  refine up0 (fun f i (s : Int64 × Hp) => lX12_waysOf_6 f (nI a) (nI d) (nI y) s.1 (nI i) s.2) (nP m) (by omega) (fun i s => s.1 = lN (wN (dvN S y) i a d) ∧ Agr EM h s.2) (1, h) ⟨rfl, .refl⟩ ?_ ?_
  · rintro f ⟨v, h'⟩ ⟨hv, ha⟩
    simp only at hv ha
    have e' : Agr SM m h' := e.trans (ha.sub rfl)
    rw [lX12_waysOf_6]
    simp only [bX12_waysOf_6, e'.i 0 18 rfl, d2, ck_of (nI_inb d1 (by decide)), nI_ix (show lv m < 2 ^ 31 by omega), e'.i 11 _ rfl, p2, if_pos (nI_le (Nat.le_refl (nP m)) (show nP m < 2 ^ 31 by omega)), ok_some]
    exact ⟨hv, ha⟩
  · rintro f i ⟨v, h'⟩ hi ⟨hv, ha⟩ K
    simp only at hv ha
    have e' : Agr SM m h' := e.trans (ha.sub rfl)
    obtain ⟨l1, l2⟩ := dv_l H y i
    rw [lX12_waysOf_6]
    simp only [bX12_waysOf_6, bX12_waysOf_78, bX12_waysOf_75, e'.i 0 18 rfl, d2, ck_of (nI_inb d1 (by decide)), nI_ix (show lv m < 2 ^ 31 by omega), e'.i 11 _ rfl, p2, if_neg (nI_ge hi (show nP m < 2 ^ 31 by omega)), bit_eq1, bit_nI (show i < 32 by omega), lt_q, nI_1]
    by_cases c1 : a.testBit i = true
    · rw [if_pos c1]
      refine K (v * 100, h') ⟨?_, ha⟩
      show v * 100 = _
      rw [hv, show (100 : Int64) = lN 100 from rfl, lN_mul, wN_s]
      unfold wF
      rw [if_pos c1]
    · rw [if_neg c1]
      by_cases c2 : d.testBit i = true
      · rw [if_pos c2, ok_bi]
        refine ((X h' e').2.1 i y hi hy).mono ?_
        rintro ⟨x, h2⟩ ⟨hx, a2⟩
        simp only at hx a2
        subst hx
        refine K (v * (S.2.1 i y).toInt64, h2) ⟨?_, ha.trans a2⟩
        show v * _ = _
        rw [hv, l1, lN_mul, wN_s]
        unfold wF
        rw [if_neg c1, if_pos c2]
      · rw [if_neg c2, ok_bi]
        refine ((X h' e').2.1 i y hi hy).mono ?_
        rintro ⟨x, h2⟩ ⟨hx, a2⟩
        simp only at hx a2
        subst hx
        refine K (v * ((100 : Int32) - S.2.1 i y).toInt64, h2) ⟨?_, ha.trans a2⟩
        show v * _ = _
        rw [hv, l2, lN_mul, wN_s]
        unfold wF
        rw [if_neg c1, if_neg c2]
theorem C_waysTo {S : Sem} {c m h : Hp} (D : RD0 c m) (X : XC S c m) (H : DB S) (e : Agr SC c h) {y : Nat} (hy : y < 60) (d a : Nat) : fX10_waysTo (nI d) (nI a) (nI y) h = some (lN (wN (dvN S y) (nP m) a d), h) := by
  have D' := D
  obtain ⟨_, ⟨p1, p2, p3⟩, _⟩ := D'
  rw [← ok_eq]
  unfold fX10_waysTo
  rw [lt_q, lt_q]
  refine up0 (fun f i (s : Int64) => lX10_waysTo_6 f (nI d) (nI a) (nI y) s (nI i) h) (nP m) (by omega) (fun i s => s = lN (wN (dvN S y) i a d)) 1 rfl ?_ ?_
  · rintro f v hv
    rw [lX10_waysTo_6]
    simp only [bX10_waysTo_6, e.i 108 6 rfl, p3, if_pos (nI_le (Nat.le_refl (nP m)) (show nP m < 2 ^ 31 by omega)), ok_some]
    rw [hv]
  · rintro f i v hi hv K
    obtain ⟨l1, l2⟩ := dv_l H y i
    rw [lX10_waysTo_6]
    simp only [bX10_waysTo_6, bX10_waysTo_76, bX10_waysTo_73, e.i 108 6 rfl, p3, if_neg (nI_ge hi (show nP m < 2 ^ 31 by omega)), (X h e).2.1 i y hi hy, C_has, bi_q, b2_0, bit_nI (show i < 32 by omega), lt_q, nI_1]
    cases c1 : a.testBit i
    · rw [if_pos rfl]
      cases c2 : d.testBit i
      · rw [if_pos rfl]
        refine K _ ?_
        rw [hv, l2, lN_mul, wN_s]
        unfold wF
        rw [c1, c2]; rfl
      · rw [if_neg (by decide)]
        refine K _ ?_
        rw [hv, l1, lN_mul, wN_s]
        unfold wF
        rw [c1, c2]; rfl
    · rw [if_neg (by decide)]
      refine K _ ?_
      rw [hv, show (100 : Int64) = lN 100 from rfl, lN_mul, wN_s]
      unfold wF
      rw [c1]; rfl
theorem wN_b {S : Sem} (H : DB S) {y P a d : Nat} (hP : P ≤ 4) : wN (dvN S y) P a d ≤ 100000000 :=
  Nat.le_trans (wN_le (fun p => (dv_e H y p).1)) (Nat.pow_le_pow_right (n := 100) (by decide) hP)
theorem lN0 {w : Nat} (hw : w < 2 ^ 31) : lN w = 0 ↔ w = 0 := lN_eq (b := 0) hw (by decide)
theorem lNp {w : Nat} (hw : w ≤ 100000000) : lN w ≤ 0 ↔ w = 0 := by
  rw [show (0 : Int64) = lN 0 from rfl, lN_le (by omega) (by decide)]
  omega
/-- the class's second year -/
def nxO (S : Sem) (m : Hp) (l y a b : Nat) (x : Nat) : Nat := if (decide (x &&& a = a) && (lkn S m y x b).testBit l) = true then wN (dvN S y) (nP m) a x else 0
theorem C_oddsNext {S : Sem} {c m h : Hp} (D : RD0 c m) (X : XC S c m) (H : DB S) (e : Agr SC c h) {l y a b : Nat} (hP : nP m ≤ 4) (hl : l < nL m) (hy : y < 60) (ha : a < 2 ^ nP m) (hb : b < 1024) : Ok (fX10_oddsOfNext (nI l) (nI y) (nI a) (nI b) h) (fun p => p.1 = lN (sumN (2 ^ nP m) (nxO S m l y a b)) ∧ Agr EC h p.2) := by
  have D' := D
  obtain ⟨_, ⟨p1, p2, p3⟩, _, _, ⟨s1, _⟩, _⟩ := D'
  have p16 : 2 ^ nP m ≤ 16 := Nat.pow_le_pow_right (n := 2) (by decide) hP
  unfold fX10_oddsOfNext
  rw [lt_q, lt_q]
  refine upto (fun f i (s : Int64 × Hp) => lX10_oddsOfNext_6 f (nI l) (nI y) (nI a) (nI b) s.1 (nI i) s.2) (2 ^ nP m) (fun i s => s.1 = lN (sumN i (nxO S m l y a b)) ∧ Agr EC h s.2) ?_ ?_ (2 ^ nP m - a) a (0, h) FU rfl (by omega) (show 2 ^ nP m - a < 20000 by omega) ⟨?_, .refl⟩
  · rintro f ⟨v, h'⟩ ⟨hv, g⟩
    simp only at hv g
    have e' : Agr SC c h' := e.trans (g.sub rfl)
    rw [lX10_oddsOfNext_6]
    simp only [bX10_oddsOfNext_6, e'.i 108 6 rfl, p3, s1l (nP m) (by omega), if_pos (nI_le (Nat.le_refl (2 ^ nP m)) (show 2 ^ nP m < 2 ^ 31 by omega)), ok_some]
    exact ⟨hv, g⟩
  · rintro f i ⟨v, h'⟩ hi ⟨hv, g⟩ K
    simp only at hv g
    have e' : Agr SC c h' := e.trans (g.sub rfl)
    have sk : nxO S m l y a b i = 0 → ∀ h2, Agr EC h h2 → Ok (lX10_oddsOfNext_6 f (nI l) (nI y) (nI a) (nI b) v (nI (i + 1)) h2) (fun p => p.1 = lN (sumN (2 ^ nP m) (nxO S m l y a b)) ∧ Agr EC h p.2) := fun h0 h2 g2 => K (v, h2) ⟨by rw [sumN_s, h0, Nat.add_zero]; exact hv, g2⟩
    rw [lX10_oddsOfNext_6]
    simp only [bX10_oddsOfNext_6, bX10_oddsOfNext_71, e'.i 108 6 rfl, p3, s1l (nP m) (by omega), if_neg (nI_ge hi (show 2 ^ nP m < 2 ^ 31 by omega)), an_16 i (by omega) a (by omega), C_waysTo D X H e' hy, bi_q, lg_cmp_eq, lN0 (show wN (dvN S y) (nP m) a i < 2 ^ 31 by have := wN_b H (y := y) (a := a) (d := i) hP; omega), lt_q, nI_1]
    by_cases c1 : i &&& a = a
    · rw [if_pos c1]
      by_cases c2 : wN (dvN S y) (nP m) a i = 0
      · rw [if_pos c2]
        exact sk (by unfold nxO; rw [c2, ite_self]) h' g
      · rw [if_neg c2, ok_bi]
        refine (C_Wlook D X e' hy (nI i) (nI b)).mono ?_
        rintro ⟨x, h2⟩ ⟨hx, g2⟩
        simp only at hx g2
        obtain ⟨k1, k2, k3⟩ := lkn_e s1 (S := S) (y := y) (d := i) hb
        rw [k1] at hx
        subst hx
        simp only [C_has, bi_q, b2_0, bit_nI (show l < 32 by omega)]
        cases c3 : (lkn S m y i b).testBit l
        · rw [if_pos rfl]
          exact sk (by unfold nxO; rw [c3, Bool.and_false]; rfl) h2 (g.trans g2)
        · rw [if_neg (by decide)]
          refine K (v + lN (wN (dvN S y) (nP m) a i), h2) ⟨?_, g.trans g2⟩
          show v + _ = _
          rw [hv, lN_add, sumN_s]
          congr 2
          unfold nxO
          rw [c3, decide_eq_true c1]; rfl
    · rw [if_neg c1]
      exact sk (by unfold nxO; rw [decide_eq_false c1, Bool.false_and]; rfl) h' g
  · show (0 : Int64) = _
    rw [sumN_0 (fun i hi => by
      unfold nxO
      by_cases c1 : i &&& a = a
      · have := ge_16 i (by omega) a (by omega) c1
        omega
      · rw [decide_eq_false c1, Bool.false_and]; rfl)]
    rfl
def odC (S : Sem) (m : Hp) (l y n d : Nat) : Nat := if (lkn S m y d 0).testBit l = true then wN (dvN S y) (nP m) 0 d * (if n = 1 then 1 else 100 ^ nP m) else if n = 1 then 0 else wN (dvN S y) (nP m) 0 d * sumN (2 ^ nP m) (nxO S m l (y + 1) d (lkn S m y d 0))
theorem C_odds {S : Sem} {c m h : Hp} (D : RD0 c m) (X : XC S c m) (H : DB S) (e : Agr SC c h) {l y n : Nat} (hP : nP m ≤ 4) (hl : l < nL m) (hn : n = 1 ∨ n = 2) (hy : y + n ≤ 60) : Ok (fX10_oddsOf (nI l) (nI y) (nI n) h) (fun p => p.1 = lN (sumN (2 ^ nP m) (odC S m l y n)) ∧ Agr EC h p.2) := by
  have D' := D
  obtain ⟨_, ⟨p1, p2, p3⟩, _, _, ⟨s1, _⟩, _⟩ := D'
  have p16 : 2 ^ nP m ≤ 16 := Nat.pow_le_pow_right (n := 2) (by decide) hP
  have p0 : 0 < 2 ^ nP m := Nat.two_pow_pos _
  unfold fX10_oddsOf
  simp only [e.i 108 6 rfl, p3, s1l (nP m) (by omega), nI_sub1 p0, lt_q]
  refine up0 (fun f i (s : Int64 × Hp) => lX10_oddsOf_19 f (nI l) (nI y) (nI n) (nI (2 ^ nP m - 1)) s.1 (nI i) s.2) (2 ^ nP m) (by omega) (fun i s => s.1 = lN (sumN i (odC S m l y n)) ∧ Agr EC h s.2) (0, h) ⟨rfl, .refl⟩ ?_ ?_
  · rintro f ⟨v, h'⟩ ⟨hv, g⟩
    simp only at hv g
    rw [lX10_oddsOf_19]
    simp only [bX10_oddsOf_19, if_pos (nI_lt (show 2 ^ nP m - 1 < 2 ^ nP m by omega) (by omega)), ok_some]
    exact ⟨hv, g⟩
  · rintro f i ⟨v, h'⟩ hi ⟨hv, g⟩ K
    simp only at hv g
    have e' : Agr SC c h' := e.trans (g.sub rfl)
    have hw := wN_b H (y := y) (a := 0) (d := i) hP
    have sk : odC S m l y n i = 0 → ∀ h2, Agr EC h h2 → Ok (lX10_oddsOf_19 f (nI l) (nI y) (nI n) (nI (2 ^ nP m - 1)) v (nI (i + 1)) h2) (fun p => p.1 = lN (sumN (2 ^ nP m) (odC S m l y n)) ∧ Agr EC h p.2) := fun h0 h2 g2 => K (v, h2) ⟨by rw [sumN_s, h0, Nat.add_zero]; exact hv, g2⟩
    have wt := C_waysTo D X H e' (show y < 60 by omega) i 0
    rw [nI_0] at wt
    rw [lX10_oddsOf_19]
    simp only [bX10_oddsOf_19, bX10_oddsOf_120, bX10_oddsOf_89, if_neg (nI_nlt (show i ≤ 2 ^ nP m - 1 by omega) (by omega)), wt, bi_q, lg_cmp_eq, lN0 (show wN (dvN S y) (nP m) 0 i < 2 ^ 31 by omega), lt_q, nI_1]
    by_cases c2 : wN (dvN S y) (nP m) 0 i = 0
    · rw [if_pos c2]
      exact sk (by unfold odC; rw [c2]; simp) h' g
    · rw [if_neg c2, ok_bi]
      have lk := C_Wlook D X e' (show y < 60 by omega) (nI i) (nI 0)
      rw [nI_0] at lk
      refine lk.mono ?_
      rintro ⟨x, h2⟩ ⟨hx, g2⟩
      simp only at hx g2
      obtain ⟨k1, k2, k3⟩ := lkn_e s1 (S := S) (y := y) (d := i) (b := 0) (by decide)
      rw [nI_0] at k1
      rw [k1] at hx
      subst hx
      have e2 : Agr SC c h2 := e'.trans (g2.sub rfl)
      simp only [C_has, bi_q, b2_0, bit_nI (show l < 32 by omega)]
      cases c3 : (lkn S m y i 0).testBit l
      · rw [if_pos rfl]
        rcases hn with rfl | rfl
        · rw [if_pos (show nI 1 ≤ (1 : Int32) by decide)]
          exact sk (by unfold odC; rw [c3]; rfl) h2 (g.trans g2)
        · rw [if_neg (show ¬ nI 2 ≤ (1 : Int32) by decide), ok_bi]
          refine (C_oddsNext D X H e2 hP hl (show y + 1 < 60 by omega) hi k2).mono ?_
          rintro ⟨x, h3⟩ ⟨hx, g3⟩
          simp only at hx g3
          subst hx
          refine K (v + lN (wN (dvN S y) (nP m) 0 i) * lN _, h3) ⟨?_, (g.trans g2).trans g3⟩
          show v + _ * _ = _
          rw [hv, lN_mul, lN_add, sumN_s]
          congr 2
          unfold odC
          rw [c3]; rfl
      · rw [if_neg (by decide)]
        rcases hn with rfl | rfl
        · rw [if_pos (show nI 1 = (1 : Int32) from rfl)]
          refine K (v + lN (wN (dvN S y) (nP m) 0 i), h2) ⟨?_, g.trans g2⟩
          show v + _ = _
          rw [hv, lN_add, sumN_s]
          congr 2
          unfold odC
          rw [c3, if_pos rfl, if_pos rfl, Nat.mul_one]
        · rw [if_neg (show ¬ nI 2 = (1 : Int32) by decide)]
          simp only [C_waysTo D X H e2 (show y < 60 by omega), bi_q, lt_q]
          refine K (v + lN (wN (dvN S y) (nP m) 0 i) * lN _, h2) ⟨?_, g.trans g2⟩
          show v + _ * _ = _
          rw [hv, lN_mul, lN_add, sumN_s, wN_all (a := 2 ^ nP m - 1) (fun p hp => by rw [Nat.testBit_two_pow_sub_one]; exact decide_eq_true hp)]
          congr 2
          unfold odC
          rw [c3, if_pos rfl, if_neg (by decide)]
