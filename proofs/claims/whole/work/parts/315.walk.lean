theorem M_starts {c m h : Hp} (D : RD0 c m) (e : Agr SM m h) : Ok (fX12_starts h) (fun h' => KM (nL m) (R0S m) [] h' ∧ Agr RWM h h') := by
  obtain ⟨⟨d1, d2⟩, _, _, _, ⟨s1, s2, s3⟩, _⟩ := D
  unfold fX12_starts
  rw [lt_e]
  refine up0 (fun f i h => lX12_starts_2 f (nI i) h) 10 (by decide) (fun i h' => Agr RWM h h' ∧ ∀ j, j < i → h'.1 44 j = 0 ∧ h'.1 45 j = -2 ∧ h'.1 46 j = liI m j ∧ h'.1 47 j = 0 ∧ h'.1 48 j = 0) h ⟨.refl, fun j hj => absurd hj (by omega)⟩ ?_ ?_
  · rintro f h1 ⟨a1, hI⟩
    rw [lX12_starts_2]
    simp only [bX12_starts_2, if_pos (show (10 : Int32) ≤ nI 10 by decide), lt_e]
    refine up0 (fun f i h => lX12_starts_65 f (nI i) h) 60 (by decide) (fun i h' => Agr RWM h h' ∧ (∀ j, j < 10 → h'.1 44 j = 0 ∧ h'.1 45 j = -2 ∧ h'.1 46 j = liI m j ∧ h'.1 47 j = 0 ∧ h'.1 48 j = 0) ∧ ∀ j, j < i → h'.1 49 j = 0) h1 ⟨a1, hI, fun j hj => absurd hj (by omega)⟩ ?_ ?_
    · rintro f h2 ⟨a2, i1, i2⟩
      rw [lX12_starts_65]
      simp only [bX12_starts_65, if_pos (show (60 : Int32) ≤ nI 60 by decide), lt_e, ok_some]
      refine ⟨⟨fun k j hd => ?_, wI_s, fun i hi => absurd hi (by simp)⟩, (((a2.wI rfl).wI rfl).wI rfl).wI rfl⟩
      have h6 := dm_6 hd
      have hc : k = 0 ∨ k = 1 ∨ k = 2 ∨ k = 3 ∨ k = 4 ∨ k = 5 ∨ k = 6 := by omega
      unfold dm at hd
      rcases hc with rfl | rfl | rfl | rfl | rfl | rfl | rfl
      · show (wI (wI (wI (wI h2 0 69 0) 0 70 0) 0 71 0) 0 73 0).1 44 j = 0
        rw [wI_k (by decide), wI_k (by decide), wI_k (by decide), wI_k (by decide)]; exact (i1 j (by omega)).1
      · show (wI (wI (wI (wI h2 0 69 0) 0 70 0) 0 71 0) 0 73 0).1 45 j = -2
        rw [wI_k (by decide), wI_k (by decide), wI_k (by decide), wI_k (by decide)]; exact (i1 j (by omega)).2.1
      · show (wI (wI (wI (wI h2 0 69 0) 0 70 0) 0 71 0) 0 73 0).1 46 j = liI m j
        rw [wI_k (by decide), wI_k (by decide), wI_k (by decide), wI_k (by decide)]; exact (i1 j (by omega)).2.2.1
      · show (wI (wI (wI (wI h2 0 69 0) 0 70 0) 0 71 0) 0 73 0).1 47 j = 0
        rw [wI_k (by decide), wI_k (by decide), wI_k (by decide), wI_k (by decide)]; exact (i1 j (by omega)).2.2.2.1
      · show (wI (wI (wI (wI h2 0 69 0) 0 70 0) 0 71 0) 0 73 0).1 48 j = 0
        rw [wI_k (by decide), wI_k (by decide), wI_k (by decide), wI_k (by decide)]; exact (i1 j (by omega)).2.2.2.2
      · show (wI (wI (wI (wI h2 0 69 0) 0 70 0) 0 71 0) 0 73 0).1 49 j = 0
        rw [wI_k (by decide), wI_k (by decide), wI_k (by decide), wI_k (by decide)]; exact i2 j (by omega)
      · have : j = 0 ∨ j = 1 ∨ j = 2 := by omega
        rcases this with rfl | rfl | rfl
        · show (wI (wI (wI (wI h2 0 69 0) 0 70 0) 0 71 0) 0 73 0).1 0 69 = 0
          rw [wI_j (by decide), wI_j (by decide), wI_j (by decide), wI_s]
        · show (wI (wI (wI (wI h2 0 69 0) 0 70 0) 0 71 0) 0 73 0).1 0 70 = 0
          rw [wI_j (by decide), wI_j (by decide), wI_s]
        · show (wI (wI (wI (wI h2 0 69 0) 0 70 0) 0 71 0) 0 73 0).1 0 71 = 0
          rw [wI_j (by decide), wI_s]
    · rintro f i h2 hi ⟨a2, i1, i2⟩ K
      simp only [lX12_starts_65, bX12_starts_65, if_neg (show ¬ (60 : Int32) ≤ nI i from nI_ge (b := 60) hi (by decide)), ck_of (nI_inb hi (by decide)), nI_ix (show i < 2 ^ 31 by omega), lt_e, nI_1]
      refine K _ ⟨a2.wI rfl, fun j hj => ?_, fun j hj => ?_⟩
      · rw [wI_k (by decide), wI_k (by decide), wI_k (by decide), wI_k (by decide), wI_k (by decide)]; exact i1 j hj
      · by_cases ej : j = i
        · subst ej; exact wI_s
        · rw [wI_j ej]; exact i2 j (by omega)
  · rintro f i h1 hi ⟨a1, hI⟩ K
    have q18 : ∀ (a b : Nat) (v : Int32) (g : Hp), a ≠ 0 → (wI g a b v).1 0 18 = g.1 0 18 := fun a b v g ha => wI_k (Ne.symm ha)
    have q21 : ∀ (a b : Nat) (v : Int32) (g : Hp) (j : Nat), a ≠ 21 → (wI g a b v).1 21 j = g.1 21 j := fun a b v g j ha => wI_k (Ne.symm ha)
    have e1 : Agr SM m h1 := e.trans (a1.sub rfl)
    simp only [lX12_starts_2, bX12_starts_2, if_neg (show ¬ (10 : Int32) ≤ nI i from nI_ge (b := 10) hi (by decide)), ck_of (nI_inb hi (show (10 : Nat) < 2 ^ 31 by decide)), nI_ix (show i < 2 ^ 31 by omega), lt_e, nI_1, q18 44 _ _ _ (by decide), q18 45 _ _ _ (by decide), e1.i 0 18 rfl, d2, e10, ck_of (nI_inb (n := 10 * lv m + i) (N := 20) (by omega) (by decide)), nI_ix (show 10 * lv m + i < 2 ^ 31 by omega), q21 44 _ _ _ _ (by decide), q21 45 _ _ _ _ (by decide), e1.i 21 _ rfl]
    refine K _ ⟨((((a1.wI rfl).wI rfl).wI rfl).wI rfl).wI rfl, fun j hj => ?_⟩
    by_cases ej : j = i
    · subst ej
      simp [wI_r]; rfl
    · simp [wI_r, ej]; exact hI j (by omega)
theorem C_begin {c m h : Hp} {o : Nat} {tr : Bool} (D : RD0 c m) (ho : isC o) (e : Agr SC c h) : Ok (fX1_begin o (b2 tr) h) (fun h' => KC o (nL m) (R0S m) [] tr h' ∧ CF o h h') := by
  obtain ⟨⟨d1, d2⟩, _, _, _, ⟨s1, s2, s3⟩, _, d7, _⟩ := D
  have cf : ∀ (g g' : Hp) (k : Nat), o ≤ k ∧ k ≤ o + 7 → (∀ a b, a ≠ k → g'.1 a b = g.1 a b) → g'.2 = g.2 → CF o g g' := fun g g' k hk h1 h2 a b hx _ => ⟨h1 a b (by rintro rfl; exact hx hk), by rw [h2]⟩
  simp only [fX1_begin, ok_bv, lt_e]
  refine (C_fill (k := o + 1) (n := 10) (by decide) 0 h).mono ?_
  rintro h1 ⟨f1, g1, l1⟩
  refine (C_fill (k := o + 2) (n := 10) (by decide) (-2) h1).mono ?_
  rintro h2 ⟨f2, g2, l2⟩
  refine (C_fill (k := o + 4) (n := 10) (by decide) 0 h2).mono ?_
  rintro h3 ⟨f3, g3, l3⟩
  refine (C_fill (k := o + 6) (n := 10) (by decide) 0 h3).mono ?_
  rintro h4 ⟨f4, g4, l4⟩
  refine (C_fill (k := o + 7) (n := 60) (by decide) 0 h4).mono ?_
  rintro h5 ⟨f5, g5, l5⟩
  have a5 : CF o h h5 := ((((cf h h1 _ (by omega) g1 l1).trans (cf h1 h2 _ (by omega) g2 l2)).trans (cf h2 h3 _ (by omega) g3 l3)).trans (cf h3 h4 _ (by omega) g4 l4)).trans (cf h4 h5 _ (by omega) g5 l5)
  have v1 : ∀ j, j < 10 → h5.1 (o + 1) j = 0 := fun j hj => by rw [g5 _ _ (by omega), g4 _ _ (by omega), g3 _ _ (by omega), g2 _ _ (by omega), f1 j hj]
  have v2 : ∀ j, j < 10 → h5.1 (o + 2) j = -2 := fun j hj => by rw [g5 _ _ (by omega), g4 _ _ (by omega), g3 _ _ (by omega), f2 j hj]
  have v4 : ∀ j, j < 10 → h5.1 (o + 4) j = 0 := fun j hj => by rw [g5 _ _ (by omega), g4 _ _ (by omega), f3 j hj]
  have v6 : ∀ j, j < 10 → h5.1 (o + 6) j = 0 := fun j hj => by rw [g5 _ _ (by omega), f4 j hj]
  refine up0 (fun f i h => lX1_begin_43 o f (b2 tr) (nI i) h) (nL m) (by omega) (fun i h' => CF o h h' ∧ (∀ a b, a ≠ o + 3 → h'.1 a b = h5.1 a b) ∧ ∀ j, j < i → h'.1 (o + 3) j = liI m j) h5 ⟨a5, fun _ _ _ => rfl, fun j hj => absurd hj (by omega)⟩ ?_ ?_
  · rintro f h6 ⟨a6, g6, f6⟩
    have e6 : Agr SC c h6 := e.trans (a6.agr ho)
    simp only [lX1_begin_43, bX1_begin_43, e6.i 108 9 rfl, s3, if_pos (nI_le (Nat.le_refl (nL m)) (show nL m < 2 ^ 31 by omega)), lt_e, ck_of (b2_zb tr), ok_some]
    refine ⟨⟨fun k j hd => ?_, ?_, fun i hi => absurd hi (by simp), wI_s⟩, ((((a6.wI (by omega)).wI (by omega)).wI (by omega)).wI (by omega)).wI (by omega)⟩
    · have h6 := dm_6 hd
      have hc : k = 0 ∨ k = 1 ∨ k = 2 ∨ k = 3 ∨ k = 4 ∨ k = 5 ∨ k = 6 := by omega
      unfold dm at hd
      rcases hc with rfl | rfl | rfl | rfl | rfl | rfl | rfl
      · show (wI (wI (wI (wI (wI _ o 10 0) o 11 0) o 12 0) o 13 0) o 14 _).1 (o + 1) j = 0
        rw [wI_k (by omega), wI_k (by omega), wI_k (by omega), wI_k (by omega), wI_k (by omega), g6 _ _ (by omega)]; exact v1 j (by omega)
      · show (wI (wI (wI (wI (wI _ o 10 0) o 11 0) o 12 0) o 13 0) o 14 _).1 (o + 2) j = -2
        rw [wI_k (by omega), wI_k (by omega), wI_k (by omega), wI_k (by omega), wI_k (by omega), g6 _ _ (by omega)]; exact v2 j (by omega)
      · show (wI (wI (wI (wI (wI _ o 10 0) o 11 0) o 12 0) o 13 0) o 14 _).1 (o + 3) j = liI m j
        rw [wI_k (by omega), wI_k (by omega), wI_k (by omega), wI_k (by omega), wI_k (by omega)]; exact f6 j (by omega)
      · show (wI (wI (wI (wI (wI _ o 10 0) o 11 0) o 12 0) o 13 0) o 14 _).1 (o + 4) j = 0
        rw [wI_k (by omega), wI_k (by omega), wI_k (by omega), wI_k (by omega), wI_k (by omega), g6 _ _ (by omega)]; exact v4 j (by omega)
      · show (wI (wI (wI (wI (wI _ o 10 0) o 11 0) o 12 0) o 13 0) o 14 _).1 (o + 6) j = 0
        rw [wI_k (by omega), wI_k (by omega), wI_k (by omega), wI_k (by omega), wI_k (by omega), g6 _ _ (by omega)]; exact v6 j (by omega)
      · show (wI (wI (wI (wI (wI _ o 10 0) o 11 0) o 12 0) o 13 0) o 14 _).1 (o + 7) j = 0
        rw [wI_k (by omega), wI_k (by omega), wI_k (by omega), wI_k (by omega), wI_k (by omega), g6 _ _ (by omega)]; exact f5 j (by omega)
      · have : j = 0 ∨ j = 1 ∨ j = 2 := by omega
        rcases this with rfl | rfl | rfl
        · show (wI (wI (wI (wI (wI _ o 10 0) o 11 0) o 12 0) o 13 0) o 14 _).1 o 11 = 0
          rw [wI_j (by decide), wI_j (by decide), wI_j (by decide), wI_s]
        · show (wI (wI (wI (wI (wI _ o 10 0) o 11 0) o 12 0) o 13 0) o 14 _).1 o 12 = 0
          rw [wI_j (by decide), wI_j (by decide), wI_s]
        · show (wI (wI (wI (wI (wI _ o 10 0) o 11 0) o 12 0) o 13 0) o 14 _).1 o 13 = 0
          rw [wI_j (by decide), wI_s]
    · rw [wI_j (by decide), wI_j (by decide), wI_j (by decide), wI_j (by decide), wI_s]; rfl
  · rintro f l h6 hl ⟨a6, g6, f6⟩ K
    have e6 : Agr SC c h6 := e.trans (a6.agr ho)
    simp only [lX1_begin_43, bX1_begin_43, e6.i 108 9 rfl, s3, if_neg (nI_ge hl (show nL m < 2 ^ 31 by omega)), ck_of (nI_inb (n := l) (N := 10) (by omega) (by decide)), nI_ix (show l < 2 ^ 31 by omega), SC_l e6 (show l < 10 by omega), (d7 l hl).2.2.2.1, lt_e, nI_1]
    refine K _ ⟨a6.wI (by omega), fun a b hab => by rw [wI_k hab]; exact g6 a b hab, fun j hj => ?_⟩
    by_cases ej : j = l
    · subst ej; exact wI_s
    · rw [wI_j ej]; exact f6 j (by omega)
theorem nar_b (b : Bool) : vp_nar .boolean (b2 b) = b2 b := by cases b <;> rfl
/-- the model's look in a year -/
def lkq (kk aa bb : Int32) (q : Nat → Bool) : Prop := (kk = 0 ∧ ∀ y, y < 60 → q y = (decide (nI y = aa) || decide (nI y = bb))) ∨ ∃ k, 0 < k ∧ k < 2 ^ 31 ∧ kk = nI k ∧ ∀ y, q y = decide (y % k = 0)
theorem M_runsI {S : Sem} {F n y : Nat} {c m h : Hp} {R : Run} {ls : List Nat} {tr : Bool} {q : Nat → Bool} {kk aa bb la : Int32} {Q : Hp → Prop} {r : Int32 → Int32 → Int32 → Int32 → Int32 → Int32 → Int32 → Hp → Option Hp} (D : RD0 c m) (X : XM S m) (RF : RFn (nP m) (nL m) F c m) (hn : n ≤ F) (hq : lkq kk aa bb q) (e : Agr SM m h) (hc : ∀ f, f < n → h.1 51 f = b2 (cntS m n f)) (H : KM (nL m) R ls h) (hy : y < 60)
    (K : ∀ h', KM (nL m) (yrR S m n tr q y R).1 (yrR S m n tr q y R).2 h' → Agr RWM h h' → Ok (r (nI n) kk aa bb (b2 tr) la (nI (y + 1)) h') Q) :
    Ok (lX12_runs_46 r FU (nI n) kk aa bb (b2 tr) la (nI y) 0 h) Q := by
  have h60 := RF.1
  refine up0 (fun f i h => lX12_runs_46 r f (nI n) kk aa bb (b2 tr) la (nI y) (nI i) h) n (by omega) (fun i h' => Agr RWM h h' ∧ KM (nL m) (forN i (facF S m n tr y) R) ls h') h ⟨.refl, H⟩ ?_ ?_
  · rintro f h1 ⟨a1, H1⟩
    have e1 : Agr SM m h1 := e.trans (a1.sub rfl)
    rw [lX12_runs_46]
    simp only [bX12_runs_46, if_pos (nI_le (Nat.le_refl n) (show n < 2 ^ 31 by omega)), ok_bv, lt_e]
    refine (M_pays D X e1 H1 hy).mono ?_
    rintro h2 ⟨H2, a2⟩
    have e2 : Agr SM m h2 := e1.trans (a2.sub rfl)
    have H3 : KM (nL m) (payS S m y (facS S m n tr y R)) [] (wI h2 0 73 0) := ⟨RM_w H2.1 (.inr ⟨rfl, by omega⟩), wI_s, fun i hi => absurd hi (by simp)⟩
    have e3 : Agr SM m (wI h2 0 73 0) := e2.wI rfl
    have a3 : Agr RWM h (wI h2 0 73 0) := (a1.trans a2).wI rfl
    have yes : q y = true → Ok (bX12_runs_126 r (nI n) kk aa bb (b2 tr) la (nI y) (wI h2 0 73 0)) Q := fun hqy => by
      simp only [bX12_runs_126, bX12_runs_132, ok_bv, lt_e, nI_1]
      refine (M_looksNow D X hy e3 H3).mono ?_
      rintro h4 ⟨H4, a4⟩
      refine K h4 ?_ (a3.trans a4)
      unfold yrR
      rw [if_pos hqy]; exact H4
    have no : q y = false → Ok (bX12_runs_132 r (nI n) kk aa bb (b2 tr) la (nI y) (wI h2 0 73 0)) Q := fun hqy => by
      simp only [bX12_runs_132, lt_e, nI_1]
      refine K _ ?_ a3
      unfold yrR
      rw [if_neg (by rw [hqy]; decide)]; exact H3
    rcases hq with ⟨hk, hq⟩ | ⟨k, k0, k31, hk, hq⟩
    · rw [if_pos hk]
      by_cases c1 : nI y = aa
      · rw [if_pos c1]; exact yes (by rw [hq y hy, decide_eq_true c1]; rfl)
      · rw [if_neg c1]
        by_cases c2 : nI y = bb
        · rw [if_pos c2]; exact yes (by rw [hq y hy, decide_eq_true c2, Bool.or_true])
        · rw [if_neg c2]; exact no (by rw [hq y hy, decide_eq_false c1, decide_eq_false c2]; rfl)
    · subst hk
      have hm : y % k < k := Nat.mod_lt _ k0
      rw [if_neg (nI_ne0 k0 k31), ck_of (nz_nI k0 k31), pk_rem (by omega) k0 k31]
      by_cases c1 : y % k = 0
      · rw [if_pos (by rw [c1]; rfl)]; exact yes (by rw [hq y, decide_eq_true c1])
      · rw [if_neg (nI_ne0 (by omega) (by omega))]; exact no (by rw [hq y, decide_eq_false c1])
  · rintro f i h1 hi ⟨a1, H1⟩ K'
    have e1 : Agr SM m h1 := e.trans (a1.sub rfl)
    simp only [lX12_runs_46, bX12_runs_46, bX12_runs_82, if_neg (nI_ge hi (show n < 2 ^ 31 by omega)), ck_of (nI_inb (n := i) (N := 60) (by omega) (by decide)), nI_ix (show i < 2 ^ 31 by omega), a1.i 51 _ rfl, hc i hi, e1.i 41 _ rfl, lt_e, nI_1, b2_0]
    by_cases c1 : cntS m n i = true
    · rw [if_neg (by rw [c1]; decide)]
      obtain ⟨k6, ky, ky60⟩ := cnt_yr RF (show i < F by omega) c1
      rw [ky]
      by_cases c2 : yr m i = y
      · rw [if_pos (by rw [c2]), ok_bv]
        refine (M_happens D X RF e1 H1 (show i < F by omega) k6).mono ?_
        rintro h2 ⟨H2, a2⟩
        refine K' h2 ⟨a1.trans a2, ?_⟩
        rw [forN_s]; unfold facF
        rw [if_pos ⟨c1, c2⟩]; exact H2
      · rw [if_neg (fun x => c2 ((nI_eq (by omega) (by omega)).mp x))]
        refine K' h1 ⟨a1, ?_⟩
        rw [forN_s]; unfold facF
        rw [if_neg (fun x => c2 x.2)]; exact H1
    · rw [if_pos (by simpa using c1)]
      refine K' h1 ⟨a1, ?_⟩
      rw [forN_s]; unfold facF
      rw [if_neg (fun x => c1 x.1)]; exact H1
def RUM : Ws := (51, none) :: RWM
theorem M_runs {S : Sem} {F n la : Nat} {c m h : Hp} {tr : Bool} {q : Nat → Bool} {kk aa bb : Int32} (D : RD0 c m) (X : XM S m) (RF : RFn (nP m) (nL m) F c m) (hn : n ≤ F) (hq : lkq kk aa bb q) (e : Agr SM m h) (hla : la < 60) : Ok (fX12_runs (nI n) kk aa bb (b2 tr) (nI la) h) (fun h' => KM (nL m) (runS S m n tr q (la + 1)).1 (yrR S m n tr q la (runS S m n tr q la).1).2 h' ∧ Agr RUM h h') := by
  have h60 := RF.1
  simp only [fX12_runs, ok_bv, lt_e]
  refine (M_starts D e).mono ?_
  rintro h1 ⟨H1, a1⟩
  have e1 : Agr SM m h1 := e.trans (a1.sub rfl)
  refine up0 (fun f i h => lX12_runs_7 f (nI n) kk aa bb (b2 tr) (nI la) (nI i) h) n (by omega) (fun i h' => Agr RUM h h' ∧ KM (nL m) (R0S m) [] h' ∧ ∀ f, f < i → h'.1 51 f = b2 (cntS m n f)) h1 ⟨a1.sub rfl, H1, fun f hf => absurd hf (by omega)⟩ ?_ ?_
  · rintro f h2 ⟨a2, H2, hc⟩
    rw [lX12_runs_7]
    simp only [bX12_runs_7, if_pos (nI_le (Nat.le_refl n) (show n < 2 ^ 31 by omega)), lt_e]
    refine up0 (fun f i h => lX12_runs_36 f (nI n) kk aa bb (b2 tr) (nI la) (nI i) h) (la + 1) (by omega) (fun i h' => Agr RUM h h' ∧ (∀ f, f < n → h'.1 51 f = b2 (cntS m n f)) ∧ ∃ ls, KM (nL m) (runS S m n tr q i).1 ls h' ∧ (i = la + 1 → ls = (yrR S m n tr q la (runS S m n tr q la).1).2)) h2 ⟨a2, hc, [], H2, fun x => absurd x (by omega)⟩ ?_ ?_
    · rintro f h3 ⟨a3, hc3, ls, H3, hls⟩
      rw [lX12_runs_36]
      simp only [bX12_runs_36, if_pos (show nI la < nI (la + 1) from nI_lt (by omega) (by omega)), ok_some]
      rw [hls rfl] at H3
      exact ⟨H3, a3⟩
    · rintro f y h3 hy ⟨a3, hc3, ls, H3, hls⟩ K
      have e3 : Agr SM m h3 := e.trans (a3.sub rfl)
      rw [lX12_runs_36]
      simp only [bX12_runs_36, if_neg (show ¬ nI la < nI y from nI_nlt (by omega) (by omega)), lt_e]
      refine M_runsI D X RF hn hq e3 hc3 H3 (show y < 60 by omega) ?_
      intro h4 H4 a4
      refine K h4 ⟨a3.trans (a4.sub rfl), fun f hf => by rw [a4.i 51 _ rfl]; exact hc3 f hf, _, H4, fun hyl => ?_⟩
      have : y = la := by omega
      subst this; rfl
  · rintro f i h2 hi ⟨a2, H2, hc⟩ K
    have e2 : Agr SM m h2 := e.trans (a2.sub rfl)
    simp only [lX12_runs_7, bX12_runs_7, if_neg (nI_ge hi (show n < 2 ^ 31 by omega)), M_counts RF e2 hn hi, bi_some, nar_b, ck_of (nI_inb (n := i) (N := 60) (by omega) (by decide)), nI_ix (show i < 2 ^ 31 by omega), lt_e, nI_1]
    refine K _ ⟨a2.wI rfl, ⟨RM_w H2.1 (.inl (by decide)), (wI_k (by decide)).trans H2.2.1, fun i hi => absurd hi (by simp)⟩, fun j hj => ?_⟩
    by_cases ej : j = i
    · subst ej; exact wI_s
    · rw [wI_j ej]; exact hc j (by omega)
theorem ARR_cf {m h h' : Hp} {n o : Nat} (ar : ARR m n h) (ho : isC o) (a : CF o h h') : ARR m n h' := by
  have ho2 := isC_ge ho
  refine ⟨fun y hy => ?_, fun j hj hc => ?_⟩
  · rw [(a 158 y (by omega) rfl).1]; exact ar.1 y hy
  · rw [(a 157 _ (by omega) rfl).1]; exact ar.2 j hj hc
def qk (k y : Nat) : Bool := decide (y % k = 0)
theorem C_walk {S : Sem} {F n la k o : Nat} {c m h : Hp} {tr : Bool} (D : RD0 c m) (X : XC S c m) (RF : RFn (nP m) (nL m) F c m) (hn : n ≤ F) (ho : isC o) (k0 : 0 < k) (k31 : k < 2 ^ 31) (e : Agr SC c h) (ar : ARR m n h) (hla : la < 60) : Ok (fX1_walk o (nI k) (nI la) (b2 tr) h) (fun h' => KC o (nL m) (runS S m n tr (qk k) (la + 1)).1 (runS S m n tr (qk k) (la + 1)).2 tr h' ∧ CF o h h') := by
  have s1 := D.2.2.2.2.1.1
  simp only [fX1_walk, ok_bv, lt_e]
  refine (C_begin (tr := tr) D ho e).mono ?_
  rintro h1 ⟨H1, a1⟩
  refine up0 (fun f i h => lX1_walk_8 o f (nI k) (nI la) (nI i) h) (la + 1) (by omega) (fun i h' => CF o h h' ∧ KC o (nL m) (runS S m n tr (qk k) i).1 (runS S m n tr (qk k) i).2 tr h') h1 ⟨a1, H1⟩ ?_ ?_
  · rintro f h2 ⟨a2, H2⟩
    rw [lX1_walk_8]
    simp only [bX1_walk_8, if_pos (show nI la < nI (la + 1) from nI_lt (by omega) (by omega)), ok_some]
    exact ⟨H2, a2⟩
  · rintro f y h2 hy ⟨a2, H2⟩ K
    have e2 : Agr SC c h2 := e.trans (a2.agr ho)
    have hin := inv_run (S := S) (m := m) (n := n) (tr := tr) (q := qk k) y
    have hin2 := inv_stp hin ((stp_fac (S := S) (m := m) (n := n) (y := y) (tr := tr)).trans (stp_pay (S := S) (m := m) (y := y)))
    rw [lX1_walk_8]
    simp only [bX1_walk_8, bX1_walk_50, if_neg (show ¬ nI la < nI y from nI_nlt (by omega) (by omega)), if_neg (show ¬ (60 : Int32) ≤ nI y from nI_ge (b := 60) (by omega) (by decide)), ok_bv, lt_e, nI_1]
    refine (C_takeFacts D X RF hn ho e2 (ARR_cf ar ho a2) H2 (show y < 60 by omega)).mono ?_
    rintro h3 ⟨H3, a3⟩
    have e3 : Agr SC c h3 := e2.trans (a3.agr ho)
    refine (C_pays D X ho e3 H3 (show y < 60 by omega)).mono ?_
    rintro h4 ⟨H4, a4⟩
    have e4 : Agr SC c h4 := e3.trans (a4.agr ho)
    have hm : y % k < k := Nat.mod_lt _ k0
    rw [if_neg (nI_nle k0 k31), ck_of (nz_nI k0 k31), pk_rem (by omega) k0 k31]
    by_cases c1 : y % k = 0
    · rw [if_pos (by rw [c1]; rfl), ok_bv]
      refine (C_lookUp D X ho (show y < 60 by omega) e4 H4 (by have := hin2.1; omega)).mono ?_
      rintro h5 ⟨H5, a5⟩
      refine K h5 ⟨((a2.trans a3).trans a4).trans a5, ?_⟩
      rw [runS]; unfold yrR
      rw [if_pos (show qk k y = true from decide_eq_true c1)]; exact H5
    · rw [if_neg (nI_ne0 (by omega) (by omega))]
      refine K h4 ⟨(a2.trans a3).trans a4, ?_⟩
      rw [runS]; unfold yrR
      rw [if_neg (show ¬ qk k y = true by unfold qk; rw [decide_eq_true_iff]; exact c1)]
      show KC o (nL m) (payS S m y (facS S m n tr y (runS S m n tr (qk k) y).1)) ((runS S m n tr (qk k) y).2 ++ []) tr h4
      rw [List.append_nil]; exact H4
