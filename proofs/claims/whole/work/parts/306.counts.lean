/-- which facts count -/
def annS (m : Hp) (n k : Nat) : Bool := (List.range n).any (fun j => decide (m.1 40 j = 6) && decide (m.1 42 j = nI k))
def cntS (m : Hp) (n k : Nat) : Bool := decide (¬ m.1 40 k = 6) && !annS m n k
theorem annS_t {m : Hp} {n k : Nat} : annS m n k = true ↔ ∃ j, j < n ∧ m.1 40 j = 6 ∧ m.1 42 j = nI k := by
  unfold annS
  rw [List.any_eq_true]
  constructor
  · rintro ⟨j, hj, h⟩
    rw [Bool.and_eq_true, decide_eq_true_iff, decide_eq_true_iff] at h
    exact ⟨j, List.mem_range.mp hj, h⟩
  · rintro ⟨j, hj, h1, h2⟩
    exact ⟨j, List.mem_range.mpr hj, by rw [decide_eq_true h1, decide_eq_true h2]; rfl⟩
theorem ann_lt {P L F : Nat} {c m : Hp} (h : RFn P L F c m) {j k : Nat} (hj : j < F) (hk : k < 2 ^ 31) (h6 : m.1 40 j = 6) (hw : m.1 42 j = nI k) : k < j := by
  have h60 := h.1
  obtain ⟨t, b, t6, e1, e2, e3⟩ := h.2.2.2.2 j hj
  have : t = 6 := (nI_eq (b := 6) (by omega) (by decide)).mp (e1.symm.trans h6)
  subst this
  rw [if_pos rfl] at e3
  have : b = k := (nI_eq (by omega) hk).mp (e2.symm.trans hw)
  omega
theorem M_counts {P L F n k : Nat} {c m h : Hp} (R : RFn P L F c m) (e : Agr SM m h) (hn : n ≤ F) (hk : k < n) : fX12_counts (nI k) (nI n) h = some (b2 (cntS m n k), h) := by
  have h60 := R.1
  unfold fX12_counts
  rw [ck_of (nI_inb (n := k) (N := 60) (by omega) (by decide)), nI_ix (by omega), e.i 40 _ rfl]
  unfold cntS
  by_cases h6 : m.1 40 k = 6
  · rw [if_pos h6, ck_of zb_0, decide_eq_false (fun x => x h6)]; rfl
  · rw [if_neg h6, decide_eq_true h6, Bool.true_and, lt_e, nI_1, ← ok_eq]
    refine upto (fun f i (_ : Unit) => lX12_counts_17 f (nI k) (nI n) (nI i) h) n (fun i _ => ∀ j, j < i → ¬ (m.1 40 j = 6 ∧ m.1 42 j = nI k)) ?_ ?_ (n - (k + 1)) (k + 1) () FU rfl (by omega) (show n - (k + 1) < 20000 by omega) ?_
    · intro f _ hI
      simp only [lX12_counts_17, bX12_counts_17, if_pos (nI_le (Nat.le_refl n) (show n < 2 ^ 31 by omega)), ck_of zb_1, ok_some]
      have : annS m n k = false := by
        rw [Bool.eq_false_iff]
        intro x
        obtain ⟨j, hj, a⟩ := annS_t.mp x
        exact hI j hj a
      rw [this]; rfl
    · intro f i _ hi hI K
      simp only [lX12_counts_17, bX12_counts_17, bX12_counts_45, if_neg (nI_ge hi (show n < 2 ^ 31 by omega)), ck_of (nI_inb (n := i) (N := 60) (by omega) (by decide)), nI_ix (show i < 2 ^ 31 by omega), e.i 40 _ rfl, e.i 42 _ rfl, lt_e, nI_1, ck_of zb_0]
      have K' : ¬ (m.1 40 i = 6 ∧ m.1 42 i = nI k) → Ok (lX12_counts_17 f (nI k) (nI n) (nI (i + 1)) h) (fun x => x = (b2 (!annS m n k), h)) := fun hn => K () (fun a ha => by
        by_cases ea : a = i
        · subst ea; exact hn
        · exact hI a (by omega))
      by_cases e1 : m.1 40 i = 6
      · rw [if_pos e1]
        by_cases e2 : m.1 42 i = nI k
        · rw [if_pos e2, ok_some, annS_t.mpr ⟨i, hi, e1, e2⟩]; rfl
        · rw [if_neg e2]; exact K' fun x => e2 x.2
      · rw [if_neg e1]; exact K' fun x => e1 x.1
    · rintro j hj ⟨e1, e2⟩
      have := ann_lt R (show j < F by omega) (show k < 2 ^ 31 by omega) e1 e2
      omega
theorem C_annulled {P L F n : Nat} {c m h : Hp} (R : RFn P L F c m) (e : Agr SC c h) (hn : n ≤ F) : ∃ A, fX3_annulledBy (nI n) h = some (A, h) ∧ ∀ i, i < 64 → bitL A i = annS m n i := by
  have h60 := R.1
  have key : Ok (fX3_annulledBy (nI n) h) (fun p => p.2 = h ∧ ∀ i, i < 64 → bitL p.1 i = annS m n i) := by
    refine up0 (fun f i (A : Int64) => lX3_annulledBy_5 f (nI n) A (nI i) h) n (by omega) (fun i A => ∀ q, q < 64 → bitL A q = annS m i q) 0 ?_ ?_ ?_
    · intro q _
      rw [bitL_0]; rfl
    · intro f A hI
      simp only [lX3_annulledBy_5, bX3_annulledBy_5, if_pos (nI_le (Nat.le_refl n) (show n < 2 ^ 31 by omega)), ok_some]
      exact ⟨trivial, hI⟩
    · intro f i A hi hI K
      obtain ⟨z1, z2, z3, z4⟩ := R.2.2.2.1 i (by omega)
      simp only [lX3_annulledBy_5, bX3_annulledBy_5, bX3_annulledBy_35, if_neg (nI_ge hi (show n < 2 ^ 31 by omega)), ck_of (nI_inb (n := i) (N := 60) (by omega) (by decide)), nI_ix (show i < 2 ^ 31 by omega), e.i 153 _ rfl, e.i 155 _ rfl, z1, z3, lt_e, nI_1]
      have st : ∀ q, q < 64 → annS m (i + 1) q = (annS m i q || (decide (m.1 40 i = 6) && decide (m.1 42 i = nI q))) := by
        intro q _
        unfold annS
        rw [List.range_succ, List.any_append, List.any_cons, List.any_nil, Bool.or_false]
      by_cases e1 : m.1 40 i = 6
      · rw [if_pos e1]
        apply K
        intro q hq
        obtain ⟨t, b, t6, g1, g2, g3⟩ := R.2.2.2.2 i (by omega)
        have : t = 6 := (nI_eq (b := 6) (by omega) (by decide)).mp (g1.symm.trans e1)
        subst this
        rw [if_pos rfl] at g3
        rw [st q hq, g2, bitL_or (by omega), hI q hq, decide_eq_true e1, Bool.true_and]
        congr 1
        exact decide_eq_decide.mpr (nI_eq (by omega) (by omega)).symm
      · rw [if_neg e1]
        apply K
        intro q hq
        rw [st q hq, hI q hq, decide_eq_false e1, Bool.false_and, Bool.or_false]
  obtain ⟨⟨A, h'⟩, e1, e2, e3⟩ := key
  simp only at e2 e3
  subst e2
  exact ⟨A, e1, e3⟩
theorem rng_y {P L F i : Nat} {c m : Hp} (R : RFn P L F c m) (hi : i < F) : rng (m.1 41 i) 0 59 = decide (¬ m.1 40 i = 6) := by
  obtain ⟨t, b, t6, g1, g2, g3⟩ := R.2.2.2.2 i hi
  by_cases h6 : t = 6
  · subst h6
    rw [if_pos rfl] at g3
    rw [g3.1, g1]; rfl
  · rw [if_neg h6] at g3
    obtain ⟨⟨q, hq, gq⟩, _⟩ := g3
    rw [gq, show rng (nI q) 0 59 = true from (rng_c (a := 0) (n := 59) (by decide) (by decide)).mpr ⟨q, by omega, by omega, rfl⟩, decide_eq_true]
    intro x
    exact h6 ((nI_eq (b := 6) (by omega) (by decide)).mp (g1.symm.trans x))
theorem C_counts {P L F n k : Nat} {c m h : Hp} {A : Int64} (R : RFn P L F c m) (e : Agr SC c h) (hn : n ≤ F) (hk : k < n) (hA : ∀ i, i < 64 → bitL A i = annS m n i) : fX3_counts (nI k) A h = some (b2 (cntS m n k), h) := by
  have h60 := R.1
  obtain ⟨z1, z2, z3, z4⟩ := R.2.2.2.1 k (by omega)
  unfold fX3_counts cntS
  rw [ck_of (nI_inb (n := k) (N := 60) (by omega) (by decide)), nI_ix (by omega), e.i 154 _ rfl, z2, C_within, rng_y R (by omega), bi_some]
  by_cases h6 : m.1 40 k = 6
  · rw [decide_eq_false (fun x => x h6)]; rfl
  · rw [decide_eq_true h6]
    have hb := bitL_g A (i := k) (by omega)
    rw [hA k (by omega)] at hb
    simp only [b2_t, i10, ↓reduceIte, hb, ck_of zb_0, ck_of zb_1, Bool.true_and]
    cases annS m n k <;> rfl
def weiF (m : Hp) (n : Nat) (p y : Int32) (k : Nat) (a : Int32) : Int32 := if m.1 40 k = 0 ∧ m.1 42 k = p ∧ m.1 41 k ≤ y ∧ cntS m n k = true then a + m.1 43 k else a
def weiS (m : Hp) (n : Nat) (p y : Int32) : Int32 := forN n (weiF m n p y) 0
theorem M_weightOf {P L F n : Nat} {c m h : Hp} (R : RFn P L F c m) (e : Agr SM m h) (hn : n ≤ F) (p y : Int32) : fX12_weightOf p y (nI n) h = some (weiS m n p y, h) := by
  have h60 := R.1
  rw [← ok_eq]
  refine up0 (fun f i a => lX12_weightOf_6 f p y (nI n) a (nI i) h) n (by omega) (fun i a => a = forN i (weiF m n p y) 0) 0 rfl ?_ ?_
  · intro f a hI
    simp only [lX12_weightOf_6, bX12_weightOf_6, if_pos (nI_le (Nat.le_refl n) (show n < 2 ^ 31 by omega)), ok_some]
    rw [hI]; rfl
  · intro f i a hi hI K
    simp only [lX12_weightOf_6, bX12_weightOf_6, bX12_weightOf_66, if_neg (nI_ge hi (show n < 2 ^ 31 by omega)), ck_of (nI_inb (n := i) (N := 60) (by omega) (by decide)), nI_ix (show i < 2 ^ 31 by omega), e.i 40 _ rfl, e.i 41 _ rfl, e.i 42 _ rfl, e.i 43 _ rfl, M_counts R e hn hi, bi_some, lt_e, nI_1, b2_0]
    rw [hI]
    repeat' split
    all_goals (apply K; rw [forN_s]; unfold weiF; simp_all [i_nlt])
    all_goals (intro hh; exact absurd hh (i_nle.mpr ‹y < m.1 41 i›))
theorem C_weightOf {P L F n : Nat} {c m h : Hp} (R : RFn P L F c m) (e : Agr SC c h) (hn : n ≤ F) (p y : Int32) : fX3_weightOf p y (nI n) h = some (weiS m n p y, h) := by
  have h60 := R.1
  obtain ⟨A, e1, hA⟩ := C_annulled R e hn
  unfold fX3_weightOf
  rw [e1, bi_some]
  simp only [lt_e]
  rw [← ok_eq]
  refine up0 (fun f i a => lX3_weightOf_13 f p y (nI n) A a (nI i) h) n (by omega) (fun i a => a = forN i (weiF m n p y) 0) 0 rfl ?_ ?_
  · intro f a hI
    simp only [lX3_weightOf_13, bX3_weightOf_13, if_pos (nI_le (Nat.le_refl n) (show n < 2 ^ 31 by omega)), ok_some]
    rw [hI]; rfl
  · intro f i a hi hI K
    obtain ⟨z1, z2, z3, z4⟩ := R.2.2.2.1 i (by omega)
    simp only [lX3_weightOf_13, bX3_weightOf_13, bX3_weightOf_74, if_neg (nI_ge hi (show n < 2 ^ 31 by omega)), ck_of (nI_inb (n := i) (N := 60) (by omega) (by decide)), nI_ix (show i < 2 ^ 31 by omega), e.i 153 _ rfl, e.i 154 _ rfl, e.i 155 _ rfl, e.i 156 _ rfl, z1, z2, z3, z4, C_counts R e hn hi hA, bi_some, lt_e, nI_1, b2_0]
    rw [hI]
    repeat' split
    all_goals (apply K; rw [forN_s]; unfold weiF; simp_all [i_nlt])
    all_goals (intro hh; exact absurd hh (i_nle.mpr ‹y < m.1 41 i›))
theorem M_isKnown {P L F : Nat} {c m h : Hp} (R : RFn P L F c m) (e : Agr SM m h) (x : Int32) : fX12_isKnown x h = some (b2 (rng x 0 (nI F)), h) := by
  unfold fX12_isKnown
  rw [e.i 0 59 rfl, R.2.2.1, M_in]
  exact ck_of (b2_zb _)
theorem C_isKnown {P L F : Nat} {c m h : Hp} (R : RFn P L F c m) (e : Agr SC c h) (x : Int32) : fX11_isKnown x h = some (b2 (rng x 0 (nI F)), h) := by
  unfold fX11_isKnown
  rw [e.i 152 6 rfl, R.2.1, C_within]
  exact ck_of (b2_zb _)
theorem rng_0 {x : Int32} {n : Nat} (hn : n < 2 ^ 31) (h : rng x 0 (nI n) = true) : ∃ j : Nat, j ≤ n ∧ x = nI j := by
  obtain ⟨j, _, h1, h2⟩ := (rng_c (a := 0) (by decide) hn).mp h
  exact ⟨j, h1, h2⟩
theorem sim_weighs0 {F : Nat} {c m : Hp} (a1 a2 a3 : Int32) (D : RD0 c m) (R : RFn (nP m) (nL m) F c m) : ∃ r, fX11_weighs a1 a2 a3 c = some (r, c) ∧ fX12_weighs a1 a2 a3 m = some (r, m) := by
  have h60 := R.1
  simp only [fX11_weighs, fX12_weighs, M_isPerson D .refl, C_isPerson D .refl, M_isYear, C_isYear, M_isKnown R .refl, C_isKnown R .refl, bi_some, bi_id]
  cases hp : rng a1 0 (nI (nP m) - 1)
  · exact ⟨-1, rfl, rfl⟩
  · cases hy : rng a2 0 59
    · exact ⟨-1, rfl, rfl⟩
    · cases hn : rng a3 0 (nI F)
      · exact ⟨-1, rfl, rfl⟩
      · obtain ⟨n, h1, rfl⟩ := rng_0 (by omega) hn
        rw [M_weightOf R .refl h1, C_weightOf R .refl h1]
        exact ⟨_, rfl, rfl⟩
