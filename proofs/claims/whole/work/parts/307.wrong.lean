theorem any_s {f : Nat → Bool} {i : Nat} : (List.range (i + 1)).any f = ((List.range i).any f || f i) := by
  rw [List.range_succ, List.any_append, List.any_cons, List.any_nil, Bool.or_false]
theorem any_0 {f : Nat → Bool} : (List.range 0).any f = false := rfl
theorem any_t {f : Nat → Bool} {n : Nat} : (List.range n).any f = true ↔ ∃ k, k < n ∧ f k = true := by
  rw [List.any_eq_true]
  exact ⟨fun ⟨k, h1, h2⟩ => ⟨k, List.mem_range.mp h1, h2⟩, fun ⟨k, h1, h2⟩ => ⟨k, List.mem_range.mpr h1, h2⟩⟩
def didF (m : Hp) (n : Nat) (y p : Int32) (k : Nat) : Bool := decide (m.1 40 k = 1) && decide (m.1 42 k = p) && decide (m.1 41 k ≤ y) && cntS m n k
def didS (m : Hp) (n : Nat) (y p : Int32) : Bool := (List.range n).any (didF m n y p)
def wroS (m : Hp) (n : Nat) (y w : Int32) (p : Nat) : Bool := if w = 0 then decide (prI m ≤ weiS m n (nI p) y) && !didS m n y (nI p) else didS m n y (nI p) && !decide (prI m ≤ weiS m n (nI p) y)
theorem M_wrongI {P L F n p : Nat} {c m h : Hp} {Q : Int32 × Hp → Prop} {r : Int32 → Int32 → Int32 → Int32 → Int32 → Hp → Option (Int32 × Hp)} (R : RFn P L F c m) (e : Agr SM m h) (hn : n ≤ F) (y w acc : Int32) (b : Bool)
    (K : Ok (r y (nI n) w (if (if w = 0 then b && !didS m n y (nI p) else didS m n y (nI p) && !b) = true then acc ||| ((1 : Int32) <<< (nI p &&& 31)) else acc) (nI (p + 1)) h) Q) :
    Ok (lX12_wrong_79 r FU y (nI n) w acc (nI p) (b2 b) 0 0 h) Q := by
  have h60 := R.1
  refine up0 (fun f i d => lX12_wrong_79 r f y (nI n) w acc (nI p) (b2 b) d (nI i) h) n (by omega) (fun i d => d = b2 ((List.range i).any (didF m n y (nI p)))) 0 rfl ?_ ?_
  · intro f d hI
    simp only [lX12_wrong_79, bX12_wrong_79, bX12_wrong_174, bX12_wrong_165, if_pos (nI_le (Nat.le_refl n) (show n < 2 ^ 31 by omega)), lt_e, nI_1]
    rw [hI]
    change Ok (r y (nI n) w (if (if w = 0 then b && !didS m n y (nI p) else didS m n y (nI p) && !b) = true then acc ||| ((1 : Int32) <<< (nI p &&& 31)) else acc) (nI (p + 1)) h) Q at K
    rw [show (List.range n).any (didF m n y (nI p)) = didS m n y (nI p) from rfl]
    revert K
    cases b <;> cases didS m n y (nI p) <;> by_cases hw : w = 0 <;> simp [hw, b2_t, b2_f]
  · intro f i d hi hI K'
    simp only [lX12_wrong_79, bX12_wrong_79, bX12_wrong_132, if_neg (nI_ge hi (show n < 2 ^ 31 by omega)), ck_of (nI_inb (n := i) (N := 60) (by omega) (by decide)), nI_ix (show i < 2 ^ 31 by omega), e.i 40 _ rfl, e.i 41 _ rfl, e.i 42 _ rfl, M_counts R e hn hi, bi_some, lt_e, nI_1, b2_0]
    rw [hI]
    have st := any_s (f := didF m n y (nI p)) (i := i)
    repeat' split
    · apply K'; rw [st]
      have : didF m n y (nI p) i = false := by
        unfold didF
        rw [decide_eq_false (p := m.1 41 i ≤ y) (i_nle.mpr ‹_›)]; simp
      rw [this, Bool.or_false]
    · apply K'; rw [st]
      have : didF m n y (nI p) i = false := by unfold didF; simp_all
      rw [this, Bool.or_false]
    · apply K'; rw [st]
      have : didF m n y (nI p) i = true := by unfold didF; simp_all [i_nlt]
      rw [this, Bool.or_true]; rfl
    · apply K'; rw [st]
      have : didF m n y (nI p) i = false := by unfold didF; simp_all
      rw [this, Bool.or_false]
    · apply K'; rw [st]
      have : didF m n y (nI p) i = false := by unfold didF; simp_all
      rw [this, Bool.or_false]
/-- a mask of those that are so -/
def mskS (f : Nat → Bool) (n : Nat) : Int32 := forN n (fun i a => if f i = true then a ||| ((1 : Int32) <<< (nI i &&& 31)) else a) 0
theorem mskS_s {f : Nat → Bool} {n : Nat} : mskS f (n + 1) = if f n = true then mskS f n ||| ((1 : Int32) <<< (nI n &&& 31)) else mskS f n := rfl
theorem bit_msk {f : Nat → Bool} {i : Nat} (hi : i < 32) : ∀ {n : Nat}, n ≤ 32 → bit (mskS f n) (nI i) = (decide (i < n) && f i) := by
  intro n
  induction n with
  | zero => intro _; exact bit_0 hi
  | succ n ih =>
    intro hn
    have ih := ih (by omega)
    rw [mskS_s]
    by_cases hf : f n = true
    · rw [if_pos hf, bit_or hi, bit_1 (by omega) hi, ih]
      by_cases e : n = i
      · subst e; simp [hf]
      · rw [decide_eq_false e, Bool.or_false]
        congr 1
        exact decide_eq_decide.mpr (by omega)
    · rw [if_neg hf, ih]
      by_cases e : n = i
      · subst e; simp [Bool.eq_false_iff.mpr hf]
      · congr 1
        exact decide_eq_decide.mpr (by omega)
theorem M_wrong {F n : Nat} {c m h : Hp} (D : RD0 c m) (R : RFn (nP m) (nL m) F c m) (e : Agr SM m h) (hn : n ≤ F) (y w : Int32) : lX12_wrong_32 FU y (nI n) w 0 0 h = some (mskS (wroS m n y w) (nP m), h) := by
  obtain ⟨⟨d1, d2⟩, ⟨p1, p2, p3⟩, _⟩ := D
  rw [← ok_eq]
  refine up0 (fun f i a => lX12_wrong_32 f y (nI n) w a (nI i) h) (nP m) (by omega) (fun i a => a = mskS (wroS m n y w) i) 0 rfl ?_ ?_
  · intro f a hI
    simp only [lX12_wrong_32, bX12_wrong_32, e.i 0 18 rfl, d2, ck_of (nI_inb d1 (by decide)), nI_ix (show lv m < 2 ^ 31 by omega), e.i 11 _ rfl, p2, if_pos (nI_le (Nat.le_refl (nP m)) (show nP m < 2 ^ 31 by omega)), ok_some]
    rw [hI]
  · intro f p a hp hI K
    simp only [lX12_wrong_32, bX12_wrong_32, bX12_wrong_71, e.i 0 18 rfl, d2, ck_of (nI_inb d1 (by decide)), nI_ix (show lv m < 2 ^ 31 by omega), e.i 11 _ rfl, p2, if_neg (nI_ge hp (show nP m < 2 ^ 31 by omega)), M_weightOf R e hn, bi_some, e.i 25 _ rfl, lt_e]
    have K2 := K (mskS (wroS m n y w) (p + 1)) rfl
    rw [mskS_s, ← hI] at K2
    split
    · refine M_wrongI R e hn y w a false ?_
      have hlt : ¬ prI m ≤ weiS m n (nI p) y := i_nle.mpr ‹_›
      unfold wroS at K2
      rw [decide_eq_false hlt] at K2
      exact K2
    · refine M_wrongI R e hn y w a true ?_
      have hlt : prI m ≤ weiS m n (nI p) y := i_nlt.mp ‹_›
      unfold wroS at K2
      rw [decide_eq_true hlt] at K2
      exact K2
theorem C_diedBy {P L F n : Nat} {c m h : Hp} (R : RFn P L F c m) (hP : P ≤ 10) (e : Agr SC c h) (hn : n ≤ F) (y : Int32) : ∃ A, fX3_diedBy y (nI n) h = some (A, h) ∧ ∀ i, i < 32 → bit A (nI i) = didS m n y (nI i) := by
  have h60 := R.1
  obtain ⟨B, e1, hB⟩ := C_annulled R e hn
  have key : Ok (fX3_diedBy y (nI n) h) (fun p => p.2 = h ∧ ∀ i, i < 32 → bit p.1 (nI i) = didS m n y (nI i)) := by
    unfold fX3_diedBy
    rw [e1, bi_some]
    simp only [lt_e]
    refine up0 (fun f i (A : Int32) => lX3_diedBy_12 f y (nI n) B A (nI i) h) n (by omega) (fun i A => ∀ q, q < 32 → bit A (nI q) = (List.range i).any (didF m n y (nI q))) 0 ?_ ?_ ?_
    · intro q hq
      rw [bit_0 hq]; rfl
    · intro f A hI
      simp only [lX3_diedBy_12, bX3_diedBy_12, if_pos (nI_le (Nat.le_refl n) (show n < 2 ^ 31 by omega)), ok_some]
      exact ⟨trivial, hI⟩
    · intro f i A hi hI K
      obtain ⟨z1, z2, z3, z4⟩ := R.2.2.2.1 i (by omega)
      simp only [lX3_diedBy_12, bX3_diedBy_12, bX3_diedBy_64, if_neg (nI_ge hi (show n < 2 ^ 31 by omega)), ck_of (nI_inb (n := i) (N := 60) (by omega) (by decide)), nI_ix (show i < 2 ^ 31 by omega), e.i 153 _ rfl, e.i 154 _ rfl, e.i 155 _ rfl, z1, z2, z3, C_counts R e hn hi hB, bi_some, lt_e, nI_1, b2_0]
      have no : (∀ q, didF m n y (nI q) i = false) → Ok (lX3_diedBy_12 f y (nI n) B A (nI (i + 1)) h) (fun p => p.2 = h ∧ ∀ i, i < 32 → bit p.1 (nI i) = didS m n y (nI i)) := fun hno => K A fun q hq => by
        rw [any_s, hno q, Bool.or_false]; exact hI q hq
      repeat' split
      · exact no fun q => by
          unfold didF
          rw [decide_eq_false (p := m.1 41 i ≤ y) (i_nle.mpr ‹_›)]; simp
      · exact no fun q => by unfold didF; simp_all
      · apply K
        intro q hq
        obtain ⟨t, b, t6, g1, g2, g3⟩ := R.2.2.2.2 i (by omega)
        have ht : t = 1 := (nI_eq (b := 1) (by omega) (by decide)).mp (g1.symm.trans ‹m.1 40 i = 1›)
        subst ht
        rw [if_neg (by decide)] at g3
        have hb : b < P := g3.2
        rw [bit_or hq, g2, bit_1 (by omega) hq, hI q hq, any_s]
        congr 1
        unfold didF
        rw [g2, Bool.eq_iff_iff]
        simp_all [i_nlt, nI_eq (a := b) (b := q) (by omega) (by omega)]
      · exact no fun q => by unfold didF; simp_all
  obtain ⟨⟨A, h'⟩, e1, e2, e3⟩ := key
  simp only at e2 e3
  subst e2
  exact ⟨A, e1, e3⟩
theorem didS_P {P L F n : Nat} {c m : Hp} (R : RFn P L F c m) (hn : n ≤ F) {y : Int32} {i : Nat} (hi : i < 2 ^ 31) (hP : P ≤ i) : didS m n y (nI i) = false := by
  have h60 := R.1
  rw [Bool.eq_false_iff]
  intro hd
  obtain ⟨k, hk, h1⟩ := any_t.mp hd
  unfold didF at h1
  simp only [Bool.and_eq_true, decide_eq_true_iff] at h1
  obtain ⟨⟨⟨h1, h2⟩, _⟩, _⟩ := h1
  obtain ⟨t, b, t6, g1, g2, g3⟩ := R.2.2.2.2 k (by omega)
  have ht : t = 1 := (nI_eq (b := 1) (by omega) (by decide)).mp (g1.symm.trans h1)
  subst ht
  rw [if_neg (by decide)] at g3
  have hb : b < P := g3.2
  have : i = b := by
    have := h2.symm.trans g2
    have hb2 : b < 2 ^ 31 := by omega
    exact (nI_eq hi hb2).mp this
  omega
theorem C_wrong {F n : Nat} {c m h : Hp} (D : RD0 c m) (R : RFn (nP m) (nL m) F c m) (e : Agr SC c h) (hn : n ≤ F) (y w : Int32) : lX11_wrong_33 FU y (nI n) w 0 0 h = some (mskS (wroS m n y w) (nP m), h) := by
  obtain ⟨⟨d1, d2⟩, ⟨p1, p2, p3⟩, _, _, _, d6, _⟩ := D
  rw [← ok_eq]
  refine up0 (fun f i a => lX11_wrong_33 f y (nI n) w a (nI i) h) (nP m) (by omega) (fun i a => a = mskS (fun p => decide (prI m ≤ weiS m n (nI p) y)) i) 0 rfl ?_ ?_
  · intro f a hI
    obtain ⟨A, e1, hA⟩ := C_diedBy R p1 e hn y
    simp only [lX11_wrong_33, bX11_wrong_33, e.i 108 6 rfl, p3, if_pos (nI_le (Nat.le_refl (nP m)) (show nP m < 2 ^ 31 by omega)), e1, bi_some, lt_e]
    have key : (if w = 0 then a &&& (A ^^^ (-1)) else A &&& (a ^^^ (-1))) = mskS (wroS m n y w) (nP m) := by
      apply bit_ext
      intro i hi
      rw [bit_msk hi (by omega), hI]
      have := hA i hi
      unfold wroS
      by_cases hw : w = 0
      · rw [if_pos hw, if_pos hw, bit_and hi, bit_not hi, this, bit_msk hi (by omega), Bool.and_assoc]
      · rw [if_neg hw, if_neg hw, bit_and hi, bit_not hi, this, bit_msk hi (by omega)]
        by_cases hp : i < nP m
        · rw [decide_eq_true hp]; simp
        · rw [decide_eq_false hp, didS_P R hn (by omega) (by omega)]; simp
    rw [← key]
    by_cases hw : w = 0
    · rw [if_pos hw, if_pos hw, ok_some]
    · rw [if_neg hw, if_neg hw, ok_some]
  · intro f p a hp hI K
    simp only [lX11_wrong_33, bX11_wrong_33, bX11_wrong_75, e.i 108 6 rfl, p3, if_neg (nI_ge hp (show nP m < 2 ^ 31 by omega)), C_weightOf R e hn, bi_some, e.i 108 10 rfl, d6, lt_e, nI_1]
    split
    · apply K
      rw [mskS_s, if_neg, hI]
      rw [decide_eq_true_iff]; exact i_nle.mpr ‹_›
    · apply K
      rw [mskS_s, if_pos, hI]
      rw [decide_eq_true_iff]; exact i_nlt.mp ‹_›
theorem sim_wrong0 {F : Nat} {c m : Hp} (a1 a2 a3 : Int32) (D : RD0 c m) (R : RFn (nP m) (nL m) F c m) : ∃ r, fX11_wrong a1 a2 a3 c = some (r, c) ∧ fX12_wrong a1 a2 a3 m = some (r, m) := by
  have h60 := R.1
  simp only [fX11_wrong, fX12_wrong, M_isYear, C_isYear, M_isKnown R .refl, C_isKnown R .refl, M_in, C_within, bi_some, bi_id, lt_e]
  cases hy : rng a1 0 59
  · exact ⟨-1, rfl, rfl⟩
  · cases hn : rng a2 0 (nI F)
    · exact ⟨-1, rfl, rfl⟩
    · cases hw : rng a3 0 1
      · exact ⟨-1, rfl, rfl⟩
      · obtain ⟨n, h1, rfl⟩ := rng_0 (by omega) hn
        simp only [b2_t, i10, ↓reduceIte]
        rw [M_wrong D R .refl h1, C_wrong D R .refl h1]
        exact ⟨_, rfl, rfl⟩
