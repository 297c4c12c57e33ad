/-- the class's tokens -/
theorem C_scanWord {N k i n : Nat} {tx : Nat → Nat} {h : Hp} (T : TXc N tx h) (hN : N ≤ 2000) (B : ∀ i, i < N → tx i < 256) (W : KWc h) (hk : h.1 103 4 = nI k) (k4 : k ≤ 400) (hi : i ≤ N) (R : isRun N tx ltrP i n) : Ok (fX9_scanWord (nI i) h) (fun p => p.1 = nI (i + n) ∧ ∃ κ pc, p.2 = wL (wI h 104 k (nI κ)) 106 k pc ∧ ((n ≤ 8 ∧ KD (wd tx i n) κ ∧ pc = lN (q32 (wd tx i n))) ∨ (8 < n ∧ κ = 1))) := by
  have hle := run_le R hi
  unfold fX9_scanWord
  rw [lt_q, lt_q]
  refine up0 (fun f j (s : Int64) => lX9_scanWord_5 f (nI i) (nI (i + j)) s h) n (by omega) (fun j s => j ≤ 8 → s = lN (q32 (wd tx i j))) 0 (fun _ => rfl) ?_ ?_
  · rintro f s hs
    have fin : Ok (bX9_scanWord_52 (nI i) (nI (i + n)) s h) (fun p => p.1 = nI (i + n) ∧ ∃ κ pc, p.2 = wL (wI h 104 k (nI κ)) 106 k pc ∧ ((n ≤ 8 ∧ KD (wd tx i n) κ ∧ pc = lN (q32 (wd tx i n))) ∨ (8 < n ∧ κ = 1))) := by
      simp only [bX9_scanWord_52, bX9_scanWord_78, pk_sub (show i ≤ i + n by omega), Nat.add_sub_cancel_left, hk, ck_of (nI_inb (show k < 401 by omega) (by decide)), nI_ix (show k < 2 ^ 31 by omega), lt_q, wI_k (show (103 : Nat) ≠ 104 by decide)]
      by_cases c : n ≤ 8
      · rw [if_pos (show nI n ≤ (8 : Int32) from nI_le (b := 8) c (by decide)), hs c]
        obtain ⟨κ, h1, h2⟩ := C_wordKind (h := h) (wd_ok R.1 c) W
        rw [h2, bi_q, hk, ck_of (nI_inb (show k < 401 by omega) (by decide)), nI_ix (show k < 2 ^ 31 by omega), ok_some]
        exact ⟨rfl, κ, _, rfl, .inl ⟨c, h1, rfl⟩⟩
      · rw [if_neg (show ¬ nI n ≤ (8 : Int32) from nI_ge (a := 8) (by omega) (by omega)), ok_some]
        exact ⟨rfl, 1, _, rfl, .inr ⟨by omega, rfl⟩⟩
    rw [lX9_scanWord_5]
    simp only [bX9_scanWord_5, T.1, C_byteAt T hN (show i + n < 2 ^ 31 by omega), bi_q, C_within]
    by_cases c : i + n < N
    · rw [if_neg (nI_ge c (by omega)), if_pos c, rL _ (B _ c), Bool.eq_false_iff.mpr (fun x => R.2 ⟨c, x⟩), if_pos (show b2 false = 0 from rfl)]
      exact fin
    · rw [if_pos (nI_le (by omega) (by omega))]
      exact fin
  · rintro f j s hj hs K
    obtain ⟨c, l⟩ := R.1 j hj
    have l' : 97 ≤ tx (i + j) ∧ tx (i + j) ≤ 122 := by unfold ltrP at l; simpa using l
    rw [lX9_scanWord_5]
    simp only [bX9_scanWord_5, T.1, C_byteAt T hN (show i + j < 2 ^ 31 by omega), bi_q, C_within, if_neg (nI_ge c (show N < 2 ^ 31 by omega)), if_pos c, rL _ (B _ c), l, b2_t, i10, ↓reduceIte, lt_q, nI_1]
    refine K _ fun h8 => ?_
    have w := w32 (wd_ok (n := j) (fun j' hj' => R.1 j' (by omega)) (by omega))
    rw [hs (by omega), show nI (tx (i + j)) - 97 = nI (tx (i + j) - 97) from pk_sub (b := 97) l'.1, nI_1, nI_l (by omega), shl5 w (by omega), wd, q32, show tx (i + j) - 97 + 1 = tx (i + j) - 96 by omega]
theorem C_scanInt {N k i n : Nat} {tx : Nat → Nat} {h : Hp} (T : TXc N tx h) (hN : N ≤ 2000) (B : ∀ i, i < N → tx i < 256) (hk : h.1 103 4 = nI k) (k4 : k ≤ 400) (hi : i ≤ N) (R : isRun N tx dgtP i n) : Ok (fX9_scanInt (nI i) h) (fun p => p.1 = nI (i + n) ∧ ∃ κ pc, p.2 = wL (wI h 104 k (nI κ)) 106 k pc ∧ ((n ≤ 4 ∧ κ = 3 ∧ pc = lN (dg tx i n)) ∨ (4 < n ∧ κ = 1))) := by
  have hle := run_le R hi
  unfold fX9_scanInt
  rw [lt_q, lt_q]
  refine up0 (fun f j (s : Int32) => lX9_scanInt_5 f (nI i) (nI (i + j)) s h) n (by omega) (fun j s => j ≤ 4 → s = nI (dg tx i j)) 0 (fun _ => rfl) ?_ ?_
  · rintro f s hs
    have fin : Ok (bX9_scanInt_50 (nI i) (nI (i + n)) s h) (fun p => p.1 = nI (i + n) ∧ ∃ κ pc, p.2 = wL (wI h 104 k (nI κ)) 106 k pc ∧ ((n ≤ 4 ∧ κ = 3 ∧ pc = lN (dg tx i n)) ∨ (4 < n ∧ κ = 1))) := by
      simp only [bX9_scanInt_50, bX9_scanInt_70, pk_sub (show i ≤ i + n by omega), Nat.add_sub_cancel_left, hk, ck_of (nI_inb (show k < 401 by omega) (by decide)), nI_ix (show k < 2 ^ 31 by omega), lt_q, wI_k (show (103 : Nat) ≠ 104 by decide)]
      by_cases c : n ≤ 4
      · have d := dg_lt (n := n) R.1
        have d2 := Nat.pow_le_pow_right (n := 10) (by decide) c
        rw [if_pos (show nI n ≤ (4 : Int32) from nI_le (b := 4) c (by decide)), hs c, ok_some, nI_l (by omega)]
        exact ⟨rfl, 3, _, rfl, .inl ⟨c, rfl, rfl⟩⟩
      · rw [if_neg (show ¬ nI n ≤ (4 : Int32) from nI_ge (a := 4) (by omega) (by omega)), ok_some]
        exact ⟨rfl, 1, _, rfl, .inr ⟨by omega, rfl⟩⟩
    rw [lX9_scanInt_5]
    simp only [bX9_scanInt_5, T.1, C_byteAt T hN (show i + n < 2 ^ 31 by omega), bi_q, C_within]
    by_cases c : i + n < N
    · rw [if_neg (nI_ge c (by omega)), if_pos c, rD _ (B _ c), Bool.eq_false_iff.mpr (fun x => R.2 ⟨c, x⟩), if_pos (show b2 false = 0 from rfl)]
      exact fin
    · rw [if_pos (nI_le (by omega) (by omega))]
      exact fin
  · rintro f j s hj hs K
    obtain ⟨c, l⟩ := R.1 j hj
    have l' : 48 ≤ tx (i + j) ∧ tx (i + j) ≤ 57 := by unfold dgtP at l; simpa using l
    rw [lX9_scanInt_5]
    simp only [bX9_scanInt_5, T.1, C_byteAt T hN (show i + j < 2 ^ 31 by omega), bi_q, C_within, if_neg (nI_ge c (show N < 2 ^ 31 by omega)), if_pos c, rD _ (B _ c), l, b2_t, i10, ↓reduceIte, lt_q, nI_1]
    refine K _ fun h4 => ?_
    rw [hs (by omega), show nI (dg tx i j) * 10 = nI (dg tx i j * 10) from pk_mul _ 10, nI_add, show nI (dg tx i j * 10 + tx (i + j)) - 48 = nI (dg tx i j * 10 + tx (i + j) - 48) from pk_sub (b := 48) (by omega), dg]
    congr 1
    omega
/-- signs -/
def sK (x : Nat) (f : Bool) : Nat := if x = 33 then (if f = true then 10 else 1) else if x = 40 then 14 else if x = 41 then 15 else if x = 42 then 7 else if x = 43 then 5 else if x = 45 then 6 else if x = 47 then 8 else if x = 59 then 4 else if x = 60 then (if f = true then 12 else 11) else if x = 61 then (if f = true then 9 else 13) else 1
def adv (κ : Nat) : Nat := if κ = 9 then 2 else if κ = 10 then 2 else if κ = 12 then 2 else 1
theorem eqI {x n : Nat} (hx : x < 256) (hn : n < 256) : (nI x = nI n) = (x = n) := propext (nI_eq (by omega) (by omega))
theorem C_signKind {x : Nat} (hx : x < 256) (f : Bool) (h : Hp) : fX9_signKind (nI x) (b2 f) h = some (nI (sK x f), h) := by
  have m1 : ¬ nI x = (-1 : Int32) := fun e => by
    have := nI_pos' (show x < 2 ^ 31 by omega)
    rw [e] at this
    exact absurd this (by decide)
  unfold fX9_signKind sK
  rw [if_neg m1]
  simp only [show (nI x = (33 : Int32)) = (x = 33) from eqI (n := 33) hx (by decide), show (nI x = (40 : Int32)) = (x = 40) from eqI (n := 40) hx (by decide), show (nI x = (41 : Int32)) = (x = 41) from eqI (n := 41) hx (by decide), show (nI x = (42 : Int32)) = (x = 42) from eqI (n := 42) hx (by decide), show (nI x = (43 : Int32)) = (x = 43) from eqI (n := 43) hx (by decide), show (nI x = (45 : Int32)) = (x = 45) from eqI (n := 45) hx (by decide), show (nI x = (47 : Int32)) = (x = 47) from eqI (n := 47) hx (by decide), show (nI x = (59 : Int32)) = (x = 59) from eqI (n := 59) hx (by decide), show (nI x = (60 : Int32)) = (x = 60) from eqI (n := 60) hx (by decide), show (nI x = (61 : Int32)) = (x = 61) from eqI (n := 61) hx (by decide), b2_0]
  by_cases c33 : x = 33
  · subst c33; cases f <;> rfl
  simp only [if_neg c33]
  by_cases c40 : x = 40
  · subst c40; cases f <;> rfl
  simp only [if_neg c40]
  by_cases c41 : x = 41
  · subst c41; cases f <;> rfl
  simp only [if_neg c41]
  by_cases c42 : x = 42
  · subst c42; cases f <;> rfl
  simp only [if_neg c42]
  by_cases c43 : x = 43
  · subst c43; cases f <;> rfl
  simp only [if_neg c43]
  by_cases c45 : x = 45
  · subst c45; cases f <;> rfl
  simp only [if_neg c45]
  by_cases c47 : x = 47
  · subst c47; cases f <;> rfl
  simp only [if_neg c47]
  by_cases c59 : x = 59
  · subst c59; cases f <;> rfl
  simp only [if_neg c59]
  by_cases c60 : x = 60
  · subst c60; cases f <;> rfl
  simp only [if_neg c60]
  by_cases c61 : x = 61
  · subst c61; cases f <;> rfl
  simp only [if_neg c61]
  rfl
