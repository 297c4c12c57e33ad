/-- a row is filled -/
theorem C_fill {k n : Nat} (hn : n < 20000) (v : Int32) (h : Hp) : Ok (fJ7_fill_53178 k n v h) (fun h' => (∀ j, j < n → h'.1 k j = v) ∧ (∀ a b, a ≠ k → h'.1 a b = h.1 a b) ∧ h'.2 = h.2) := by
  refine up0 (fun f i h => lJ7_fill_53178_5 k n f v (nI i) (nI n) h) n hn (fun i h' => (∀ j, j < i → h'.1 k j = v) ∧ (∀ a b, a ≠ k → h'.1 a b = h.1 a b) ∧ h'.2 = h.2) h ⟨fun j hj => absurd hj (by omega), fun _ _ _ => rfl, rfl⟩ ?_ ?_
  · intro f h' hI
    simp only [lJ7_fill_53178_5, bJ7_fill_53178_5, if_pos (nI_le (Nat.le_refl n) (show n < 2 ^ 31 by omega)), ok_some]
    exact hI
  · rintro f i h' hi ⟨h1, h2, h3⟩ K
    simp only [lJ7_fill_53178_5, bJ7_fill_53178_5, if_neg (nI_ge hi (show n < 2 ^ 31 by omega)), ck_of (nI_inb hi (show n < 2 ^ 31 by omega)), nI_ix (show i < 2 ^ 31 by omega), lt_e, nI_1]
    refine K _ ⟨fun j hj => ?_, fun a b ha => ?_, h3⟩
    · by_cases e : j = i
      · subst e; exact wI_s
      · rw [wI_j e]; exact h1 j (by omega)
    · rw [wI_k ha]; exact h2 a b ha
def yr (m : Hp) (j : Nat) : Nat := ix (m.1 41 j)
def cyc (m : Hp) (n y i : Nat) : Nat := (List.range i).countP (fun j => cntS m n j && decide (yr m j = y))
def pre (m : Hp) (n y : Nat) : Nat := (List.range n).countP (fun j => cntS m n j && decide (yr m j < y))
theorem cyc_0 {m : Hp} {n y : Nat} : cyc m n y 0 = 0 := rfl
theorem cyc_s {m : Hp} {n y i : Nat} : cyc m n y (i + 1) = cyc m n y i + (if cntS m n i = true ∧ yr m i = y then 1 else 0) := by
  unfold cyc
  rw [List.range_succ, List.countP_append, List.countP_cons, List.countP_nil]
  simp
theorem cyc_le {m : Hp} {n y i j : Nat} (h : i ≤ j) : cyc m n y i ≤ cyc m n y j := by
  induction j with
  | zero => have : i = 0 := by omega
            subst this; exact Nat.le_refl _
  | succ j ih =>
    by_cases e : i = j + 1
    · subst e; exact Nat.le_refl _
    · have := ih (by omega)
      rw [cyc_s]; omega
theorem cyc_lt {m : Hp} {n y i j : Nat} (h : i < j) (hc : cntS m n i = true) (hy : yr m i = y) : cyc m n y i < cyc m n y j := by
  have h1 := cyc_s (m := m) (n := n) (y := y) (i := i)
  rw [if_pos ⟨hc, hy⟩] at h1
  have h2 := cyc_le (m := m) (n := n) (y := y) (show i + 1 ≤ j by omega)
  omega
theorem pre_n {m : Hp} {n y : Nat} : pre m n y ≤ n := by
  have := List.countP_le_length (p := fun j => cntS m n j && decide (yr m j < y)) (l := List.range n)
  rwa [List.length_range] at this
theorem pre_0 {m : Hp} {n : Nat} : pre m n 0 = 0 := by
  unfold pre
  rw [List.countP_eq_zero]
  intro j _
  simp
theorem pre_s {m : Hp} {n y : Nat} : pre m n (y + 1) = pre m n y + cyc m n y n := by
  unfold pre cyc
  have : ∀ k, (List.range k).countP (fun j => cntS m n j && decide (yr m j < y + 1)) = (List.range k).countP (fun j => cntS m n j && decide (yr m j < y)) + (List.range k).countP (fun j => cntS m n j && decide (yr m j = y)) := by
    intro k
    induction k with
    | zero => rfl
    | succ k ih =>
      rw [List.range_succ, List.countP_append, List.countP_append, List.countP_append, ih]
      simp only [List.countP_cons, List.countP_nil]
      cases cntS m n k
      · simp
      · by_cases h1 : yr m k < y
        · simp [h1, show yr m k < y + 1 by omega, show ¬ yr m k = y by omega]; omega
        · by_cases h2 : yr m k = y
          · simp [h2]; omega
          · simp [h1, h2, show ¬ yr m k < y + 1 by omega]
  exact this n
theorem pre_le {m : Hp} {n y z : Nat} (h : y ≤ z) : pre m n y ≤ pre m n z := by
  induction z with
  | zero => have : y = 0 := by omega
            subst this; exact Nat.le_refl _
  | succ z ih =>
    by_cases e : y = z + 1
    · subst e; exact Nat.le_refl _
    · have := ih (by omega)
      rw [pre_s]; omega
def pos (m : Hp) (n j : Nat) : Nat := pre m n (yr m j) + cyc m n (yr m j) j
theorem pos_lt {m : Hp} {n j : Nat} (hj : j < n) (hc : cntS m n j = true) : pos m n j < pre m n (yr m j + 1) := by
  rw [pre_s]
  have := cyc_lt hj hc rfl
  unfold pos; omega
theorem pos_ne {m : Hp} {n i j : Nat} (hij : i < j) (hj : j < n) (hi : cntS m n i = true) (hc : cntS m n j = true) : pos m n i ≠ pos m n j := by
  by_cases e : yr m i = yr m j
  · unfold pos
    rw [e]
    have := cyc_lt hij hi e
    omega
  · have p1 := pos_lt (show i < n by omega) hi
    have p2 := pos_lt hj hc
    by_cases l : yr m i < yr m j
    · have := pre_le (m := m) (n := n) (show yr m i + 1 ≤ yr m j by omega)
      unfold pos at p1 p2 ⊢; omega
    · have := pre_le (m := m) (n := n) (show yr m j + 1 ≤ yr m i by omega)
      unfold pos at p1 p2 ⊢; omega
theorem cnt_yr {P L F n j : Nat} {c m : Hp} (R : RFn P L F c m) (hj : j < F) (hc : cntS m n j = true) : ¬ m.1 40 j = 6 ∧ m.1 41 j = nI (yr m j) ∧ yr m j < 60 := by
  unfold cntS at hc
  rw [Bool.and_eq_true, decide_eq_true_iff] at hc
  obtain ⟨t, b, t6, g1, g2, g3⟩ := R.2.2.2.2 j hj
  have h6 : ¬ t = 6 := fun x => hc.1 (by rw [g1, x]; rfl)
  rw [if_neg h6] at g3
  obtain ⟨⟨q, hq, gq⟩, _⟩ := g3
  have : yr m j = q := by unfold yr; rw [gq, nI_ix (by omega)]
  exact ⟨hc.1, by rw [this]; exact gq, by omega⟩
def AW : Ws := [(157, none), (158, none)]
def ARR (m : Hp) (n : Nat) (h : Hp) : Prop := (∀ y, y ≤ 60 → h.1 158 y = nI (pre m n y)) ∧ ∀ j, j < n → cntS m n j = true → h.1 157 (pos m n j) = nI j
theorem C_arr3 {P L F n : Nat} {c m g : Hp} {A : Int64} (R : RFn P L F c m) (hn : n ≤ F) (hA : ∀ i, i < 64 → bitL A i = annS m n i) : ∀ (i f : Nat) (h : Hp), i ≤ n → i < f → Agr SC c h → Agr AW g h → (∀ y, y ≤ 60 → h.1 158 y = nI (pre m n y + cyc m n y i)) → (∀ j, i ≤ j → j < n → cntS m n j = true → h.1 157 (pos m n j) = nI j) → Ok (lX3_arrange_95 f A (nI i - 1) h) (fun h' => ARR m n h' ∧ Agr AW g h') := by
  have h60 := R.1
  intro i
  induction i with
  | zero =>
    intro f h hi hf e a h1 h2
    obtain ⟨g', rfl⟩ : ∃ g', f = g' + 1 := ⟨f - 1, by omega⟩
    simp only [lX3_arrange_95, bX3_arrange_95, if_pos (show nI 0 - 1 < (0 : Int32) by decide), ok_some]
    exact ⟨⟨fun y hy => by rw [h1 y hy, cyc_0, Nat.add_zero], fun j hj => h2 j (by omega) hj⟩, a⟩
  | succ i ih =>
    intro f h hi hf e a h1 h2
    obtain ⟨g', rfl⟩ : ∃ g', f = g' + 1 := ⟨f - 1, by omega⟩
    have em : nI i + (-1) = nI i - 1 := (Int32.sub_eq_add_neg _ _).symm
    obtain ⟨z1, z2, z3, z4⟩ := R.2.2.2.1 i (by omega)
    simp only [lX3_arrange_95, bX3_arrange_95, bX3_arrange_145, nI_pred, if_neg (nI_pos (show i < 2 ^ 31 by omega)), C_counts R e hn (show i < n by omega) hA, bi_some, lt_e, em, b2_0]
    by_cases hc : cntS m n i = true
    · rw [if_neg (by rw [hc]; decide)]
      obtain ⟨k6, ky, ky60⟩ := cnt_yr R (by omega) hc
      have y1 : h.1 154 i = nI (yr m i) := by rw [e.i 154 _ rfl, z2, ky]
      have cs := cyc_s (m := m) (n := n) (y := yr m i) (i := i)
      rw [if_pos ⟨hc, rfl⟩] at cs
      have hp : h.1 158 (yr m i) - 1 = nI (pos m n i) := by
        rw [h1 _ (by omega), cs, ← Nat.add_assoc, nI_pred]; rfl
      have pl := pos_lt (show i < n by omega) hc
      have pn := pre_n (m := m) (n := n) (y := yr m i + 1)
      have y3 : (wI h 158 (yr m i) (nI (pos m n i))).1 154 i = nI (yr m i) := (wI_k (by decide)).trans y1
      simp only [ck_of (nI_inb (n := i) (N := 60) (by omega) (by decide)), nI_ix (show i < 2 ^ 31 by omega), y1, ck_of (nI_inb (n := yr m i) (N := 61) (by omega) (by decide)), nI_ix (show yr m i < 2 ^ 31 by omega), hp, y3, wI_s, ck_of (nI_inb (n := pos m n i) (N := 60) (by omega) (by decide)), nI_ix (show pos m n i < 2 ^ 31 by omega)]
      refine ih g' _ (by omega) (by omega) ((e.wI rfl).wI rfl) ((a.wI rfl).wI rfl) (fun y hy => ?_) (fun j hj1 hj2 hj3 => ?_)
      · rw [wI_k (by decide)]
        by_cases ey : y = yr m i
        · subst ey; rw [wI_s]; rfl
        · rw [wI_j ey, h1 y hy, cyc_s, if_neg (fun x => ey x.2.symm), Nat.add_zero]
      · by_cases ej : j = i
        · subst ej; exact wI_s
        · rw [wI_j (fun x => pos_ne (show i < j by omega) hj2 hc hj3 x.symm), wI_k (by decide)]
          exact h2 j (by omega) hj2 hj3
    · have hc' : cntS m n i = false := by simpa using hc
      rw [if_pos hc']
      refine ih g' h (by omega) (by omega) e a (fun y hy => ?_) (fun j hj1 hj2 hj3 => ?_)
      · rw [h1 y hy, cyc_s, if_neg (fun x => hc x.1), Nat.add_zero]
      · have : j ≠ i := by rintro rfl; exact hc hj3
        exact h2 j (by omega) hj2 hj3
theorem C_arr2 {P L F n : Nat} {c m g h : Hp} {A : Int64} (R : RFn P L F c m) (hn : n ≤ F) (hA : ∀ i, i < 64 → bitL A i = annS m n i) (e : Agr SC c h) (a : Agr AW g h) (h1 : ∀ y, y ≤ 60 → h.1 158 y = nI (cyc m n y n)) : Ok (lX3_arrange_58 FU (nI n) A 1 h) (fun h' => ARR m n h' ∧ Agr AW g h') := by
  have h60 := R.1
  refine upto (fun f i h => lX3_arrange_58 f (nI n) A (nI i) h) 61 (fun t h' => Agr SC c h' ∧ Agr AW g h' ∧ 1 ≤ t ∧ ∀ y, y ≤ 60 → h'.1 158 y = nI (if y < t then pre m n y + cyc m n y n else cyc m n y n)) ?_ ?_ 60 1 h FU rfl (by decide) (by decide) ⟨e, a, by decide, fun y hy => ?_⟩
  · rintro f h' ⟨e', a', _, hI⟩
    simp only [lX3_arrange_58, bX3_arrange_58, if_pos (show (60 : Int32) < nI 61 by decide), lt_e]
    refine C_arr3 R hn hA n FU h' (Nat.le_refl n) (show n < 20000 by omega) e' a' (fun y hy => ?_) (fun j hj1 hj2 => absurd hj2 (by omega))
    rw [hI y hy, if_pos (by omega)]
  · rintro f t h' ht ⟨e', a', ht1, hI⟩ K
    simp only [lX3_arrange_58, bX3_arrange_58, if_neg (show ¬ (60 : Int32) < nI t from nI_nlt (a := 60) (by omega) (by decide)), nI_sub1 ht1, ck_of (nI_inb (n := t) (N := 61) (by omega) (by decide)), ck_of (nI_inb (n := t - 1) (N := 61) (by omega) (by decide)), nI_ix (show t < 2 ^ 31 by omega), nI_ix (show t - 1 < 2 ^ 31 by omega), lt_e, nI_1]
    refine K _ ⟨e'.wI rfl, a'.wI rfl, by omega, fun y hy => ?_⟩
    by_cases ey : y = t
    · subst ey
      rw [wI_s, hI y hy, hI (y - 1) (by omega), if_neg (by omega), if_pos (by omega), if_pos (by omega), nI_add]
      have := pre_s (m := m) (n := n) (y := y - 1)
      rw [show y - 1 + 1 = y by omega] at this
      rw [← this, Nat.add_comm]
    · rw [wI_j ey, hI y hy]
      by_cases l : y < t
      · rw [if_pos l, if_pos (by omega)]
      · rw [if_neg l, if_neg (by omega)]
  · rw [h1 y hy]
    by_cases l : y < 1
    · have : y = 0 := by omega
      subst this
      rw [if_pos l, pre_0, Nat.zero_add]
    · rw [if_neg l]
theorem C_arrange {P L F n : Nat} {c m h : Hp} (R : RFn P L F c m) (hn : n ≤ F) (e : Agr SC c h) : Ok (fX3_arrange (nI n) h) (fun h' => ARR m n h' ∧ Agr AW h h') := by
  have h60 := R.1
  obtain ⟨A, e1, hA⟩ := C_annulled R e hn
  unfold fX3_arrange
  rw [e1, bi_some]
  simp only [lt_e]
  rw [ok_bv]
  refine (C_fill (k := 158) (n := 61) (by decide) 0 h).mono ?_
  rintro g ⟨g1, g2, g3⟩
  have a : Agr AW h g := fun k j w => ⟨g2 k j (by rintro rfl; cases w), by rw [g3]⟩
  have eg : Agr SC c g := e.trans (a.sub rfl)
  refine up0 (fun f i h => lX3_arrange_17 f (nI n) A (nI i) h) n (by omega) (fun i h' => Agr SC c h' ∧ Agr AW h h' ∧ ∀ y, y ≤ 60 → h'.1 158 y = nI (cyc m n y i)) g ⟨eg, a, fun y hy => g1 y (by omega)⟩ ?_ ?_
  · rintro f h' ⟨e', a', hI⟩
    rw [lX3_arrange_17]
    simp only [bX3_arrange_17, if_pos (nI_le (Nat.le_refl n) (show n < 2 ^ 31 by omega)), lt_e]
    exact C_arr2 R hn hA e' a' hI
  · rintro f i h' hi ⟨e', a', hI⟩ K
    obtain ⟨z1, z2, z3, z4⟩ := R.2.2.2.1 i (by omega)
    simp only [lX3_arrange_17, bX3_arrange_17, bX3_arrange_49, if_neg (nI_ge hi (show n < 2 ^ 31 by omega)), C_counts R e' hn hi hA, bi_some, lt_e, nI_1, b2_0]
    by_cases hc : cntS m n i = true
    · rw [if_neg (by rw [hc]; decide)]
      obtain ⟨k6, ky, ky60⟩ := cnt_yr R (by omega) hc
      have y1 : h'.1 154 i = nI (yr m i) := by rw [e'.i 154 _ rfl, z2, ky]
      have cs := cyc_s (m := m) (n := n) (y := yr m i) (i := i)
      rw [if_pos ⟨hc, rfl⟩] at cs
      simp only [ck_of (nI_inb (n := i) (N := 60) (by omega) (by decide)), nI_ix (show i < 2 ^ 31 by omega), y1, ck_of (nI_inb (n := yr m i) (N := 61) (by omega) (by decide)), nI_ix (show yr m i < 2 ^ 31 by omega), hI (yr m i) (by omega), nI_1]
      refine K _ ⟨e'.wI rfl, a'.wI rfl, fun y hy => ?_⟩
      by_cases ey : y = yr m i
      · subst ey; rw [wI_s, cs]
      · rw [wI_j ey, hI y hy, cyc_s, if_neg (fun x => ey x.2.symm), Nat.add_zero]
    · have hc' : cntS m n i = false := by simpa using hc
      rw [if_pos hc']
      refine K _ ⟨e', a', fun y hy => ?_⟩
      rw [hI y hy, cyc_s, if_neg (fun x => hc x.1), Nat.add_zero]
/-- the facts of a year -/
def facF (S : Sem) (m : Hp) (n : Nat) (tr : Bool) (y f : Nat) (R : Run) : Run := if cntS m n f = true ∧ yr m f = y then hapS S m tr f R else R
def facS (S : Sem) (m : Hp) (n : Nat) (tr : Bool) (y : Nat) (R : Run) : Run := forN n (facF S m n tr y) R
theorem cyc_nx {S : Sem} {m : Hp} {n y : Nat} {tr : Bool} {R : Run} : ∀ d j, n - j = d → j ≤ n → cyc m n y j < cyc m n y n → ∃ k, j ≤ k ∧ k < n ∧ cntS m n k = true ∧ yr m k = y ∧ cyc m n y k = cyc m n y j ∧ forN k (facF S m n tr y) R = forN j (facF S m n tr y) R := by
  intro d
  induction d with
  | zero =>
    intro j hd hj hc
    have : j = n := by omega
    subst this; exact absurd hc (by omega)
  | succ d ih =>
    intro j hd hj hc
    by_cases h : cntS m n j = true ∧ yr m j = y
    · exact ⟨j, Nat.le_refl j, by omega, h.1, h.2, rfl, rfl⟩
    · have cs := cyc_s (m := m) (n := n) (y := y) (i := j)
      rw [if_neg h, Nat.add_zero] at cs
      obtain ⟨k, k1, k2, k3, k4, k5, k6⟩ := ih (j + 1) (by omega) (by omega) (by omega)
      refine ⟨k, by omega, k2, k3, k4, by omega, ?_⟩
      rw [k6, forN_s]; unfold facF
      rw [if_neg h]
theorem cyc_end {S : Sem} {m : Hp} {n y : Nat} {tr : Bool} {R : Run} : ∀ d j, n - j = d → j ≤ n → cyc m n y j = cyc m n y n → forN n (facF S m n tr y) R = forN j (facF S m n tr y) R := by
  intro d
  induction d with
  | zero =>
    intro j hd hj hc
    have : j = n := by omega
    subst this; rfl
  | succ d ih =>
    intro j hd hj hc
    have cs := cyc_s (m := m) (n := n) (y := y) (i := j)
    have cl := cyc_le (m := m) (n := n) (y := y) (show j + 1 ≤ n by omega)
    by_cases h : cntS m n j = true ∧ yr m j = y
    · rw [if_pos h] at cs; omega
    · rw [if_neg h, Nat.add_zero] at cs
      rw [ih (j + 1) (by omega) (by omega) (by omega), forN_s]; unfold facF
      rw [if_neg h]
theorem C_takeFacts {S : Sem} {F n y o : Nat} {c m h : Hp} {R : Run} {ls : List Nat} {tr : Bool} (D : RD0 c m) (X : XC S c m) (RF : RFn (nP m) (nL m) F c m) (hn : n ≤ F) (ho : isC o) (e : Agr SC c h) (ar : ARR m n h) (H : KC o (nL m) R ls tr h) (hy : y < 60) : Ok (fX1_takeFacts o (nI y) h) (fun h' => KC o (nL m) (facS S m n tr y R) ls tr h' ∧ CF o h h') := by
  have h60 := RF.1
  have ho2 := isC_ge ho
  have ps := pre_s (m := m) (n := n) (y := y)
  have pn := pre_n (m := m) (n := n) (y := y + 1)
  have acf : ∀ h', CF o h h' → ∀ k j, k = 157 ∨ k = 158 → h'.1 k j = h.1 k j := by
    intro h' a k j hk
    refine (a k j (by omega) ?_).1
    rcases hk with rfl | rfl <;> rfl
  unfold fX1_takeFacts
  rw [ck_of (nI_inb (n := y) (N := 61) (by omega) (by decide)), nI_ix (by omega), ar.1 y (by omega), lt_e]
  refine upto (fun f i h => lX1_takeFacts_10 o f (nI y) (nI i) h) (pre m n (y + 1)) (fun p h' => CF o h h' ∧ ∃ j, j ≤ n ∧ p = pre m n y + cyc m n y j ∧ KC o (nL m) (forN j (facF S m n tr y) R) ls tr h') ?_ ?_ (pre m n (y + 1) - pre m n y) (pre m n y) h FU rfl (by omega) (show _ < 20000 by omega) ⟨.refl, 0, by omega, by rw [cyc_0, Nat.add_zero], H⟩
  · rintro f h' ⟨a, j, hj, hp, H'⟩
    simp only [lX1_takeFacts_10, bX1_takeFacts_10, nI_1, ck_of (nI_inb (n := y + 1) (N := 61) (by omega) (by decide)), nI_ix (show y + 1 < 2 ^ 31 by omega), acf h' a 158 _ (.inr rfl), ar.1 (y + 1) (by omega), if_pos (nI_le (Nat.le_refl (pre m n (y + 1))) (show _ < 2 ^ 31 by omega)), ok_some]
    refine ⟨?_, a⟩
    unfold facS
    rw [cyc_end (n - j) j rfl hj (by omega)]
    exact H'
  · rintro f p h' hp ⟨a, j, hj, hpj, H'⟩ K
    have e' : Agr SC c h' := e.trans (a.agr ho)
    obtain ⟨k, k1, k2, k3, k4, k5, k6⟩ := cyc_nx (S := S) (tr := tr) (R := R) (n - j) j rfl hj (show cyc m n y j < cyc m n y n by omega)
    have kp : pos m n k = p := by unfold pos; rw [k4, k5]; exact hpj.symm
    obtain ⟨c6, cy, cy60⟩ := cnt_yr RF (show k < F by omega) k3
    have so : h'.1 157 p = nI k := by rw [acf h' a 157 _ (.inl rfl), ← kp]; exact ar.2 k k2 k3
    simp only [lX1_takeFacts_10, bX1_takeFacts_10, nI_1, ck_of (nI_inb (n := y + 1) (N := 61) (by omega) (by decide)), nI_ix (show y + 1 < 2 ^ 31 by omega), acf h' a 158 _ (.inr rfl), ar.1 (y + 1) (by omega), if_neg (nI_ge hp (show pre m n (y + 1) < 2 ^ 31 by omega)), ck_of (nI_inb (n := p) (N := 60) (by omega) (by decide)), nI_ix (show p < 2 ^ 31 by omega), so, ok_bv, lt_e]
    rw [k4] at cy
    rw [← k6] at H'
    refine (C_takeFact D X RF ho e' H' (show k < F by omega) c6 cy hy).mono ?_
    rintro h2 ⟨H2, a2⟩
    refine K h2 ⟨a.trans a2, k + 1, by omega, ?_, ?_⟩
    · rw [cyc_s, if_pos ⟨k3, k4⟩]; omega
    · rw [forN_s]
      unfold facF
      rw [if_pos ⟨k3, k4⟩]
      exact H2
