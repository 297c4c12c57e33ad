/-- futures -/
theorem lkB_nL {S : Sem} {m : Hp} {y : Nat} {d : Int32} (hL : nL m ≤ 10) : ∀ (n b : Nat), b < 2 ^ nL m → ∃ b', b' < 2 ^ nL m ∧ lkB S m y d n (nI b) = nI b'
  | 0, b, h => ⟨b, h, rfl⟩
  | n + 1, b, h => by
    cases hf : fmS S m y d (nI b) with
    | none => exact ⟨b, h, lkB_n hf⟩
    | some l =>
      obtain ⟨hl, _⟩ := fd_el hf
      have hb : b ||| 2 ^ l < 2 ^ nL m := Nat.or_lt_two_pow h (Nat.pow_lt_pow_right (by decide) hl)
      obtain ⟨b', h1, h2⟩ := lkB_nL hL n (b ||| 2 ^ l) hb
      exact ⟨b', h1, by rw [lkB_s hf, s1l l (by omega), nI_or, h2]⟩
theorem lkn_L {S : Sem} {m : Hp} (hL : nL m ≤ 10) {y d b : Nat} (hb : b < 2 ^ nL m) : lkn S m y d b < 2 ^ nL m := by
  have l10 := p2_1024 hL
  obtain ⟨b', h1, h2⟩ := lkB_nL hL (S := S) (y := y) (d := nI d) 10 b hb
  unfold lkn
  rw [h2, nI_ix (by omega)]
  exact h1
/-- one more may be dead -/
def toD (P d d' : Nat) : Prop := d' = d ∨ ∃ p, p < P ∧ d' = d ||| 2 ^ p
theorem toD_lt {P d d' : Nat} (hd : d < 2 ^ P) (h : toD P d d') : d' < 2 ^ P := by
  rcases h with rfl | ⟨p, hp, rfl⟩
  · exact hd
  · exact Nat.or_lt_two_pow hd (Nat.pow_lt_pow_right (by decide) hp)
def clr (d p : Nat) : Nat := if d.testBit p = true then d - 2 ^ p else d
theorem clr_32 : ∀ p, p < 5 → ∀ d, d < 32 → d.testBit p = true → (nI d &&& (((1 : Int32) <<< (nI p &&& 31)) ^^^ (-1)) = nI (clr d p) ∧ clr d p ||| 2 ^ p = d ∧ clr d p < d) := by decide +kernel
theorem clr_or : ∀ p, p < 5 → ∀ d, d < 32 → (d ||| 2 ^ p = d ∨ ((d ||| 2 ^ p).testBit p = true ∧ d = clr (d ||| 2 ^ p) p)) := by decide +kernel
theorem toD_c {P d d' : Nat} (hP : P ≤ 5) (hd : d < 32) (hd' : d' < 32) : toD P d d' ↔ (d = d' ∨ ∃ p, p < P ∧ d'.testBit p = true ∧ d = clr d' p) := by
  constructor
  · rintro (rfl | ⟨p, hp, rfl⟩)
    · exact .inl rfl
    · rcases clr_or p (by omega) d hd with h | ⟨h1, h2⟩
      · exact .inl h.symm
      · exact .inr ⟨p, hp, h1, h2⟩
  · rintro (rfl | ⟨p, hp, h1, rfl⟩)
    · exact .inl rfl
    · exact .inr ⟨p, hp, (clr_32 p (by omega) d' hd' h1).2.1.symm⟩
abbrev Sh : Type := Nat → Nat → Prop
def shS (S : Sem) (m : Hp) (l y : Nat) (sh : Sh) : Sh := fun d' b' => (∃ d b, sh d b ∧ toD (nP m) d d' ∧ lkn S m y d' b = b') ∧ b'.testBit l = false
def evS (S : Sem) (m : Hp) (l y : Nat) (sh : Sh) : Prop := ∃ d' d b, sh d b ∧ toD (nP m) d d' ∧ (lkn S m y d' b).testBit l = true
def shY (S : Sem) (m : Hp) (l y0 g b0 : Nat) : Nat → Sh
  | 0 => fun d b => d = g ∧ b = b0
  | j + 1 => shS S m l (y0 + j) (shY S m l y0 g b0 j)
def evY (S : Sem) (m : Hp) (l y0 g b0 y : Nat) : Prop := evS S m l y (shY S m l y0 g b0 (y - y0))
def shOk (m : Hp) (l : Nat) (sh : Sh) : Prop := ∀ d b, sh d b → d < 2 ^ nP m ∧ b < 2 ^ nL m ∧ b.testBit l = false
theorem shS_ok {S : Sem} {m : Hp} (hL : nL m ≤ 10) {l y : Nat} {sh : Sh} (h : shOk m l sh) : shOk m l (shS S m l y sh) := fun d' b' hh => by
  obtain ⟨⟨d, b, h1, h2, h3⟩, h4⟩ := hh
  obtain ⟨a1, a2, a3⟩ := h d b h1
  exact ⟨toD_lt a1 h2, by rw [← h3]; exact lkn_L hL a2, h4⟩
theorem shY_ok {S : Sem} {m : Hp} (hL : nL m ≤ 10) {l y0 g b0 : Nat} (hg : g < 2 ^ nP m) (hb : b0 < 2 ^ nL m) (h0 : b0.testBit l = false) : ∀ j, shOk m l (shY S m l y0 g b0 j)
  | 0 => fun d b hh => by
    obtain ⟨rfl, rfl⟩ := hh
    exact ⟨hg, hb, h0⟩
  | j + 1 => shS_ok hL (shY_ok hL hg hb h0 j)
theorem shY_s {S : Sem} {m : Hp} {l y0 g b0 y : Nat} (h : y0 ≤ y) : shY S m l y0 g b0 (y + 1 - y0) = shS S m l y (shY S m l y0 g b0 (y - y0)) := by
  rw [show y + 1 - y0 = y - y0 + 1 by omega, shY, show y0 + (y - y0) = y by omega]
/-- the first and the last year of an event -/
def FLy (E : Nat → Prop) (y0 y : Nat) (Ec : Prop) (f la : Int32) : Prop :=
  (f = -2 ∧ la = -2 ∧ (∀ i, y0 ≤ i → i < y → ¬ E i) ∧ ¬ Ec) ∨
  ((∃ i, y0 ≤ i ∧ i ≤ y ∧ f = nI i ∧ (i < y → E i) ∧ (i = y → Ec) ∧ ∀ i', y0 ≤ i' → i' < i → ¬ E i') ∧ ∃ j, y0 ≤ j ∧ j ≤ y ∧ la = nI j ∧ (j < y → E j ∧ ¬ Ec) ∧ (j = y → Ec) ∧ ∀ j', j < j' → j' < y → ¬ E j')
theorem FL_0 {E : Nat → Prop} {y0 : Nat} : FLy E y0 y0 False (-2) (-2) := .inl ⟨rfl, rfl, fun i h1 h2 => absurd h2 (by omega), id⟩
theorem FL_cg {E : Nat → Prop} {y0 y : Nat} {Ec Ec' : Prop} {f la : Int32} (h : Ec ↔ Ec') (H : FLy E y0 y Ec f la) : FLy E y0 y Ec' f la := by
  rw [← propext h]; exact H
theorem FL_ev {E : Nat → Prop} {y0 y : Nat} {Ec : Prop} {f la : Int32} (hy : y < 2 ^ 31) (h0 : y0 ≤ y) (H : FLy E y0 y Ec f la) : FLy E y0 y True (if 0 ≤ f then f else nI y) (nI y) := by
  refine .inr ⟨?_, y, h0, Nat.le_refl y, rfl, fun h => absurd h (by omega), fun _ => trivial, fun j' h1 h2 => absurd h1 (by omega)⟩
  rcases H with ⟨h1, h2, h3, h4⟩ | ⟨⟨i, i1, i2, i3, i4, i5, i6⟩, _⟩
  · rw [h1, if_neg (by decide)]
    exact ⟨y, h0, Nat.le_refl y, rfl, fun h => absurd h (by omega), fun _ => trivial, h3⟩
  · rw [i3, if_pos (nI_pos' (by omega))]
    exact ⟨i, i1, i2, rfl, i4, fun _ => trivial, i6⟩
theorem FL_nx {E : Nat → Prop} {y0 y : Nat} {Ec : Prop} {f la : Int32} (h : Ec ↔ E y) (H : FLy E y0 y Ec f la) : FLy E y0 (y + 1) False f la := by
  rcases H with ⟨h1, h2, h3, h4⟩ | ⟨⟨i, i1, i2, i3, i4, i5, i6⟩, j, j1, j2, j3, j4, j5, j6⟩
  · refine .inl ⟨h1, h2, fun i hi hi2 => ?_, id⟩
    by_cases e : i = y
    · subst e; exact fun x => h4 (h.mpr x)
    · exact h3 i hi (by omega)
  · refine .inr ⟨⟨i, i1, by omega, i3, fun _ => ?_, fun e => absurd e (by omega), i6⟩, j, j1, by omega, j3, fun _ => ⟨?_, id⟩, fun e => absurd e (by omega), fun j' h1 h2 => ?_⟩
    · by_cases e : i = y
      · rw [e]; exact h.mp (i5 e)
      · exact i4 (by omega)
    · by_cases e : j = y
      · rw [e]; exact h.mp (j5 e)
      · exact (j4 (by omega)).1
    · by_cases e : j' = y
      · subst e; exact fun x => (j4 h1).2 (h.mpr x)
      · exact j6 j' h1 (by omega)
theorem FL_un {E : Nat → Prop} {y0 y : Nat} {f la f' la' : Int32} (H : FLy E y0 y False f la) (H' : FLy E y0 y False f' la') : f = f' ∧ la = la' := by
  rcases H with ⟨h1, h2, h3, h4⟩ | ⟨⟨i, i1, i2, i3, i4, i5, i6⟩, j, j1, j2, j3, j4, j5, j6⟩ <;> rcases H' with ⟨h1', h2', h3', h4'⟩ | ⟨⟨i', i1', i2', i3', i4', i5', i6'⟩, j', j1', j2', j3', j4', j5', j6'⟩
  · exact ⟨h1.trans h1'.symm, h2.trans h2'.symm⟩
  · have : i' < y := by
      rcases Nat.lt_or_ge i' y with h | h
      · exact h
      · exact (i5' (by omega)).elim
    exact absurd (i4' this) (h3 i' i1' this)
  · have : i < y := by
      rcases Nat.lt_or_ge i y with h | h
      · exact h
      · exact (i5 (by omega)).elim
    exact absurd (i4 this) (h3' i i1 this)
  · have a1 : i < y := by
      rcases Nat.lt_or_ge i y with h | h
      · exact h
      · exact (i5 (by omega)).elim
    have a2 : i' < y := by
      rcases Nat.lt_or_ge i' y with h | h
      · exact h
      · exact (i5' (by omega)).elim
    have a3 : j < y := by
      rcases Nat.lt_or_ge j y with h | h
      · exact h
      · exact (j5 (by omega)).elim
    have a4 : j' < y := by
      rcases Nat.lt_or_ge j' y with h | h
      · exact h
      · exact (j5' (by omega)).elim
    have e1 : i = i' := by
      rcases Nat.lt_trichotomy i i' with h | h | h
      · exact absurd (i4 a1) (i6' i i1 h)
      · exact h
      · exact absurd (i4' a2) (i6 i' i1' h)
    have e2 : j = j' := by
      rcases Nat.lt_trichotomy j j' with h | h | h
      · exact absurd (j4' a4).1 (j6 j' h a4)
      · exact h
      · exact absurd (j4 a3).1 (j6' j h a3)
    rw [i3, i3', j3, j3', e1, e2]
    exact ⟨rfl, rfl⟩
