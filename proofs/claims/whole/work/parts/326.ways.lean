/-- a look at people who are dead and letters that were read -/
def mayS (S : Sem) (m : Hp) (y : Nat) (d b : Int32) (l : Nat) : Bool := !bit b (nI l) && (!bit d (rdI m l) && (!cbS m l y && S.1 l y d b))
def fmS (S : Sem) (m : Hp) (y : Nat) (d b : Int32) : Option Nat := (List.range (nL m)).find? (mayS S m y d b)
def lkB (S : Sem) (m : Hp) (y : Nat) (d : Int32) : Nat → Int32 → Int32
  | 0, b => b
  | n + 1, b => match fmS S m y d b with
    | none => b
    | some l => lkB S m y d n (b ||| ((1 : Int32) <<< (nI l &&& 31)))
theorem lkB_n {S : Sem} {m : Hp} {y n : Nat} {d b : Int32} (h : fmS S m y d b = none) : lkB S m y d (n + 1) b = b := by rw [lkB, h]
theorem lkB_s {S : Sem} {m : Hp} {y n l : Nat} {d b : Int32} (h : fmS S m y d b = some l) : lkB S m y d (n + 1) b = lkB S m y d n (b ||| ((1 : Int32) <<< (nI l &&& 31))) := by rw [lkB, h]
theorem C_Wfirst {S : Sem} {c m h : Hp} (D : RD0 c m) (X : XC S c m) (e : Agr SC c h) {y : Nat} (hy : y < 60) (d b : Int32) : Ok (fX10_firstDue (nI y) d b h) (fun p => p.1 = (match fmS S m y d b with | none => -1 | some l => nI l) ∧ Agr EC h p.2) := by
  have D' := D
  obtain ⟨_, _, _, _, ⟨s1, s2, s3⟩, _, d7, _⟩ := D'
  unfold fX10_firstDue
  rw [lt_q]
  refine up0 (fun f i h => lX10_firstDue_3 f (nI y) d b (nI i) h) (nL m) (by omega) (fun i h' => Agr EC h h' ∧ ∀ j, j < i → mayS S m y d b j = false) h ⟨.refl, fun j hj => absurd hj (by omega)⟩ ?_ ?_
  · rintro f h' ⟨a, hI⟩
    have e' : Agr SC c h' := e.trans (a.sub rfl)
    rw [lX10_firstDue_3]
    simp only [bX10_firstDue_3, e'.i 108 9 rfl, s3, if_pos (nI_le (Nat.le_refl (nL m)) (show nL m < 2 ^ 31 by omega)), ok_some]
    unfold fmS
    rw [fd_none hI]
    exact ⟨rfl, a⟩
  · rintro f l h' hl ⟨a, hI⟩ K
    have e' : Agr SC c h' := e.trans (a.sub rfl)
    obtain ⟨z0, z1, z2, z3, z4⟩ := d7 l hl
    have nx : mayS S m y d b l = false → ∀ h'', Agr EC h h'' → Ok (lX10_firstDue_3 f (nI y) d b (nI (l + 1)) h'') (fun p => p.1 = (match fmS S m y d b with | none => -1 | some l => nI l) ∧ Agr EC h p.2) := fun hd h'' a'' => K h'' ⟨a'', fun j hj => by
      by_cases ej : j = l
      · subst ej; exact hd
      · exact hI j (by omega)⟩
    rw [lX10_firstDue_3]
    simp only [bX10_firstDue_3, bX10_firstDue_82, e'.i 108 9 rfl, s3, if_neg (nI_ge hl (show nL m < 2 ^ 31 by omega)), ck_of (nI_inb (n := l) (N := 10) (by omega) (by decide)), nI_ix (show l < 2 ^ 31 by omega), C_has, bi_q, SC_l e' (show l < 10 by omega), z1, C_clerkMay D e' hl hy, lt_q, nI_1, b2_0]
    by_cases c1 : bit b (nI l) = false
    · rw [if_pos c1]
      by_cases c2 : bit d (rdI m l) = false
      · rw [if_pos c2]
        by_cases c3 : cbS m l y = false
        · rw [if_neg (by rw [c3]; decide), ok_bi]
          refine ((X h' e').1 l y d b hl hy).mono ?_
          rintro ⟨r, h2⟩ ⟨hr, a2⟩
          simp only at hr a2
          subst hr
          have hdu : mayS S m y d b l = S.1 l y d b := by
            unfold mayS
            rw [c1, c2, c3]; simp
          cases hs : S.1 l y d b
          · simp only [b2_f, ↓reduceIte]
            exact nx (hdu.trans hs) h2 (a.trans a2)
          · simp only [b2_t, i10, ↓reduceIte, ok_some]
            unfold fmS
            rw [fd_some hl hI (hdu.trans hs)]
            exact ⟨rfl, a.trans a2⟩
        · have c3 : cbS m l y = true := by simpa using c3
          rw [if_pos (by rw [c3]; decide)]
          exact nx (by unfold mayS; rw [c3]; simp) h' a
      · rw [if_neg c2]
        have c2 : bit d (rdI m l) = true := by simpa using c2
        exact nx (by unfold mayS; rw [c2]; simp) h' a
    · rw [if_neg c1]
      have c1 : bit b (nI l) = true := by simpa using c1
      exact nx (by unfold mayS; rw [c1]; simp) h' a
theorem C_WlookL {S : Sem} {c m : Hp} (D : RD0 c m) (X : XC S c m) {y : Nat} (hy : y < 60) (d : Int32) : ∀ (n i : Nat) (b : Int32) (h : Hp) (f : Nat), i + n = 10 → n < f → Agr SC c h → Ok (lX10_lookUp_6 f (nI y) d b (nI i) h) (fun p => p.1 = lkB S m y d n b ∧ Agr EC h p.2) := by
  have s1 := D.2.2.2.2.1.1
  intro n
  induction n with
  | zero =>
    intro i b h f hi hf e
    obtain ⟨g, rfl⟩ : ∃ g, f = g + 1 := ⟨f - 1, by omega⟩
    rw [lX10_lookUp_6]
    simp only [bX10_lookUp_6, if_pos (show (10 : Int32) ≤ nI i from nI_le (a := 10) (by omega) (by omega)), ok_some]
    exact ⟨rfl, .refl⟩
  | succ n ih =>
    intro i b h f hi hf e
    obtain ⟨g, rfl⟩ : ∃ g, f = g + 1 := ⟨f - 1, by omega⟩
    rw [lX10_lookUp_6]
    simp only [bX10_lookUp_6, if_neg (show ¬ (10 : Int32) ≤ nI i from nI_ge (b := 10) (by omega) (by omega)), ok_bi, lt_q, nI_1]
    refine (C_Wfirst D X e hy d b).mono ?_
    rintro ⟨x, h2⟩ ⟨hx, a2⟩
    simp only at hx a2
    cases hm : fmS S m y d b with
    | none =>
      rw [hm] at hx
      simp only at hx
      subst hx
      rw [if_neg (show ¬ (0 : Int32) ≤ ((-1 : Int32), h2).1 from (by decide : ¬ (0 : Int32) ≤ -1)), ok_some, lkB_n hm]
      exact ⟨rfl, a2⟩
    | some l =>
      rw [hm] at hx
      simp only at hx
      subst hx
      obtain ⟨hln, _⟩ := fd_el hm
      rw [if_pos (nI_pos' (by omega))]
      refine (ih (i + 1) _ h2 g (by omega) (by omega) (e.trans (a2.sub rfl))).mono ?_
      rintro p ⟨hp, a3⟩
      exact ⟨by rw [lkB_s hm]; exact hp, a2.trans a3⟩
theorem C_Wlook {S : Sem} {c m h : Hp} (D : RD0 c m) (X : XC S c m) (e : Agr SC c h) {y : Nat} (hy : y < 60) (d b : Int32) : Ok (fX10_lookUp (nI y) d b h) (fun p => p.1 = lkB S m y d 10 b ∧ Agr EC h p.2) := by
  unfold fX10_lookUp
  rw [lt_q, lt_q]
  exact C_WlookL D X hy d 10 0 b h FU rfl (by decide) e
/-- how many are not read -/
def ucn (N : Nat) (b : Int32) : Nat := (List.range N).countP (fun i => !bit b (nI i))
theorem ucn_s {N : Nat} {b : Int32} : ucn (N + 1) b = ucn N b + (if bit b (nI N) = false then 1 else 0) := by
  unfold ucn
  rw [List.range_succ, List.countP_append, List.countP_cons, List.countP_nil]; simp
theorem ucn_N {N : Nat} {b : Int32} : ucn N b ≤ N := by
  have := List.countP_le_length (p := fun i => !bit b (nI i)) (l := List.range N)
  rwa [List.length_range] at this
theorem ucn_0 {N l : Nat} {b : Int32} (h : ucn N b = 0) (hl : l < N) : bit b (nI l) = true := by
  unfold ucn at h
  rw [List.countP_eq_zero] at h
  have := h l (List.mem_range.mpr hl)
  simpa using this
theorem ucn_le {b b' : Int32} {N : Nat} (h : ∀ i, i < N → bit b (nI i) = true → bit b' (nI i) = true) : ucn N b' ≤ ucn N b := by
  induction N with
  | zero => exact Nat.le_refl 0
  | succ N ih =>
    rw [ucn_s, ucn_s]
    have := ih (fun i hi => h i (by omega))
    by_cases c : bit b' (nI N) = false
    · rw [if_pos c, if_pos]
      · omega
      · rw [Bool.eq_false_iff]; intro x; rw [h N (by omega) x] at c; cases c
    · rw [if_neg c]; omega
theorem ucn_lt {b : Int32} {N l : Nat} (hN : N ≤ 32) (hl : l < N) (h0 : bit b (nI l) = false) : ucn N (b ||| ((1 : Int32) <<< (nI l &&& 31))) < ucn N b := by
  have mono : ∀ i, i < 32 → bit b (nI i) = true → bit (b ||| ((1 : Int32) <<< (nI l &&& 31))) (nI i) = true := fun i hi h => by rw [bit_or hi, h]; rfl
  induction N with
  | zero => exact absurd hl (by omega)
  | succ N ih =>
    rw [ucn_s, ucn_s]
    by_cases e : l = N
    · subst e
      have := ucn_le (b := b) (b' := b ||| ((1 : Int32) <<< (nI l &&& 31))) (N := l) (fun i hi => mono i (by omega))
      rw [if_pos h0, if_neg]
      · omega
      · rw [bit_or (by omega), bit_1 (by omega) (by omega), decide_eq_true rfl, Bool.or_true]; decide
    · have := ih (by omega) (by omega)
      by_cases c : bit (b ||| ((1 : Int32) <<< (nI l &&& 31))) (nI N) = false
      · rw [if_pos c, if_pos]
        · omega
        · rw [Bool.eq_false_iff]; intro x; rw [mono N (by omega) x] at c; cases c
      · rw [if_neg c]; omega
theorem M_may {S : Sem} {c m h : Hp} (D : RD0 c m) (X : XM S m) (e : Agr SM m h) {l y : Nat} (hl : l < nL m) (hy : y < 60) (d b : Int32) : Ok (fX12_mayBeOpened (nI l) (nI y) d b h) (fun p => p.1 = b2 (!bit d (rdI m l) && (!cbS m l y && S.1 l y d b)) ∧ Agr EM h p.2) := by
  simp only [fX12_mayBeOpened, M_reader D e hl, bi_q, bit_eq0, M_isClerkBarred D e hl hy, b2_0]
  by_cases c2 : bit d (rdI m l) = false
  · rw [if_pos c2, c2]
    by_cases c3 : cbS m l y = false
    · rw [if_pos c3, c3, ok_bi]
      refine ((X h e).1 l y d b hl hy).mono ?_
      rintro ⟨r, h2⟩ ⟨hr, a2⟩
      simp only at hr a2
      subst hr
      cases S.1 l y d b
      · simp only [b2_f, ↓reduceIte, ck_of zb_0, ok_some]; exact ⟨rfl, a2⟩
      · simp only [b2_t, i10, ↓reduceIte, ck_of zb_1, ok_some]; exact ⟨rfl, a2⟩
    · rw [if_neg c3, ck_of zb_0, ok_some]
      have c3 : cbS m l y = true := by simpa using c3
      rw [c3]; exact ⟨rfl, .refl⟩
  · rw [if_neg c2, ck_of zb_0, ok_some]
    have c2 : bit d (rdI m l) = true := by simpa using c2
    rw [c2]; exact ⟨rfl, .refl⟩
theorem M_WlookI {S : Sem} {c m h : Hp} {Q : Int32 × Hp → Prop} {r : Int32 → Int32 → Int32 → Int32 → Hp → Option (Int32 × Hp)} (D : RD0 c m) (X : XM S m) (e : Agr SM m h) {y : Nat} (hy : y < 60) (d b : Int32)
    (K0 : fmS S m y d b = none → ∀ h', Agr EM h h' → Ok (r (nI y) d b 0 h') Q)
    (K1 : ∀ l, fmS S m y d b = some l → ∀ h', Agr EM h h' → Ok (r (nI y) d (b ||| ((1 : Int32) <<< (nI l &&& 31))) 1 h') Q) :
    Ok (lX12_lookFrom_17 r FU (nI y) d b 0 0 h) Q := by
  have D' := D
  obtain ⟨⟨d1, d2⟩, _, _, _, ⟨s1, s2, s3⟩, _⟩ := D'
  refine up0 (fun f i (s : Int32 × Int32 × Hp) => lX12_lookFrom_17 r f (nI y) d s.1 s.2.1 (nI i) s.2.2) (nL m + 1) (by omega) (fun i s => i ≤ nL m ∧ ((s.1 = b ∧ s.2.1 = 0 ∧ Agr EM h s.2.2 ∧ ∀ j, j < i → mayS S m y d b j = false) ∨ (s.2.1 = 1 ∧ Agr SM m s.2.2 ∧ Ok (r (nI y) d s.1 1 s.2.2) Q))) (b, 0, h) ⟨by omega, .inl ⟨rfl, rfl, .refl, fun j hj => absurd hj (by omega)⟩⟩ ?_ ?_
  · rintro f s ⟨hi, _⟩
    exact absurd hi (by omega)
  · rintro f l ⟨b', x, h'⟩ hl ⟨hle, ⟨hb, hx, a, hI⟩ | ⟨hx, e', fin⟩⟩ K
    · simp only at hb hx a
      subst hb; subst hx
      have e' : Agr SM m h' := e.trans (a.sub rfl)
      rw [lX12_lookFrom_17]
      by_cases hl' : l = nL m
      · subst hl'
        simp only [bX12_lookFrom_17, bX12_lookFrom_81, e'.i 0 18 rfl, d2, ck_of (nI_inb d1 (by decide)), nI_ix (show lv m < 2 ^ 31 by omega), e'.i 17 _ rfl, s2, if_pos (nI_le (Nat.le_refl (nL m)) (show nL m < 2 ^ 31 by omega))]
        exact K0 (fd_none hI) h' a
      · have hl2 : l < nL m := by omega
        have nx : mayS S m y d b' l = false → ∀ h2, Agr EM h h2 → Ok (lX12_lookFrom_17 r f (nI y) d b' 0 (nI (l + 1)) h2) Q := fun hd h2 a2 => K (b', 0, h2) ⟨by omega, .inl ⟨rfl, rfl, a2, fun j hj => by
          by_cases ej : j = l
          · subst ej; exact hd
          · exact hI j (by omega)⟩⟩
        simp only [bX12_lookFrom_17, bX12_lookFrom_81, bX12_lookFrom_75, e'.i 0 18 rfl, d2, ck_of (nI_inb d1 (by decide)), nI_ix (show lv m < 2 ^ 31 by omega), e'.i 17 _ rfl, s2, if_neg (nI_ge hl2 (show nL m < 2 ^ 31 by omega)), ↓reduceIte, bit_eq1, lt_q, nI_1]
        by_cases c1 : bit b' (nI l) = true
        · rw [if_pos c1]
          exact nx (by unfold mayS; rw [c1]; rfl) h' a
        · rw [if_neg c1, ok_bi]
          refine (M_may D X e' hl2 hy d b').mono ?_
          rintro ⟨x, h2⟩ ⟨hx, a2⟩
          simp only at hx a2
          subst hx
          have hmm : mayS S m y d b' l = (!bit d (rdI m l) && (!cbS m l y && S.1 l y d b')) := by
            unfold mayS; rw [Bool.eq_false_iff.mpr c1]; rfl
          rw [← hmm]
          cases hd : mayS S m y d b' l
          · simp only [b2_f, ↓reduceIte]
            exact nx hd h2 (a.trans a2)
          · simp only [b2_t, i10, ↓reduceIte]
            exact K (_, 1, h2) ⟨by omega, .inr ⟨rfl, e'.trans (a2.sub rfl), K1 l (fd_some hl2 hI hd) h2 (a.trans a2)⟩⟩
    · simp only at hx e' fin
      subst hx
      rw [lX12_lookFrom_17]
      simp only [bX12_lookFrom_17, bX12_lookFrom_81, e'.i 0 18 rfl, d2, ck_of (nI_inb d1 (by decide)), i10, ↓reduceIte, ite_self]
      exact fin
theorem M_WlookL {S : Sem} {c m : Hp} (D : RD0 c m) (X : XM S m) {y : Nat} (hy : y < 60) (d : Int32) : ∀ (n : Nat) (b : Int32) (h : Hp) (f : Nat), ucn (nL m) b ≤ n → n + 1 < f → Agr SM m h → Ok (lX12_lookFrom_6 f (nI y) d b 1 h) (fun p => p.1 = lkB S m y d n b ∧ Agr EM h p.2) := by
  have s1 := D.2.2.2.2.1.1
  intro n
  induction n with
  | zero =>
    intro b h f hk hf e
    obtain ⟨g, rfl⟩ : ∃ g, f = g + 1 + 1 := ⟨f - 2, by omega⟩
    rw [lX12_lookFrom_6]
    simp only [bX12_lookFrom_6, i10, ↓reduceIte, lt_q]
    refine M_WlookI D X e hy d b ?_ ?_
    · intro _ h' a
      rw [lX12_lookFrom_6]
      simp only [bX12_lookFrom_6, ↓reduceIte]
      rw [ok_some]
      exact ⟨rfl, a⟩
    · intro l hl
      have := fd_el hl
      have b1 := ucn_0 (b := b) (by omega) this.1
      have b0 := this.2
      unfold mayS at b0
      rw [b1] at b0; cases b0
  | succ n ih =>
    intro b h f hk hf e
    obtain ⟨g, rfl⟩ : ∃ g, f = g + 1 + 1 := ⟨f - 2, by omega⟩
    rw [lX12_lookFrom_6]
    simp only [bX12_lookFrom_6, i10, ↓reduceIte, lt_q]
    refine M_WlookI D X e hy d b ?_ ?_
    · intro hn h' a
      rw [lX12_lookFrom_6]
      simp only [bX12_lookFrom_6, ↓reduceIte]
      rw [ok_some, lkB_n hn]
      exact ⟨rfl, a⟩
    · intro l hl h' a
      obtain ⟨hln, hd⟩ := fd_el hl
      have b0 : bit b (nI l) = false := by
        unfold mayS at hd
        rw [Bool.and_eq_true] at hd
        simpa using hd.1
      have lt := ucn_lt (N := nL m) (by omega) hln b0
      refine (ih _ h' (g + 1) (by omega) (by omega) (e.trans (a.sub rfl))).mono ?_
      rintro p ⟨hp, a2⟩
      exact ⟨by rw [lkB_s hl]; exact hp, a.trans a2⟩
theorem M_Wlook {S : Sem} {c m h : Hp} (D : RD0 c m) (X : XM S m) (e : Agr SM m h) {y : Nat} (hy : y < 60) (d b : Int32) : Ok (fX12_lookFrom (nI y) d b h) (fun p => p.1 = lkB S m y d 10 b ∧ Agr EM h p.2) := by
  have s1 := D.2.2.2.2.1.1
  have := ucn_N (N := nL m) (b := b)
  unfold fX12_lookFrom
  rw [lt_q, lt_q]
  exact M_WlookL D X hy d 10 b h FU (by omega) (by decide) e
