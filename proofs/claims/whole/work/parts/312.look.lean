theorem i_m1 : ((-1 : Int32) < 0) = True := eq_true (by decide)
/-- clerks -/
def cbS (m : Hp) (l y : Nat) : Bool := decide (0 < nC m) && barS m (nI (y % nC m)) (rdI m l)
theorem M_isClerkBarred {c m h : Hp} (D : RD0 c m) (e : Agr SM m h) {l y : Nat} (hl : l < nL m) (hy : y < 60) : fX12_isClerkBarred (nI l) (nI y) h = some (b2 (cbS m l y), h) := by
  have D' := D
  obtain ⟨⟨d1, d2⟩, _, ⟨q1, q2, q3⟩, _⟩ := D'
  unfold cbS
  simp only [fX12_isClerkBarred, e.i 0 18 rfl, d2, ck_of (nI_inb d1 (by decide)), nI_ix (show lv m < 2 ^ 31 by omega), e.i 13 _ rfl, q2, M_reader D e hl, bi_some, M_isBarred D e]
  by_cases h0 : nC m = 0
  · rw [h0]; rfl
  · rw [if_neg (nI_nle (by omega) (by omega)), ck_of (nz_nI (n := nC m) (by omega) (by omega)), pk_rem (by omega) (by omega) (by omega), decide_eq_true (show 0 < nC m by omega), Bool.true_and]
    cases barS m (nI (y % nC m)) (rdI m l) <;> rfl
theorem C_clerkMay {c m h : Hp} (D : RD0 c m) (e : Agr SC c h) {l y : Nat} (hl : l < nL m) (hy : y < 60) : fX0_clerkMay (nI y) (rdI m l) h = some (b2 (!cbS m l y), h) := by
  have D' := D
  obtain ⟨⟨d1, d2⟩, _, ⟨q1, q2, q3⟩, _, _, _, _, d8, d9⟩ := D'
  obtain ⟨_, ⟨w, hw, ew⟩, _⟩ := d8 l hl
  unfold cbS
  simp only [fX0_clerkMay, e.i 108 7 rfl, q3, C_has, bi_some, e.i 110 _ rfl]
  by_cases h0 : nC m = 0
  · rw [h0]; rfl
  · have hm : y % nC m < nC m := Nat.mod_lt _ (by omega)
    rw [if_neg (nI_nle (by omega) (by omega)), ck_of (nz_nI (n := nC m) (by omega) (by omega)), pk_rem (by omega) (by omega) (by omega), decide_eq_true (show 0 < nC m by omega), Bool.true_and, ck_of (nI_inb (by omega) (by decide)), nI_ix (by omega), ew, d9 _ hm w hw]
    cases barS m (nI (y % nC m)) (nI w) <;> rfl
/-- who is due -/
def dueS (S : Sem) (m : Hp) (y : Nat) (R : Run) (l : Nat) : Bool := decide (R 0 l = 0) && (S.1 l y (R 6 0) (R 6 1) && (decide (R 3 l ≤ nI y) && (!bit (R 6 0) (rdI m l) && !cbS m l y)))
def fdS (S : Sem) (m : Hp) (y : Nat) (R : Run) : Option Nat := (List.range (nL m)).find? (dueS S m y R)
theorem fd_none {f : Nat → Bool} {n : Nat} (h : ∀ j, j < n → f j = false) : (List.range n).find? f = none := by
  rw [List.find?_eq_none]
  intro j hj
  rw [h j (List.mem_range.mp hj)]
  decide
theorem fd_some {f : Nat → Bool} {n i : Nat} (hi : i < n) (h : ∀ j, j < i → f j = false) (ht : f i = true) : (List.range n).find? f = some i := by
  rw [List.find?_range_eq_some]
  exact ⟨ht, List.mem_range.mpr hi, fun j hj => by rw [h j hj]; rfl⟩
theorem fd_el {f : Nat → Bool} {n i : Nat} (h : (List.range n).find? f = some i) : i < n ∧ f i = true := ⟨List.mem_range.mp (List.mem_of_find?_eq_some h), List.find?_some h⟩
theorem M_isDue {S : Sem} {c m h : Hp} {R : Run} {ls : List Nat} (D : RD0 c m) (X : XM S m) (e : Agr SM m h) (H : KM (nL m) R ls h) {l y : Nat} (hl : l < nL m) (hy : y < 60) : Ok (fX12_isDue (nI l) (nI y) h) (fun p => p.1 = b2 (dueS S m y R l) ∧ Agr EM h p.2) := by
  have s1 := D.2.2.2.2.1.1
  simp only [fX12_isDue, ck_of (nI_inb (n := l) (N := 10) (by omega) (by decide)), nI_ix (show l < 2 ^ 31 by omega), H.st hl, H.de, H.be]
  unfold dueS
  by_cases h0 : R 0 l = 0
  · rw [if_pos h0, ok_bi, decide_eq_true h0, Bool.true_and]
    refine ((X h e).1 l y (R 6 0) (R 6 1) hl hy).mono ?_
    rintro ⟨r, h2⟩ ⟨hr, a2⟩
    simp only at hr a2
    subst hr
    have H2 : KM (nL m) R ls h2 := KM_agr H a2 rfl
    have e2 : Agr SM m h2 := e.trans (a2.sub rfl)
    simp only [H2.da hl, H2.de, M_reader D e2 hl, bi_some, M_isClerkBarred D e2 hl hy, bit_eq0, b2_0, ck_of zb_0, ck_of zb_1]
    cases S.1 l y (R 6 0) (R 6 1)
    · simp only [↓reduceIte, ok_some]; exact ⟨rfl, a2⟩
    · by_cases hd : R 3 l ≤ nI y
      · rw [if_neg (i_nlt.mpr hd), decide_eq_true hd]
        cases bit (R 6 0) (rdI m l) <;> cases cbS m l y <;> (simp only [↓reduceIte, ok_some, show ((true : Bool) = false) = False from eq_false (by decide)]; exact ⟨rfl, a2⟩)
      · rw [if_pos (i_nle.mp hd), decide_eq_false hd]
        simp only [↓reduceIte, ok_some, show ((true : Bool) = false) = False from eq_false (by decide)]; exact ⟨rfl, a2⟩
  · rw [if_neg h0, decide_eq_false h0, ck_of zb_0, ok_some]
    exact ⟨rfl, .refl⟩
theorem C_firstDue {S : Sem} {c m h : Hp} {o : Nat} {R : Run} {ls : List Nat} {tr : Bool} (D : RD0 c m) (X : XC S c m) (ho : isC o) (e : Agr SC c h) (H : KC o (nL m) R ls tr h) {y : Nat} (hy : y < 60) : Ok (fX1_firstDue o (nI y) h) (fun p => p.1 = (match fdS S m y R with | none => -1 | some l => nI l) ∧ Agr EC h p.2) := by
  have D' := D
  obtain ⟨_, _, _, _, ⟨s1, s2, s3⟩, _, d7, _⟩ := D'
  refine up0 (fun f i h => lX1_firstDue_2 o f (nI y) (nI i) h) (nL m) (by omega) (fun i h' => Agr EC h h' ∧ ∀ j, j < i → dueS S m y R j = false) h ⟨.refl, fun j hj => absurd hj (by omega)⟩ ?_ ?_
  · rintro f h' ⟨a, hI⟩
    have e' : Agr SC c h' := e.trans (a.sub rfl)
    simp only [lX1_firstDue_2, bX1_firstDue_2, e'.i 108 9 rfl, s3, if_pos (nI_le (Nat.le_refl (nL m)) (show nL m < 2 ^ 31 by omega)), ok_some]
    unfold fdS
    rw [fd_none hI]
    exact ⟨rfl, a⟩
  · rintro f l h' hl ⟨a, hI⟩ K
    have e' : Agr SC c h' := e.trans (a.sub rfl)
    have H' : KC o (nL m) R ls tr h' := KC_ev H ho a
    obtain ⟨z0, z1, z2, z3, z4⟩ := d7 l hl
    have nx : dueS S m y R l = false → ∀ h'', Agr EC h h'' → Ok (lX1_firstDue_2 o f (nI y) (nI (l + 1)) h'') (fun p => p.1 = (match fdS S m y R with | none => -1 | some l => nI l) ∧ Agr EC h p.2) := fun hd h'' a'' => K h'' ⟨a'', fun j hj => by
      by_cases ej : j = l
      · subst ej; exact hd
      · exact hI j (by omega)⟩
    simp only [lX1_firstDue_2, bX1_firstDue_2, bX1_firstDue_93, e'.i 108 9 rfl, s3, if_neg (nI_ge hl (show nL m < 2 ^ 31 by omega)), ck_of (nI_inb (n := l) (N := 10) (by omega) (by decide)), nI_ix (show l < 2 ^ 31 by omega), H'.st hl, H'.da hl, H'.de, H'.be, SC_l e' (show l < 10 by omega), z1, C_has, C_clerkMay D e' hl hy, bi_some, lt_e, nI_1, b2_0]
    by_cases h0 : R 0 l = 0
    · rw [if_pos h0]
      by_cases hd : R 3 l ≤ nI y
      · rw [if_neg (i_nlt.mpr hd)]
        by_cases hb : bit (R 6 0) (rdI m l) = false
        · rw [if_pos hb]
          by_cases hc : cbS m l y = false
          · rw [if_neg (by rw [hc]; decide), ok_bi]
            refine ((X h' e').1 l y (R 6 0) (R 6 1) hl hy).mono ?_
            rintro ⟨r, h2⟩ ⟨hr, a2⟩
            simp only at hr a2
            subst hr
            have hdu : dueS S m y R l = S.1 l y (R 6 0) (R 6 1) := by
              unfold dueS
              rw [decide_eq_true h0, decide_eq_true hd, hb, hc]; simp
            cases hs : S.1 l y (R 6 0) (R 6 1)
            · simp only [b2_f, ↓reduceIte]
              exact nx (hdu.trans hs) h2 (a.trans a2)
            · simp only [b2_t, i10, ↓reduceIte, ok_some]
              unfold fdS
              rw [fd_some hl hI (hdu.trans hs)]
              exact ⟨rfl, a.trans a2⟩
          · have hc : cbS m l y = true := by simpa using hc
            rw [if_pos (by rw [hc]; decide)]
            exact nx (by unfold dueS; rw [hc]; simp) h' a
        · rw [if_neg hb]
          have hb : bit (R 6 0) (rdI m l) = true := by simpa using hb
          exact nx (by unfold dueS; rw [hb]; simp) h' a
      · rw [if_pos (i_nle.mp hd)]
        exact nx (by unfold dueS; rw [decide_eq_false hd]; simp) h' a
    · rw [if_neg h0]
      exact nx (by unfold dueS; rw [decide_eq_false h0]; simp) h' a
/-- how many are kept -/
def kpt (N : Nat) (R : Run) : Nat := (List.range N).countP (fun l => decide (R 0 l = 0))
theorem kpt_s {N : Nat} {R : Run} : kpt (N + 1) R = kpt N R + (if R 0 N = 0 then 1 else 0) := by
  unfold kpt
  rw [List.range_succ, List.countP_append, List.countP_cons, List.countP_nil]
  simp
theorem kpt_le {N : Nat} {R : Run} : kpt N R ≤ N := by
  have := List.countP_le_length (p := fun l => decide (R 0 l = 0)) (l := List.range N)
  rwa [List.length_range] at this
theorem kpt_0 {N : Nat} {R : Run} (h : kpt N R = 0) {l : Nat} (hl : l < N) : ¬ R 0 l = 0 := by
  unfold kpt at h
  rw [List.countP_eq_zero] at h
  have := h l (List.mem_range.mpr hl)
  simpa using this
theorem kpt_cg {R R' : Run} : ∀ {N : Nat}, (∀ l, l < N → R' 0 l = R 0 l) → kpt N R' = kpt N R
  | 0, _ => rfl
  | N + 1, h => by rw [kpt_s, kpt_s, kpt_cg (N := N) (fun l hl => h l (by omega)), h N (by omega)]
theorem kpt_end {R : Run} {l : Nat} {v : Int32} (hv : ¬ v = 0) (h0 : R 0 l = 0) {R' : Run} (hR : ∀ j, R' 0 j = if j = l then v else R 0 j) : ∀ {N : Nat}, l < N → kpt N R' + 1 = kpt N R
  | 0, h => absurd h (by omega)
  | N + 1, h => by
    rw [kpt_s, kpt_s]
    by_cases e : l = N
    · subst e
      rw [hR l, if_pos rfl, if_neg hv, if_pos h0, kpt_cg (N := l) (R := R) (R' := R') fun j hj => by rw [hR j, if_neg (by omega)]]
    · have hN : R' 0 N = R 0 N := by rw [hR N, if_neg (fun x => e x.symm)]
      rw [hN]
      have := kpt_end hv h0 hR (N := N) (by omega)
      omega
theorem opn_0 {R : Run} {l : Nat} {w y : Int32} (j : Nat) : opnS R l w y 0 j = if j = l then w else R 0 j := by
  unfold opnS becS
  rw [up_k (by decide), up_k (by decide)]
  by_cases e : j = l
  · subst e; rw [up_s, if_pos rfl]
  · rw [up_j e, if_neg e]
/-- a look: one after the other is opened -/
def lookS (S : Sem) (m : Hp) (y : Nat) : Nat → Run → Run × List Nat
  | 0, R => (R, [])
  | n + 1, R => match fdS S m y R with
    | none => (R, [])
    | some l => ((lookS S m y n (opnS R l 1 (nI y))).1, l :: (lookS S m y n (opnS R l 1 (nI y))).2)
theorem due_0 {S : Sem} {m : Hp} {y : Nat} {R : Run} {l : Nat} (h : dueS S m y R l = true) : R 0 l = 0 := by
  unfold dueS at h
  rw [Bool.and_eq_true, decide_eq_true_iff] at h
  exact h.1
theorem getD_app {ls : List Nat} {x i : Nat} (hi : i < (ls ++ [x]).length) : (ls ++ [x]).getD i 0 = if i = ls.length then x else ls.getD i 0 := by
  rw [List.length_append, List.length_singleton] at hi
  rw [List.getD_eq_getElem?_getD, List.getD_eq_getElem?_getD, List.getElem?_append]
  by_cases e : i = ls.length
  · subst e; simp
  · rw [if_pos (by omega), if_neg e]
theorem KM_push {N : Nat} {R : Run} {ls : List Nat} {h : Hp} (H : KM N R ls h) (l : Nat) : KM N R (ls ++ [l]) (wI (wI h 50 ls.length (nI l)) 0 73 (nI (ls.length + 1))) := by
  refine ⟨RM_w (RM_w H.1 (.inl (by decide))) (.inr ⟨rfl, by omega⟩), ?_, fun i hi => ?_⟩
  · rw [wI_s, List.length_append]; rfl
  · rw [getD_app hi, wI_k (by decide)]
    rw [List.length_append, List.length_singleton] at hi
    by_cases e : i = ls.length
    · subst e; rw [wI_s, if_pos rfl]
    · rw [wI_j e, if_neg e]; exact H.2.2 i (by omega)
theorem KC_push {o N : Nat} {R : Run} {ls : List Nat} {tr : Bool} {h : Hp} (H : KC o N R ls tr h) (l : Nat) : KC o N R (ls ++ [l]) tr (wI (wI h (o + 5) ls.length (nI l)) o 10 (nI (ls.length + 1))) := by
  refine ⟨fun k j hd => ?_, ?_, fun i hi => ?_, ?_⟩
  · have := cC_c (o := o) hd
    rw [wI_r, if_neg (by omega), wI_r, if_neg (by omega)]
    exact H.1 k j hd
  · rw [wI_s, List.length_append]; rfl
  · rw [getD_app hi, wI_k (by omega)]
    rw [List.length_append, List.length_singleton] at hi
    by_cases e : i = ls.length
    · subst e; rw [wI_s, if_pos rfl]
    · rw [wI_j e, if_neg e]; exact H.2.2.1 i (by omega)
  · rw [wI_j (by decide), wI_k (by omega)]; exact H.2.2.2
theorem M_lookI {S : Sem} {c m h : Hp} {R : Run} {ls : List Nat} {Q : Hp → Prop} {r : Int32 → Int32 → Hp → Option Hp} (D : RD0 c m) (X : XM S m) (e : Agr SM m h) (H : KM (nL m) R ls h) {y : Nat} (hy : y < 60) (hls : ls.length + kpt (nL m) R ≤ 10)
    (K0 : fdS S m y R = none → ∀ h', KM (nL m) R ls h' → Agr RWM h h' → Ok (r (nI y) 0 h') Q)
    (K1 : ∀ l, fdS S m y R = some l → ∀ h', KM (nL m) (opnS R l 1 (nI y)) (ls ++ [l]) h' → Agr RWM h h' → Ok (r (nI y) 1 h') Q) :
    Ok (lX12_looksNow_15 r FU (nI y) 0 0 h) Q := by
  have D' := D
  obtain ⟨⟨d1, d2⟩, _, _, _, ⟨s1, s2, s3⟩, _⟩ := D'
  refine up0 (fun f i (s : Int32 × Hp) => lX12_looksNow_15 r f (nI y) s.1 (nI i) s.2) (nL m + 1) (by omega) (fun i s => i ≤ nL m ∧ ((s.1 = 0 ∧ Agr EM h s.2 ∧ ∀ j, j < i → dueS S m y R j = false) ∨ (s.1 = 1 ∧ Agr SM m s.2 ∧ Ok (r (nI y) 1 s.2) Q))) (0, h) ⟨by omega, .inl ⟨rfl, .refl, fun j hj => absurd hj (by omega)⟩⟩ ?_ ?_
  · rintro f s ⟨hi, _⟩
    exact absurd hi (by omega)
  · rintro f l ⟨x, h'⟩ hl ⟨hle, ⟨hx, a, hI⟩ | ⟨hx, e', fin⟩⟩ K
    · simp only at hx a
      subst hx
      have e' : Agr SM m h' := e.trans (a.sub rfl)
      have H' : KM (nL m) R ls h' := KM_agr H a rfl
      have a' : Agr RWM h h' := a.sub rfl
      by_cases hl' : l = nL m
      · subst hl'
        simp only [lX12_looksNow_15, bX12_looksNow_15, bX12_looksNow_79, e'.i 0 18 rfl, d2, ck_of (nI_inb d1 (by decide)), nI_ix (show lv m < 2 ^ 31 by omega), e'.i 17 _ rfl, s2, if_pos (nI_le (Nat.le_refl (nL m)) (show nL m < 2 ^ 31 by omega))]
        exact K0 (fd_none hI) h' H' a'
      · have hl2 : l < nL m := by omega
        simp only [lX12_looksNow_15, bX12_looksNow_15, bX12_looksNow_79, bX12_looksNow_73, e'.i 0 18 rfl, d2, ck_of (nI_inb d1 (by decide)), nI_ix (show lv m < 2 ^ 31 by omega), e'.i 17 _ rfl, s2, if_neg (nI_ge hl2 (show nL m < 2 ^ 31 by omega)), ↓reduceIte, ok_bi, lt_e, nI_1]
        refine (M_isDue D X e' H' hl2 hy).mono ?_
        rintro ⟨x, h2⟩ ⟨hx, a2⟩
        simp only at hx a2
        subst hx
        have H2 : KM (nL m) R ls h2 := KM_agr H' a2 rfl
        have e2 : Agr SM m h2 := e'.trans (a2.sub rfl)
        have a2' : Agr RWM h h2 := a'.trans (a2.sub rfl)
        cases hd : dueS S m y R l
        · simp only [b2_f, ↓reduceIte]
          refine K (0, h2) ⟨by omega, .inl ⟨rfl, a.trans a2, fun j hj => ?_⟩⟩
          by_cases ej : j = l
          · subst ej; exact hd
          · exact hI j (by omega)
        · have hk := kpt_end (R := R) (l := l) (v := 1) (by decide) (due_0 hd) (R' := opnS R l 1 (nI y)) opn_0 hl2
          have hl10 : ls.length < 10 := by omega
          simp only [b2_t, i10, ↓reduceIte, ok_bv]
          refine (M_becomesO H2 s1 hl2 1 (nI y) (.inl rfl)).mono ?_
          rintro h3 ⟨H3, a3⟩
          have e3 : Agr SM m h3 := e2.trans (a3.sub rfl)
          have q50 : (wI h3 50 ls.length (nI l)).1 0 73 = nI ls.length := (wI_k (by decide)).trans H3.2.1
          simp only [H3.2.1, ck_of (nI_inb (n := ls.length) (N := 10) hl10 (by decide)), nI_ix (show ls.length < 2 ^ 31 by omega), q50, nI_1]
          have H4 := KM_push H3 l
          have e4 : Agr SM m (wI (wI h3 50 ls.length (nI l)) 0 73 (nI (ls.length + 1))) := (e3.wI rfl).wI rfl
          have a4 : Agr RWM h (wI (wI h3 50 ls.length (nI l)) 0 73 (nI (ls.length + 1))) := ((a2'.trans a3).wI rfl).wI rfl
          exact K (1, _) ⟨by omega, .inr ⟨rfl, e4, K1 l (fd_some hl2 hI hd) _ H4 a4⟩⟩
    · simp only at hx e' fin
      subst hx
      simp only [lX12_looksNow_15, bX12_looksNow_15, bX12_looksNow_79, e'.i 0 18 rfl, d2, ck_of (nI_inb d1 (by decide)), i10, ↓reduceIte, ite_self]
      exact fin
theorem M_lookL {S : Sem} {c m : Hp} (D : RD0 c m) (X : XM S m) {y : Nat} (hy : y < 60) : ∀ (n : Nat) (R : Run) (ls : List Nat) (h : Hp) (f : Nat), kpt (nL m) R ≤ n → n + 1 < f → ls.length + kpt (nL m) R ≤ 10 → Agr SM m h → KM (nL m) R ls h → Ok (lX12_looksNow_7 f (nI y) 1 h) (fun h' => KM (nL m) (lookS S m y n R).1 (ls ++ (lookS S m y n R).2) h' ∧ Agr RWM h h') := by
  intro n
  induction n with
  | zero =>
    intro R ls h f hk hf hls e H
    obtain ⟨g, rfl⟩ : ∃ g, f = g + 1 + 1 := ⟨f - 2, by omega⟩
    rw [lX12_looksNow_7]
    simp only [bX12_looksNow_7, i10, ↓reduceIte, lt_e]
    refine M_lookI D X e H hy hls ?_ ?_
    · intro _ h' H' a
      rw [lX12_looksNow_7]
      simp only [bX12_looksNow_7, ↓reduceIte]
      rw [ok_some, lookS, List.append_nil]
      exact ⟨H', a⟩
    · intro l hl
      have := fd_el hl
      exact absurd (due_0 this.2) (kpt_0 (by omega) this.1)
  | succ n ih =>
    intro R ls h f hk hf hls e H
    obtain ⟨g, rfl⟩ : ∃ g, f = g + 1 + 1 := ⟨f - 2, by omega⟩
    rw [lX12_looksNow_7]
    simp only [bX12_looksNow_7, i10, ↓reduceIte, lt_e]
    refine M_lookI D X e H hy hls ?_ ?_
    · intro hn h' H' a
      rw [lX12_looksNow_7]
      simp only [bX12_looksNow_7, ↓reduceIte]
      rw [ok_some, lookS, hn]
      simp only
      rw [List.append_nil]
      exact ⟨H', a⟩
    · intro l hl h' H' a
      obtain ⟨hln, hd⟩ := fd_el hl
      have hk2 := kpt_end (R := R) (l := l) (v := 1) (by decide) (due_0 hd) (R' := opnS R l 1 (nI y)) opn_0 hln
      refine (ih (opnS R l 1 (nI y)) (ls ++ [l]) h' (g + 1) (by omega) (by omega) (by rw [List.length_append, List.length_singleton]; omega) (e.trans (a.sub rfl)) H').mono ?_
      rintro h2 ⟨H2, a2⟩
      refine ⟨?_, a.trans a2⟩
      rw [lookS, hl]
      simp only
      rw [List.append_assoc] at H2
      exact H2
theorem M_looksNow {S : Sem} {c m h : Hp} {R : Run} {ls : List Nat} (D : RD0 c m) (X : XM S m) {y : Nat} (hy : y < 60) (e : Agr SM m h) (H : KM (nL m) R ls h) : Ok (fX12_looksNow (nI y) h) (fun h' => KM (nL m) (lookS S m y 10 R).1 (lookS S m y 10 R).2 h' ∧ Agr RWM h h') := by
  have s1 := D.2.2.2.2.1.1
  have hk := kpt_le (N := nL m) (R := R)
  have H0 : KM (nL m) R [] (wI h 0 73 0) := ⟨RM_w H.1 (.inr ⟨rfl, by omega⟩), wI_s, fun i hi => absurd hi (by simp)⟩
  refine (M_lookL D X hy 10 R [] (wI h 0 73 0) FU (by omega) (by decide) (by simp; omega) (e.wI rfl) H0).mono ?_
  rintro h2 ⟨H2, a2⟩
  exact ⟨H2, (Agr.refl.wI rfl : Agr RWM h (wI h 0 73 0)).trans a2⟩
theorem C_lookL {S : Sem} {c m : Hp} {o : Nat} {tr : Bool} (D : RD0 c m) (X : XC S c m) (ho : isC o) {y : Nat} (hy : y < 60) : ∀ (n i : Nat) (R : Run) (ls : List Nat) (h : Hp) (f : Nat), i + n = 10 → n < f → ls.length + kpt (nL m) R ≤ 10 → Agr SC c h → KC o (nL m) R ls tr h → Ok (lX1_lookUp_2 o f (nI y) (nI i) h) (fun h' => KC o (nL m) (lookS S m y n R).1 (ls ++ (lookS S m y n R).2) tr h' ∧ CF o h h') := by
  have s1 := D.2.2.2.2.1.1
  intro n
  induction n with
  | zero =>
    intro i R ls h f hi hf hls e H
    obtain ⟨g, rfl⟩ : ∃ g, f = g + 1 := ⟨f - 1, by omega⟩
    simp only [lX1_lookUp_2, bX1_lookUp_2, if_pos (show (10 : Int32) ≤ nI i from nI_le (a := 10) (by omega) (by omega)), ok_some]
    rw [lookS, List.append_nil]
    exact ⟨H, .refl⟩
  | succ n ih =>
    intro i R ls h f hi hf hls e H
    obtain ⟨g, rfl⟩ : ∃ g, f = g + 1 := ⟨f - 1, by omega⟩
    simp only [lX1_lookUp_2, bX1_lookUp_2, if_neg (show ¬ (10 : Int32) ≤ nI i from nI_ge (b := 10) (by omega) (by omega)), ok_bi, lt_e]
    refine (C_firstDue D X ho e H hy).mono ?_
    rintro ⟨x, h2⟩ ⟨hx, a2⟩
    simp only at hx a2
    have H2 : KC o (nL m) R ls tr h2 := KC_ev H ho a2
    have f2 : CF o h h2 := CF.refl.ev a2
    have e2 : Agr SC c h2 := e.trans (f2.agr ho)
    cases hf : fdS S m y R with
    | none =>
      rw [hf] at hx
      simp only at hx
      subst hx
      simp only [i_m1, ↓reduceIte, ok_some]
      rw [lookS, hf]
      simp only
      rw [List.append_nil]
      exact ⟨H2, f2⟩
    | some l =>
      rw [hf] at hx
      simp only at hx
      subst hx
      obtain ⟨hln, hd⟩ := fd_el hf
      have hk2 := kpt_end (R := R) (l := l) (v := 1) (by decide) (due_0 hd) (R' := opnS R l 1 (nI y)) opn_0 hln
      have hl10 : ls.length < 10 := by omega
      simp only [if_neg (nI_pos (show l < 2 ^ 31 by omega)), H2.2.1, if_pos (show nI ls.length < (10 : Int32) from nI_lt (b := 10) hl10 (by decide)), ok_bv]
      refine (C_endAs H2 s1 hln 1 (nI y)).mono ?_
      rintro h3 ⟨H3, a3⟩
      have H4 := H3.be_u (R 6 1 ||| ((1 : Int32) <<< (nI l &&& 31)))
      have q3 : h3.1 o 12 = R 6 1 := H3.be
      rw [q3]
      have q4 : (wI h3 o 12 (R 6 1 ||| ((1 : Int32) <<< (nI l &&& 31)))).1 o 10 = nI ls.length := H4.2.1
      rw [q4]
      have q5 : (wI (wI h3 o 12 (R 6 1 ||| ((1 : Int32) <<< (nI l &&& 31)))) (o + 5) (ix (nI ls.length)) (nI l)).1 o 10 = nI ls.length := (wI_k (by omega)).trans q4
      rw [q5, ck_of (nI_inb hl10 (by decide)), nI_ix (by omega), nI_1, nI_1]
      have H5 := KC_push H4 l
      have f5 : CF o h (wI (wI (wI h3 o 12 (R 6 1 ||| ((1 : Int32) <<< (nI l &&& 31)))) (o + 5) ls.length (nI l)) o 10 (nI (ls.length + 1))) := (((f2.trans a3).wI (by omega)).wI (by omega)).wI (by omega)
      refine (ih (i + 1) (opnS R l 1 (nI y)) (ls ++ [l]) _ g (by omega) (by omega) (by rw [List.length_append, List.length_singleton]; omega) (e.trans (f5.agr ho)) H5).mono ?_
      rintro h6 ⟨H6, a6⟩
      refine ⟨?_, f5.trans a6⟩
      rw [lookS, hf]
      simp only
      rw [List.append_assoc] at H6
      exact H6
theorem C_lookUp {S : Sem} {c m h : Hp} {o : Nat} {tr : Bool} {R : Run} {ls : List Nat} (D : RD0 c m) (X : XC S c m) (ho : isC o) {y : Nat} (hy : y < 60) (e : Agr SC c h) (H : KC o (nL m) R ls tr h) (hls : ls.length + kpt (nL m) R ≤ 10) : Ok (fX1_lookUp o (nI y) h) (fun h' => KC o (nL m) (lookS S m y 10 R).1 (ls ++ (lookS S m y 10 R).2) tr h' ∧ CF o h h') :=
  C_lookL D X ho hy 10 0 R ls h FU rfl (by decide) hls e H
