/-- the row of few masks -/
def fwC (c : Hp) : Prop := ∀ i, i < 176 → c.1 207 i = nI (few i)
def NW : Ws := [(148, none), (149, none), (147, some 5), (147, some 6), (147, some 7), (206, some 4), (206, some 5)]
theorem C_needJ {S : Sem} {c m h : Hp} {Q : Int32 × Hp → Prop} {r18 : Int32 → Int32 → Int32 → Int32 → Int32 → Int32 → Hp → Option (Int32 × Hp)} (D : RD0 c m) (X : XC S c m) (W : fwC c) (e : Agr SC c h) {l y q i : Nat} {x7 : Int32} (hl : l < nL m) (hy : y < 60) (hq : q < 4) (hi : i < 176) (hip : few i < 2 ^ nP m) (g b : Int32) (hg : nI (few i) &&& g = 0)
    (K0 : ∀ h', Agr SC c h' → (∀ r, pop r = q → gN S (nP m) (nL m) l y g b (few i) r → False) → Ok (r18 (nI y) g b (nI q) x7 (nI (i + 1)) h') Q)
    (K1 : ∀ r h', Agr SC c h' → gN S (nP m) (nL m) l y g b (few i) r → pop r = q → (∀ r', gN S (nP m) (nL m) l y g b (few i) r' → pop r' = q → r ≤ r') → h'.1 206 4 = nI (few i) → h'.1 206 5 = nI r → Q (1, h')) :
    Ok (lX10_seekNeedOf_76 (115 + l) r18 FU (nI y) g b (nI q) x7 (nI i) (nI (fsN (q + 1))) (nI (fsN q)) h) Q := by
  have p10 := p2_1024 D.2.1.1
  have l10 := p2_1024 D.2.2.2.2.1.1
  have f2 := fsN_176 (q + 1) (by omega)
  have D' := D
  obtain ⟨_, _, _, _, ⟨s1, s2, s3⟩, _, d7, _⟩ := D'
  have fi := few_1024 i hi
  refine upto (fun f j h => lX10_seekNeedOf_76 (115 + l) r18 f (nI y) g b (nI q) x7 (nI i) (nI (fsN (q + 1))) (nI j) h) (fsN (q + 1)) (fun j h' => Agr SC c h' ∧ fsN q ≤ j ∧ ∀ j', fsN q ≤ j' → j' < j → ¬ gN S (nP m) (nL m) l y g b (few i) (few j')) ?_ ?_ (fsN (q + 1) - fsN q) (fsN q) h FU rfl ?_ ?_ ⟨e, Nat.le_refl _, fun j' h1 h2 => absurd h2 (by omega)⟩
  · rintro f h' ⟨e', _, hI⟩
    rw [lX10_seekNeedOf_76]
    simp only [bX10_seekNeedOf_76, bX10_seekNeedOf_187, if_pos (nI_le (Nat.le_refl (fsN (q + 1))) (show fsN (q + 1) < 2 ^ 31 by omega)), lt_q, nI_1]
    refine K0 h' e' fun r hr hg' => ?_
    have hr2 := hg'.2.1
    obtain ⟨j, j1, j2, j3⟩ := few_all (d := r) (by omega) (by omega)
    rw [hr] at j1 j2
    exact hI j j1 j2 (by rw [j3]; exact hg')
  · rintro f j h' hj ⟨e', hj0, hI⟩ K'
    have fj := few_1024 j (by omega)
    have pj := few_pop q hq j (by omega) hj0 hj
    have sk : ¬ gN S (nP m) (nL m) l y g b (few i) (few j) → ∀ h2, Agr SC c h2 → Ok (lX10_seekNeedOf_76 (115 + l) r18 f (nI y) g b (nI q) x7 (nI i) (nI (fsN (q + 1))) (nI (j + 1)) h2) Q := fun hno h2 e2 => K' h2 ⟨e2, by omega, fun j' h1 h3 => by
      by_cases ee : j' = j
      · subst ee; exact hno
      · exact hI j' h1 (by omega)⟩
    rw [lX10_seekNeedOf_76]
    simp only [bX10_seekNeedOf_76, bX10_seekNeedOf_187, bX10_seekNeedOf_119, bX10_seekNeedOf_181, if_neg (nI_ge hj (show fsN (q + 1) < 2 ^ 31 by omega)), ck_of (nI_inb (n := j) (N := 176) (by omega) (by decide)), ck_of (nI_inb (n := i) (N := 176) hi (by decide)), nI_ix (show j < 2 ^ 31 by omega), nI_ix (show i < 2 ^ 31 by omega), e'.i 207 _ rfl, W j (by omega), W i hi, e'.i 108 9 rfl, s3, shr_0 (nL m) (by omega) (few j) fj, lt_q, nI_1, i10, ↓reduceIte]
    by_cases c1 : few j < 2 ^ nL m
    · rw [if_pos c1]
      by_cases c2 : nI (few j) &&& b = 0
      · rw [if_pos c2, ok_bi]
        refine ((X h' e').1 l y (g ||| nI (few i)) (b ||| nI (few j)) hl hy).mono ?_
        rintro ⟨x, h2⟩ ⟨hx, a2⟩
        simp only at hx a2
        subst hx
        have e2 : Agr SC c h2 := e'.trans (a2.sub rfl)
        cases hs : S.1 l y (g ||| nI (few i)) (b ||| nI (few j))
        · simp only [b2_f, ↓reduceIte]
          refine sk (fun hh => ?_) h2 e2
          have := hh.2.2.2.2
          rw [hs] at this; cases this
        · simp only [b2_t, i10, ↓reduceIte, e2.i 207 _ rfl, W i hi, wI_k (show (207 : Nat) ≠ 206 by decide), W j (by omega : j < 176), ck_of zb_1, ok_some]
          refine K1 (few j) _ ((e2.wI rfl).wI rfl) ⟨hip, c1, hg, c2, hs⟩ pj (fun r' hg' hr' => ?_) ?_ ?_
          · have hr2 := hg'.2.1
            obtain ⟨j', j1, j2, j3⟩ := few_all (d := r') (by omega) (by omega)
            rw [hr'] at j1 j2
            by_cases hlt : j' < j
            · exact absurd (show gN S (nP m) (nL m) l y g b (few i) (few j') by rw [j3]; exact hg') (hI j' j1 hlt)
            · rw [← j3]; exact few_le hq hj0 j2 (by omega)
          · rw [wI_j (by decide), wI_s]
          · rw [wI_s]
      · rw [if_neg c2]
        exact sk (fun hh => c2 hh.2.2.2.1) h' e'
    · rw [if_neg c1]
      refine K0 h' e' fun r hr hg' => ?_
      have hr2 := hg'.2.1
      obtain ⟨j', j1, j2, j3⟩ := few_all (d := r) (by omega) (by omega)
      rw [hr] at j1 j2
      by_cases hlt : j' < j
      · exact hI j' j1 hlt (by rw [j3]; exact hg')
      · have := few_le hq hj0 j2 (by omega)
        omega
  · have : ∀ k, k < 4 → fsN k ≤ fsN (k + 1) := by decide
    exact this q hq
  · show fsN (q + 1) - fsN q < 20000
    omega
def ndR (S : Sem) (c m : Hp) (l y : Nat) (g b : Int32) (k q : Nat) (p : Int32 × Hp) : Prop := Agr SC c p.2 ∧ ((p.1 = 0 ∧ ∀ d r, gN S (nP m) (nL m) l y g b d r → pop d = k → pop r = q → False) ∨ (p.1 = 1 ∧ ∃ d r, gN S (nP m) (nL m) l y g b d r ∧ pop d = k ∧ pop r = q ∧ p.2.1 206 4 = nI d ∧ p.2.1 206 5 = nI r ∧ ∀ d' r', gN S (nP m) (nL m) l y g b d' r' → pop d' = k → pop r' = q → 1024 * d + r ≤ 1024 * d' + r'))
theorem C_needOf {S : Sem} {c m h : Hp} (D : RD0 c m) (X : XC S c m) (W : fwC c) (e : Agr SC c h) {l y k q : Nat} (hl : l < nL m) (hy : y < 60) (hk : k < 4) (hq : q < 4) (g b : Int32) : Ok (fX10_seekNeedOf (115 + l) (nI y) g b (nI k) (nI q) h) (ndR S c m l y g b k q) := by
  have p10 := p2_1024 D.2.1.1
  have l10 := p2_1024 D.2.2.2.2.1.1
  have f2 := fsN_176 (k + 1) (by omega)
  have f3 := fsN_176 (q + 1) (by omega)
  have D' := D
  obtain ⟨_, ⟨s1, s2, s3⟩, _⟩ := D'
  unfold fX10_seekNeedOf
  simp only [nI_1, ck_of (nI_inb (n := k + 1) (N := 5) (by omega) (by decide)), ck_of (nI_inb (n := k) (N := 5) (by omega) (by decide)), nI_ix (show k + 1 < 2 ^ 31 by omega), nI_ix (show k < 2 ^ 31 by omega), fsi_n (k + 1) (by omega), fsi_n k (by omega), lt_q]
  refine upto (fun f i h => lX10_seekNeedOf_18 (115 + l) f (nI y) g b (nI q) (nI (fsN (k + 1))) (nI i) h) (fsN (k + 1)) (fun i h' => Agr SC c h' ∧ fsN k ≤ i ∧ ∀ i', fsN k ≤ i' → i' < i → ∀ r, pop r = q → ¬ gN S (nP m) (nL m) l y g b (few i') r) ?_ ?_ (fsN (k + 1) - fsN k) (fsN k) h FU rfl ?_ ?_ ⟨e, Nat.le_refl _, fun j' h1 h2 => absurd h2 (by omega)⟩
  · rintro f h' ⟨e', _, hI⟩
    rw [lX10_seekNeedOf_18]
    simp only [bX10_seekNeedOf_18, if_pos (nI_le (Nat.le_refl (fsN (k + 1))) (show fsN (k + 1) < 2 ^ 31 by omega)), ck_of zb_0, ok_some]
    refine ⟨e', .inl ⟨rfl, fun d r hg' hd hr => ?_⟩⟩
    have hd2 := hg'.1
    obtain ⟨i, j1, j2, j3⟩ := few_all (d := d) (by omega) (by omega)
    rw [hd] at j1 j2
    exact hI i j1 j2 r hr (by rw [j3]; exact hg')
  · rintro f i h' hi ⟨e', hi0, hI⟩ K'
    have fi := few_1024 i (by omega)
    have pi := few_pop k hk i (by omega) hi0 hi
    have sk : (∀ r, pop r = q → ¬ gN S (nP m) (nL m) l y g b (few i) r) → ∀ h2, Agr SC c h2 → Ok (lX10_seekNeedOf_18 (115 + l) f (nI y) g b (nI q) (nI (fsN (k + 1))) (nI (i + 1)) h2) (ndR S c m l y g b k q) := fun hno h2 e2 => K' h2 ⟨e2, by omega, fun i' h1 h3 => by
      by_cases ee : i' = i
      · subst ee; exact hno
      · exact hI i' h1 (by omega)⟩
    rw [lX10_seekNeedOf_18]
    simp only [bX10_seekNeedOf_18, bX10_seekNeedOf_187, if_neg (nI_ge hi (show fsN (k + 1) < 2 ^ 31 by omega)), ck_of (nI_inb (n := i) (N := 176) (by omega) (by decide)), nI_ix (show i < 2 ^ 31 by omega), e'.i 207 _ rfl, W i (by omega), e'.i 108 6 rfl, s3, shr_0 (nP m) (by omega) (few i) fi, nI_1, ck_of (nI_inb (n := q + 1) (N := 5) (by omega) (by decide)), ck_of (nI_inb (n := q) (N := 5) (by omega) (by decide)), nI_ix (show q + 1 < 2 ^ 31 by omega), nI_ix (show q < 2 ^ 31 by omega), fsi_n (q + 1) (by omega), fsi_n q (by omega), lt_q]
    by_cases c1 : few i < 2 ^ nP m
    · rw [if_pos c1]
      by_cases c2 : nI (few i) &&& g = 0
      · rw [if_pos c2]
        refine C_needJ D X W e' hl hy hq (by omega) c1 g b c2 (fun h2 e2 hno => sk (fun r hr hg' => hno r hr hg') h2 e2) ?_
        intro r h2 e2 hg' hr hmin q4 q5
        refine ⟨e2, .inr ⟨rfl, few i, r, hg', pi, hr, q4, q5, fun d' r' hg2 hd' hr' => ?_⟩⟩
        have b1 := hg2.1
        have b2 := hg2.2.1
        have b3 := hg'.2.1
        obtain ⟨i', j1, j2, j3⟩ := few_all (d := d') (by omega) (by omega)
        rw [hd'] at j1 j2
        by_cases hlt : i' < i
        · exact absurd (show gN S (nP m) (nL m) l y g b (few i') r' by rw [j3]; exact hg2) (hI i' j1 hlt r' hr')
        · by_cases ee : i' = i
          · subst ee
            have := hmin r' (by rw [j3]; exact hg2) hr'
            omega
          · have := few_lt hk hi0 i' (by omega) j2
            omega
      · rw [if_neg c2]
        exact sk (fun r _ hh => c2 hh.2.2.1) h' e'
    · rw [if_neg c1, ck_of zb_0, ok_some]
      refine ⟨e', .inl ⟨rfl, fun d r hg' hd hr => ?_⟩⟩
      have hd2 := hg'.1
      obtain ⟨i', j1, j2, j3⟩ := few_all (d := d) (by omega) (by omega)
      rw [hd] at j1 j2
      by_cases hlt : i' < i
      · exact hI i' j1 hlt r hr (by rw [j3]; exact hg')
      · have := few_le hk hi0 j2 (by omega)
        omega
  · have : ∀ k, k < 4 → fsN k ≤ fsN (k + 1) := by decide
    exact this k hk
  · show fsN (k + 1) - fsN k < 20000
    omega
def nrC (S : Sem) (c m : Hp) (l y : Nat) (g b : Int32) (p : Int32 × Hp) : Prop := Agr SC c p.2 ∧ ((p.1 = 0 ∧ ∀ d r, gN S (nP m) (nL m) l y g b d r → 3 < pop d + pop r) ∨ (p.1 = 1 ∧ ∃ d r, gN S (nP m) (nL m) l y g b d r ∧ pop d + pop r ≤ 3 ∧ p.2.1 206 4 = nI d ∧ p.2.1 206 5 = nI r ∧ ∀ d' r', gN S (nP m) (nL m) l y g b d' r' → pop d' + pop r' ≤ 3 → ky d r ≤ ky d' r'))
theorem C_seekNeed {S : Sem} {c m h : Hp} (D : RD0 c m) (X : XC S c m) (W : fwC c) (e : Agr SC c h) {l y : Nat} (hl : l < nL m) (hy : y < 60) (g b : Int32) : Ok (fX10_seekNeed (115 + l) (nI y) g b h) (nrC S c m l y g b) := by
  have p10 := p2_1024 D.2.1.1
  have l10 := p2_1024 D.2.2.2.2.1.1
  unfold fX10_seekNeed
  rw [lt_q]
  refine up0 (fun f t h => lX10_seekNeed_3 (115 + l) f (nI y) g b (nI t) h) 4 (by decide) (fun t h' => Agr SC c h' ∧ ∀ d r, gN S (nP m) (nL m) l y g b d r → t ≤ pop d + pop r) h ⟨e, fun d r _ => by omega⟩ ?_ ?_
  · rintro f h' ⟨e', hI⟩
    rw [lX10_seekNeed_3]
    simp only [bX10_seekNeed_3, if_pos (show (3 : Int32) < nI 4 from by decide), ck_of zb_0, ok_some]
    exact ⟨e', .inl ⟨rfl, fun d r hg => hI d r hg⟩⟩
  · rintro f t h' ht ⟨e', hI⟩ K'
    rw [lX10_seekNeed_3]
    simp only [bX10_seekNeed_3, if_neg (show ¬ (3 : Int32) < nI t from nI_nlt (a := 3) (by omega) (by decide)), lt_q]
    refine up0 (fun f q h => lX10_seekNeed_12 (115 + l) _ f (nI y) g b (nI t) (nI q) h) (t + 1) (by omega) (fun q h' => Agr SC c h' ∧ ∀ d r, gN S (nP m) (nL m) l y g b d r → t ≤ pop d + pop r ∧ (pop d + pop r = t → q ≤ pop d)) h' ⟨e', fun d r hg => ⟨hI d r hg, fun _ => by omega⟩⟩ ?_ ?_
    · rintro f2 h2 ⟨e2, hI2⟩
      rw [lX10_seekNeed_12]
      simp only [bX10_seekNeed_12, if_pos (nI_lt (show t < t + 1 by omega) (by omega)), lt_q, nI_1]
      exact K' h2 ⟨e2, fun d r hg => by have := hI2 d r hg; omega⟩
    · rintro f2 q h2 hq ⟨e2, hI2⟩ K2
      rw [lX10_seekNeed_12]
      simp only [bX10_seekNeed_12, if_neg (nI_nlt (show q ≤ t by omega) (by omega)), pk_sub (show q ≤ t by omega), ok_bi, lt_q, nI_1]
      refine (C_needOf D X W e2 hl hy (show q < 4 by omega) (show t - q < 4 by omega) g b).mono ?_
      rintro ⟨x, h3⟩ ⟨e3, ⟨hx, hno⟩ | ⟨hx, d, r, y1, y2, y3, y4, y5, y6⟩⟩
      · simp only at hx e3
        subst hx
        simp only [↓reduceIte]
        refine K2 h3 ⟨e3, fun d r hg => ⟨(hI2 d r hg).1, fun ht' => ?_⟩⟩
        have h1 := (hI2 d r hg).2 ht'
        by_cases ee : pop d = q
        · exact (hno d r hg ee (by omega)).elim
        · omega
      · simp only at hx e3 y4 y5
        subst hx
        simp only [i10, ↓reduceIte, ck_of zb_1, ok_some]
        refine ⟨e3, .inr ⟨rfl, d, r, y1, by omega, y4, y5, fun d' r' hg hp => ?_⟩⟩
        have h1 := hI2 d' r' hg
        have b1 := y1.1
        have b2 := y1.2.1
        have b3 := hg.1
        have b4 := hg.2.1
        unfold ky
        by_cases c1 : pop d' + pop r' = t
        · have h2 := h1.2 c1
          by_cases c2 : pop d' = q
          · have := y6 d' r' hg c2 (by omega)
            omega
          · omega
        · omega
theorem M_areSets {c m h : Hp} (D : RD0 c m) (e : Agr SM m h) (x z : Int32) : fX12_areSets x z h = some (b2 (rng x 0 (nI (2 ^ nP m) - 1) && rng z 0 (nI (2 ^ nL m) - 1)), h) := by
  obtain ⟨⟨d1, d2⟩, ⟨p1, p2, p3⟩, _, _, ⟨s1, s2, s3⟩, _⟩ := D
  simp only [fX12_areSets, e.i 0 18 rfl, d2, ck_of (nI_inb d1 (by decide)), nI_ix (show lv m < 2 ^ 31 by omega), e.i 11 _ rfl, e.i 17 _ rfl, p2, s2, s1l (nP m) (by omega), s1l (nL m) (by omega), M_in, bi_q, b2_0]
  cases rng x 0 (nI (2 ^ nP m) - 1) <;> cases rng z 0 (nI (2 ^ nL m) - 1) <;> rfl
theorem C_areThere {c m h : Hp} (D : RD0 c m) (e : Agr SC c h) (x z : Int32) : fX11_areThere x z h = some (b2 (rng x 0 (nI (2 ^ nP m) - 1) && rng z 0 (nI (2 ^ nL m) - 1)), h) := by
  obtain ⟨⟨d1, d2⟩, ⟨p1, p2, p3⟩, _, _, ⟨s1, s2, s3⟩, _⟩ := D
  simp only [fX11_areThere, e.i 108 6 rfl, e.i 108 9 rfl, p3, s3, s1l (nP m) (by omega), s1l (nL m) (by omega), C_within, bi_q, b2_0]
  cases rng x 0 (nI (2 ^ nP m) - 1) <;> cases rng z 0 (nI (2 ^ nL m) - 1) <;> rfl
theorem sim_need0 {S : Sem} {F : Nat} {c m : Hp} (a1 a2 a3 a4 a5 : Int32) (Q : QH S F c m) (W : fwC c) : SimQ c m (fX11_need a1 a2 a3 a4 a5 c) (fX12_need a1 a2 a3 a4 a5 m) := by
  obtain ⟨D, R, XM', XC'⟩ := Q
  have p10 := p2_1024 D.2.1.1
  have l10 := p2_1024 D.2.2.2.2.1.1
  have L10 := D.2.2.2.2.1.1
  unfold fX11_need fX12_need
  simp only [M_hasLetter D .refl, C_isLetter D .refl, M_isYear, C_isYear, M_areSets D .refl, C_areThere D .refl, M_in, C_within, bi_q, b2_0]
  cases h1 : rng a1 0 (nI (nL m) - 1)
  · exact SimQ_no _
  · cases h2 : rng a2 0 59
    · exact SimQ_no _
    · cases h3 : (rng a3 0 (nI (2 ^ nP m) - 1) && rng a4 0 (nI (2 ^ nL m) - 1))
      · exact SimQ_no _
      · cases h4 : rng a5 0 2
        · exact SimQ_no _
        · obtain ⟨l, hl, rfl⟩ := (rng_n (by omega)).mp h1
          obtain ⟨y, _, hy, rfl⟩ := (rng_c (a := 0) (n := 59) (by decide) (by decide)).mp h2
          simp only [Bool.true_eq_false, ↓reduceIte, ck_of (nI_inb (n := l) (N := 10) (by omega) (by decide)), nI_ix (show l < 2 ^ 31 by omega)]
          obtain ⟨⟨x, c1⟩, ec, e1, hc⟩ := C_seekNeed D XC' W .refl hl (show y < 60 by omega) a3 a4
          obtain ⟨m1, em, e2, hm⟩ := M_needs D XM' .refl hl (show y < 60 by omega) a3 a4
          simp only at e1 hc
          rw [ec, em, bi_q, bv_q]
          rcases hc with ⟨hx, hno⟩ | ⟨hx, d, r, y1, y2, y4, y5, y6⟩
          · subst hx
            rcases hm with ⟨z1, z2⟩ | ⟨d, r, z1, z2, z3, z4, z5, z6, z7⟩
            · rw [if_pos rfl, if_pos z1]
              exact ⟨-2, c1, m1, rfl, rfl, e1, e2⟩
            · have := hno d r z1
              omega
          · subst hx
            have b1 := y1.1
            have b2 := y1.2.1
            rcases hm with ⟨z1, z2⟩ | ⟨d', r', z1, z2, z3, z4, z5, z6, z7⟩
            · have := z2 d r y1 y2
              omega
            · have b3 := z1.1
              have b4 := z1.2.1
              have k1 := y6 d' r' z1 z2
              have k2 := z7 d r y1 y2 (by omega)
              have ed : d' = d := by unfold ky at k1 k2; omega
              have er : r' = r := by unfold ky at k1 k2; omega
              subst ed; subst er
              rw [if_neg (by decide), if_neg (show ¬ m1.1 0 79 = 4 by rw [z4]; intro x; have := (nI_eq (b := 4) (by omega) (by decide)).mp x; omega), y4, y5, z4, z5, z6]
              by_cases c5 : a5 = 0
              · rw [if_pos c5, if_pos c5, C_bitCount (by omega), bi_q, y5, C_bitCount (by omega), bi_q, nI_add]
                exact ⟨_, c1, m1, rfl, rfl, e1, e2⟩
              · rw [if_neg c5, if_neg c5]
                by_cases c6 : a5 = 1
                · rw [if_pos c6, if_pos c6]
                  exact ⟨_, c1, m1, rfl, rfl, e1, e2⟩
                · rw [if_neg c6, if_neg c6]
                  exact ⟨_, c1, m1, rfl, rfl, e1, e2⟩
