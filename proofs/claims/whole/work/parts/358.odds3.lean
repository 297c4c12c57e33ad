/-- the model's odds -/
def OT (T t : Nat → Int64) (h : Hp) : Prop := ∀ k, k < 16384 → h.2 58 k = T k ∧ h.2 59 k = t k
theorem OT_u {T t : Nat → Int64} {h : Hp} {k : Nat} {v : Int64} (H : OT T t h) : OT T (upL t k v) (wL h 59 k v) := fun j hj => by
  refine ⟨by rw [wL_k (by decide)]; exact (H j hj).1, ?_⟩
  unfold upL
  rw [wL_r]
  by_cases e : j = k
  · rw [if_pos ⟨rfl, e⟩, if_pos e]
  · rw [if_neg (fun x => e x.2), if_neg e]; exact (H j hj).2
theorem OT_agr {T t : Nat → Int64} {h h' : Hp} (H : OT T t h) (e : Agr EM h h') : OT T t h' := fun j hj => by
  rw [e.l 58 j rfl, e.l 59 j rfl]; exact H j hj
theorem e1024 (s i : Nat) : (1024 : Int32) * nI s + nI i = nI (1024 * s + i) := by
  rw [show (1024 : Int32) = nI 1024 from rfl, pk_mul, nI_add]
theorem nz1024 : nz 1024 = true := by decide
theorem M_oddsI {S : Sem} {c m h : Hp} {Q : Int64 × Hp → Prop} {r90 : Int32 → Int32 → Int32 → Int32 → Hp → Option (Int64 × Hp)} {r126 : Int32 → Int32 → Int32 → Int32 → Int32 → Hp → Option (Int64 × Hp)} {x1 x2 x3 : Int32} {T t : Nat → Int64} (D : RD0 c m) (X : XM S m) (H : DB S) (hP : nP m ≤ 4) (e : Agr SM m h) {y k : Nat} (hy : y < 60) (hk : k < 16384) (hT : OT T t h)
    (K : ∀ h', Agr SM m h' → OT T (forN (2 ^ nP m) (odF S m y (k / 1024) (k % 1024) (T k)) t) h' → Ok (r126 x1 x2 x3 (nI y) (nI (k + 1)) h') Q) :
    Ok (lX12_odds_160 r90 r126 FU x1 x2 x3 (nI y) (nI k) (nI (k / 1024)) 0 h) Q := by
  have D' := D
  obtain ⟨⟨d1, d2⟩, ⟨p1, p2, p3⟩, _, _, ⟨s1, _⟩, _⟩ := D'
  have p16 : 2 ^ nP m ≤ 16 := Nat.pow_le_pow_right (n := 2) (by decide) hP
  have kq : k / 1024 < 16 := by omega
  have km : k % 1024 < 1024 := Nat.mod_lt _ (by decide)
  refine up0 (fun f i h => lX12_odds_160 r90 r126 f x1 x2 x3 (nI y) (nI k) (nI (k / 1024)) (nI i) h) (2 ^ nP m) (by omega) (fun i h' => Agr SM m h' ∧ OT T (forN i (odF S m y (k / 1024) (k % 1024) (T k)) t) h') h ⟨e, hT⟩ ?_ ?_
  · rintro f h' ⟨e', hT'⟩
    rw [lX12_odds_160]
    simp only [bX12_odds_160, bX12_odds_257, e'.i 0 18 rfl, d2, ck_of (nI_inb d1 (by decide)), nI_ix (show lv m < 2 ^ 31 by omega), e'.i 11 _ rfl, p2, s1l (nP m) (by omega), if_pos (nI_le (Nat.le_refl (2 ^ nP m)) (show 2 ^ nP m < 2 ^ 31 by omega)), lt_q, nI_1]
    exact K h' e' hT'
  · rintro f r h' hr ⟨e', hT'⟩ K'
    have hw := wN_b H (y := y) (a := k / 1024) (d := r) hP
    have o16 := or_16 hP kq hr
    have sk : ¬ (djb (nP m) r (k / 1024) = true ∧ ¬ wN (dvN S y) (nP m) (k / 1024) r = 0) → ∀ h2, Agr SM m h2 → OT T (forN r (odF S m y (k / 1024) (k % 1024) (T k)) t) h2 → Ok (lX12_odds_160 r90 r126 f x1 x2 x3 (nI y) (nI k) (nI (k / 1024)) (nI (r + 1)) h2) Q := fun hno h2 e2 hT2 => K' h2 ⟨e2, by rw [forN_s]; unfold odF; rw [if_neg hno]; exact hT2⟩
    rw [lX12_odds_160]
    simp only [bX12_odds_160, bX12_odds_251, e'.i 0 18 rfl, d2, ck_of (nI_inb d1 (by decide)), nI_ix (show lv m < 2 ^ 31 by omega), e'.i 11 _ rfl, p2, s1l (nP m) (by omega), if_neg (nI_ge hr (show 2 ^ nP m < 2 ^ 31 by omega)), dj_16 (nP m) (by omega) r (by omega) hr (k / 1024) kq, lt_q, nI_1]
    by_cases c1 : djb (nP m) r (k / 1024) = true
    · rw [if_pos c1, ok_bi]
      refine (M_waysOf D X H e' hy (k / 1024) r).mono ?_
      rintro ⟨w, h2⟩ ⟨hx, a2⟩
      simp only at hx a2
      subst hx
      have e2 : Agr SM m h2 := e'.trans (a2.sub rfl)
      have hT2 := OT_agr hT' a2
      simp only [lg_cmp_le, lNp hw]
      by_cases c2 : wN (dvN S y) (nP m) (k / 1024) r = 0
      · rw [if_pos c2]
        exact sk (fun x => x.2 c2) h2 e2 hT2
      · rw [if_neg c2, ck_of nz1024, show nI k - nI k / 1024 * 1024 = nI (k % 1024) from pk_rem (d := 1024) (by omega) (by decide) (by decide), nI_or, ok_bi]
        refine (M_Wlook D X e2 hy (nI (k / 1024 ||| r)) (nI (k % 1024))).mono ?_
        rintro ⟨w, h3⟩ ⟨hx, a3⟩
        simp only at hx a3
        obtain ⟨k1, k2, _⟩ := lkn_e s1 (S := S) (y := y) (d := k / 1024 ||| r) km
        rw [k1] at hx
        subst hx
        have e3 : Agr SM m h3 := e2.trans (a3.sub rfl)
        have hT3 := OT_agr hT2 a3
        have i3 : 1024 * (k / 1024 ||| r) + lkn S m y (k / 1024 ||| r) (k % 1024) < 16384 := by omega
        simp only [e1024, ck_of (nI_inb i3 (by decide)), ck_of (nI_inb hk (by decide)), nI_ix (Nat.lt_trans i3 (by decide)), nI_ix (Nat.lt_trans hk (by decide)), (hT3 k hk).1, (hT3 _ i3).2]
        refine K' _ ⟨e3.wL rfl, ?_⟩
        rw [forN_s]
        unfold odF
        rw [if_pos ⟨c1, c2⟩]
        exact OT_u hT3
    · rw [if_neg c1]
      exact sk (fun x => c1 x.1) h' e' hT'
theorem M_oddsY {S : Sem} {c m h : Hp} {Q : Int64 × Hp → Prop} {r90 : Int32 → Int32 → Int32 → Int32 → Hp → Option (Int64 × Hp)} {x1 x2 x3 : Int32} {T : Nat → Int64} (D : RD0 c m) (X : XM S m) (H : DB S) (hP : nP m ≤ 4) (e : Agr SM m h) {y : Nat} (hy : y < 60) (hT : ∀ k, k < 16384 → h.2 58 k = T k)
    (K : ∀ h', Agr SM m h' → (∀ k, k < 16384 → h'.2 58 k = odY S m y T 16384 k) → Ok (r90 x1 x2 x3 (nI (y + 1)) h') Q) :
    Ok (lX12_odds_101 r90 FU x1 x2 x3 (nI y) 0 h) Q := by
  refine up0 (fun f i h => lX12_odds_101 r90 f x1 x2 x3 (nI y) (nI i) h) 16384 (by decide) (fun i h' => Agr SM m h' ∧ (∀ k, k < 16384 → h'.2 58 k = T k) ∧ ∀ k, k < i → h'.2 59 k = 0) h ⟨e, hT, fun k hk => absurd hk (by omega)⟩ ?_ ?_
  · rintro f h1 ⟨e1, hT1, hz⟩
    rw [lX12_odds_101]
    simp only [bX12_odds_101, if_pos (show (16384 : Int32) ≤ nI 16384 by decide), lt_q]
    refine up0 (fun f i h => lX12_odds_126 r90 f x1 x2 x3 (nI y) (nI i) h) 16384 (by decide) (fun i h' => Agr SM m h' ∧ OT T (odY S m y T i) h') h1 ⟨e1, fun k hk => ⟨hT1 k hk, hz k hk⟩⟩ ?_ ?_
    · rintro f2 h2 ⟨e2, hT2⟩
      rw [lX12_odds_126]
      simp only [bX12_odds_126, if_pos (show (16384 : Int32) ≤ nI 16384 by decide), lt_q]
      refine up0 (fun f i h => lX12_odds_266 r90 f x1 x2 x3 (nI y) (nI i) h) 16384 (by decide) (fun i h' => Agr SM m h' ∧ (∀ k, k < 16384 → h'.2 59 k = odY S m y T 16384 k) ∧ ∀ k, k < i → h'.2 58 k = odY S m y T 16384 k) h2 ⟨e2, fun k hk => (hT2 k hk).2, fun k hk => absurd hk (by omega)⟩ ?_ ?_
      · rintro f3 h3 ⟨e3, _, hc⟩
        rw [lX12_odds_266]
        simp only [bX12_odds_266, if_pos (show (16384 : Int32) ≤ nI 16384 by decide), lt_q, nI_1]
        exact K h3 e3 hc
      · rintro f3 i h3 hi ⟨e3, h59, hc⟩ K3
        rw [lX12_odds_266]
        simp only [bX12_odds_266, if_neg (show ¬ (16384 : Int32) ≤ nI i from nI_ge (b := 16384) hi (by decide)), ck_of (nI_inb hi (by decide)), nI_ix (Nat.lt_trans hi (by decide)), h59 i hi, lt_q, nI_1]
        refine K3 _ ⟨e3.wL rfl, fun k hk => by rw [wL_k (by decide)]; exact h59 k hk, fun k hk => ?_⟩
        rw [wL_r]
        by_cases ee : k = i
        · subst ee; rw [if_pos ⟨rfl, rfl⟩]
        · rw [if_neg (fun x => ee x.2)]; exact hc k (by omega)
    · rintro f2 k h2 hk ⟨e2, hT2⟩ K2
      rw [lX12_odds_126]
      simp only [bX12_odds_126, bX12_odds_257, if_neg (show ¬ (16384 : Int32) ≤ nI k from nI_ge (b := 16384) hk (by decide)), ck_of (nI_inb hk (by decide)), nI_ix (Nat.lt_trans hk (by decide)), (hT2 k hk).1, lg_cmp_eq, lt_q, nI_1]
      by_cases c1 : T k = 0
      · rw [if_pos c1]
        refine K2 h2 ⟨e2, ?_⟩
        unfold odY
        rw [forN_s]
        unfold odK
        rw [if_pos c1]; exact hT2
      · rw [if_neg c1, ck_of nz1024, show nI k / 1024 = nI (k / 1024) from pk_div (d := 1024) (Nat.lt_trans hk (by decide)) (by decide) (by decide)]
        refine M_oddsI D X H hP e2 hy hk hT2 fun h3 e3 hT3 => K2 h3 ⟨e3, ?_⟩
        unfold odY
        rw [forN_s]
        unfold odK
        rw [if_neg c1]; exact hT3
  · rintro f i h1 hi ⟨e1, hT1, hz⟩ K1
    rw [lX12_odds_101]
    simp only [bX12_odds_101, if_neg (show ¬ (16384 : Int32) ≤ nI i from nI_ge (b := 16384) hi (by decide)), ck_of (nI_inb hi (by decide)), nI_ix (Nat.lt_trans hi (by decide)), lt_q, nI_1]
    refine K1 _ ⟨e1.wL rfl, fun k hk => by rw [wL_k (by decide)]; exact hT1 k hk, fun k hk => ?_⟩
    rw [wL_r]
    by_cases ee : k = i
    · subst ee; rw [if_pos ⟨rfl, rfl⟩]
    · rw [if_neg (fun x => ee x.2)]; exact hz k (by omega)
theorem M_oddsS {h : Hp} {l : Nat} (hl : l < 10) {T : Nat → Int64} (hT : ∀ k, k < 16384 → h.2 58 k = T k) : lX12_odds_306 FU (nI l) 0 0 h = some (fS 16384 l T, h) := by
  rw [← ok_eq]
  refine up0 (fun f i (s : Int64) => lX12_odds_306 f (nI l) s (nI i) h) 16384 (by decide) (fun i s => s = fS i l T) 0 rfl ?_ ?_
  · rintro f s hs
    rw [lX12_odds_306]
    simp only [bX12_odds_306, if_pos (show (16384 : Int32) ≤ nI 16384 by decide), ok_some]
    rw [hs]
  · rintro f i s hi hs K
    rw [lX12_odds_306]
    simp only [bX12_odds_306, bX12_odds_340, if_neg (show ¬ (16384 : Int32) ≤ nI i from nI_ge (b := 16384) hi (by decide)), ck_of nz1024, show nI i - nI i / 1024 * 1024 = nI (i % 1024) from pk_rem (d := 1024) (Nat.lt_trans hi (by decide)) (by decide) (by decide), ck_of (nI_inb hi (by decide)), nI_ix (Nat.lt_trans hi (by decide)), hT i hi, bit_eq1, bit_nI (show l < 32 by omega), lt_q, nI_1]
    by_cases c1 : (i % 1024).testBit l = true
    · rw [if_pos c1]
      refine K _ ?_
      rw [hs]
      unfold fS
      rw [sumL_s, if_pos c1]
    · rw [if_neg c1]
      refine K _ ?_
      rw [hs]
      unfold fS
      rw [sumL_s, if_neg c1, Int64.add_zero]
theorem M_odds {S : Sem} {c m h : Hp} (D : RD0 c m) (X : XM S m) (H : DB S) (hP : nP m ≤ 4) (e : Agr SM m h) {l y n : Nat} (hl : l < nL m) (hn : n ≤ 2) (hy : y + n ≤ 60) : Ok (lX12_odds_56 FU (nI l) (nI y) (nI n) 0 h) (fun p => p.1 = fS 16384 l (tY S m y n) ∧ Agr SM m p.2) := by
  have s1 := D.2.2.2.2.1.1
  refine up0 (fun f i h => lX12_odds_56 f (nI l) (nI y) (nI n) (nI i) h) 16384 (by decide) (fun i h' => Agr SM m h' ∧ ∀ k, k < i → h'.2 58 k = odT0 k) h ⟨e, fun k hk => absurd hk (by omega)⟩ ?_ ?_
  · rintro f h1 ⟨e1, hT1⟩
    rw [lX12_odds_56]
    simp only [bX12_odds_56, if_pos (show (16384 : Int32) ≤ nI 16384 by decide), lt_q]
    refine upto (fun f i h => lX12_odds_90 f (nI l) (nI y) (nI n) (nI i) h) (y + n) (fun i h' => Agr SM m h' ∧ y ≤ i ∧ ∀ k, k < 16384 → h'.2 58 k = tY S m y (i - y) k) ?_ ?_ n y h1 FU (by omega) (by omega) (show n < 20000 by omega) ⟨e1, Nat.le_refl _, by rw [Nat.sub_self]; exact hT1⟩
    · rintro f2 h2 ⟨e2, _, hT2⟩
      rw [lX12_odds_90]
      simp only [bX12_odds_90, nI_add, if_pos (nI_le (Nat.le_refl (y + n)) (show y + n < 2 ^ 31 by omega)), lt_q]
      rw [M_oddsS (by omega) hT2, ok_some, show y + n - y = n by omega]
      exact ⟨rfl, e2⟩
    · rintro f2 i h2 hi ⟨e2, hyi, hT2⟩ K2
      rw [lX12_odds_90]
      simp only [bX12_odds_90, nI_add, if_neg (nI_ge hi (show y + n < 2 ^ 31 by omega)), lt_q]
      refine M_oddsY D X H hP e2 (show i < 60 by omega) hT2 fun h3 e3 hT3 => K2 h3 ⟨e3, by omega, ?_⟩
      rw [show i + 1 - y = i - y + 1 by omega, tY_s, show y + (i - y) = i by omega]
      exact hT3
  · rintro f i h1 hi ⟨e1, hT1⟩ K1
    rw [lX12_odds_56]
    simp only [bX12_odds_56, bX12_odds_80, if_neg (show ¬ (16384 : Int32) ≤ nI i from nI_ge (b := 16384) hi (by decide)), ck_of (nI_inb hi (by decide)), nI_ix (Nat.lt_trans hi (by decide)), lt_q, nI_1]
    have st : ∀ v, v = odT0 i → Ok (lX12_odds_56 f (nI l) (nI y) (nI n) (nI (i + 1)) (wL h1 58 i v)) (fun p => p.1 = fS 16384 l (tY S m y n) ∧ Agr SM m p.2) := fun v hv => K1 _ ⟨e1.wL rfl, fun k hk => by
      rw [wL_r]
      by_cases ee : k = i
      · subst ee; rw [if_pos ⟨rfl, rfl⟩, hv]
      · rw [if_neg (fun x => ee x.2)]; exact hT1 k (by omega)⟩
    by_cases c1 : i = 0
    · subst c1
      rw [if_pos (show nI 0 = 0 from rfl)]
      exact st 1 rfl
    · rw [if_neg (nI_ne0 (by omega) (Nat.lt_trans hi (by decide)))]
      exact st 0 (odT0_z (by omega)).symm
theorem sim_odds0 {S : Sem} {F : Nat} {c m : Hp} (a1 a2 a3 : Int32) (Q : QH S F c m) (H : DB S) : SimQ c m (fX11_odds a1 a2 a3 c) (fX12_odds a1 a2 a3 m) := by
  obtain ⟨D, R, XM', XC'⟩ := Q
  have D' := D
  obtain ⟨⟨d1, d2⟩, ⟨p1, p2, p3⟩, _, _, ⟨s1, s2, s3⟩, _⟩ := D'
  unfold fX11_odds fX12_odds
  simp only [M_hasLetter D .refl, C_isLetter D .refl, M_isYear, C_isYear, M_in, C_within, bi_q, b2_0, lt_q, d2, ck_of (nI_inb d1 (by decide)), nI_ix (show lv m < 2 ^ 31 by omega), p2, p3]
  cases h1 : rng a1 0 (nI (nL m) - 1)
  · exact SimQ_no _
  · cases h2 : rng a2 0 59
    · exact SimQ_no _
    · cases h3 : rng a3 1 2
      · exact SimQ_no _
      · obtain ⟨l, hl, rfl⟩ := (rng_n (by omega)).mp h1
        obtain ⟨y, hy, rfl⟩ := rng_0 (n := 59) (by omega) h2
        obtain ⟨n, n1, n2, rfl⟩ := (rng_c (a := 1) (n := 2) (by decide) (by decide)).mp h3
        simp only [Bool.true_eq_false, ↓reduceIte, nI_add]
        by_cases hyn : y + n ≤ 60
        · rw [if_pos (show nI (y + n) ≤ (60 : Int32) from nI_le (b := 60) hyn (by decide)), if_pos (show nI (y + n) ≤ (60 : Int32) from nI_le (b := 60) hyn (by decide))]
          by_cases hP : nP m ≤ 4
          · rw [if_pos (show nI (nP m) ≤ (4 : Int32) from nI_le (b := 4) hP (by decide)), if_pos (show nI (nP m) ≤ (4 : Int32) from nI_le (b := 4) hP (by decide)), bi_id]
            refine SimQ_of (lN (sumN (2 ^ nP m) (odC S m l y n))) ?_ ?_
            · refine (C_odds D XC' H .refl hP hl (by omega) hyn).mono ?_
              rintro p ⟨hp, g⟩
              exact ⟨hp, g.sub rfl⟩
            · refine (M_odds D XM' H hP .refl hl n2 hyn).mono ?_
              rintro p ⟨hp, g⟩
              refine ⟨hp.trans ?_, g⟩
              have : n = 1 ∨ n = 2 := by omega
              rcases this with rfl | rfl
              · exact odds_1 s1 hP
              · exact odds_2 H s1 hP
          · rw [if_neg (show ¬ nI (nP m) ≤ (4 : Int32) from nI_ge (a := 4) (by omega) (by omega)), if_neg (show ¬ nI (nP m) ≤ (4 : Int32) from nI_ge (a := 4) (by omega) (by omega))]
            exact SimQ_no _
        · rw [if_neg (show ¬ nI (y + n) ≤ (60 : Int32) from nI_ge (a := 60) (by omega) (by omega)), if_neg (show ¬ nI (y + n) ≤ (60 : Int32) from nI_ge (a := 60) (by omega) (by omega))]
          exact SimQ_no _
