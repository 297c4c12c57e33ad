/-- futures, both -/
def nbSh (l : Nat) (NB : Nat → Prop) (sh : Sh) : Prop := ∀ k, k < 2048 → ((NB k ∧ (k % 64).testBit l = false) ↔ sh (k / 64) (k % 64))
theorem nb_step {S : Sem} {m : Hp} (hP : nP m ≤ 5) (hL : nL m ≤ 6) {l y : Nat} {NB : Nat → Prop} {sh : Sh} (ok : nbOk m NB) (oks : shOk m l sh) (H : nbSh l NB sh) : nbOk m (nbS S m y NB 2048) ∧ nbSh l (nbS S m y NB 2048) (shS S m l y sh) ∧ (evS S m l y sh ↔ nbE S m l y NB 2048) := by
  have l64 : 2 ^ nL m ≤ 64 := Nat.pow_le_pow_right (n := 2) (by decide) hL
  have p32 : 2 ^ nP m ≤ 32 := Nat.pow_le_pow_right (n := 2) (by decide) hP
  have L10 : nL m ≤ 10 := by omega
  refine ⟨?_, ?_, ?_⟩
  · rintro k' ⟨k, hk, h1, d', h2, rfl⟩
    obtain ⟨o1, o2⟩ := ok k h1
    have q1 := lkn_L L10 (S := S) (y := y) (d := d') o2
    have q2 := toD_lt o1 h2
    rw [show (64 * d' + lkn S m y d' (k % 64)) / 64 = d' by omega, show (64 * d' + lkn S m y d' (k % 64)) % 64 = lkn S m y d' (k % 64) by omega]
    exact ⟨q2, q1⟩
  · intro k' hk'
    constructor
    · rintro ⟨⟨k, hk, h1, d', h2, rfl⟩, h3⟩
      obtain ⟨o1, o2⟩ := ok k h1
      have q1 := lkn_L L10 (S := S) (y := y) (d := d') o2
      have q2 := toD_lt o1 h2
      rw [show (64 * d' + lkn S m y d' (k % 64)) % 64 = lkn S m y d' (k % 64) by omega] at h3
      rw [show (64 * d' + lkn S m y d' (k % 64)) / 64 = d' by omega, show (64 * d' + lkn S m y d' (k % 64)) % 64 = lkn S m y d' (k % 64) by omega]
      refine ⟨⟨k / 64, k % 64, (H k hk).mp ⟨h1, ?_⟩, h2, rfl⟩, h3⟩
      cases hh : (k % 64).testBit l
      · rfl
      · rw [(lkn_e L10 (S := S) (y := y) (d := d') (b := k % 64) (by omega)).2.2 l hh] at h3; cases h3
    · rintro ⟨⟨d, b, h1, h2, h3⟩, h4⟩
      obtain ⟨o1, o2, o3⟩ := oks d b h1
      have hk : 64 * d + b < 2048 := by omega
      have e1 : (64 * d + b) / 64 = d := by omega
      have e2 : (64 * d + b) % 64 = b := by omega
      refine ⟨⟨64 * d + b, hk, ((H _ hk).mpr (by rw [e1, e2]; exact h1)).1, k' / 64, by rw [e1]; exact h2, ?_⟩, h4⟩
      rw [e2, h3]; omega
  · constructor
    · rintro ⟨d', d, b, h1, h2, h3⟩
      obtain ⟨o1, o2, o3⟩ := oks d b h1
      have hk : 64 * d + b < 2048 := by omega
      have e1 : (64 * d + b) / 64 = d := by omega
      have e2 : (64 * d + b) % 64 = b := by omega
      have q := (H _ hk).mpr (by rw [e1, e2]; exact h1)
      exact ⟨64 * d + b, hk, q.1, q.2, d', by rw [e1]; exact h2, by rw [e2]; exact h3⟩
    · rintro ⟨k, hk, h1, h2, d', h3, h4⟩
      exact ⟨d', k / 64, k % 64, (H k hk).mp ⟨h1, h2⟩, h3, h4⟩
theorem M_future {S : Sem} {c m h : Hp} (D : RD0 c m) (X : XM S m) (e : Agr SM m h) (hP : nP m ≤ 5) (hL : nL m ≤ 6) {l y g b0 : Nat} (w : Int32) (hl : l < nL m) (hy : y < 60) (hg : g < 2 ^ nP m) (hb : b0 < 2 ^ nL m) (h0 : b0.testBit l = false) :
    Ok (lX12_future_88 FU (nI l) (nI y) (nI g) (nI b0) w (-2) (-2) 0 h) (fun p => ∃ f la su, p.1 = (if w = 0 then f else if w = 1 then la else su) ∧ Agr SM m p.2 ∧ FLy (evY S m l y g b0) y 60 False f la ∧ sur m (shY S m l y g b0 (60 - y)) su) := by
  have p32 : 2 ^ nP m ≤ 32 := Nat.pow_le_pow_right (n := 2) (by decide) hP
  have l64 : 2 ^ nL m ≤ 64 := Nat.pow_le_pow_right (n := 2) (by decide) hL
  have okj := shY_ok (S := S) (y0 := y) (show nL m ≤ 10 by omega) hg hb h0
  refine up0 (fun f i h => lX12_future_88 f (nI l) (nI y) (nI g) (nI b0) w (-2) (-2) (nI i) h) 2048 (by decide) (fun i h' => Agr SM m h' ∧ ∀ k, k < i → (k = 64 * g + b0 ∧ h'.1 55 k = 1) ∨ (¬ k = 64 * g + b0 ∧ h'.1 55 k = 0)) h ⟨e, fun k hk => absurd hk (by omega)⟩ ?_ ?_
  · rintro f1 h1 ⟨e1, t1⟩
    rw [lX12_future_88]
    simp only [bX12_future_88, if_pos (show (2048 : Int32) ≤ nI 2048 by decide), lt_q]
    refine upto (fun f i (s : Int32 × Int32 × Hp) => lX12_future_129 f (nI l) w s.1 s.2.1 (nI i) s.2.2) 60 (fun i s => Agr SM m s.2.2 ∧ y ≤ i ∧ (∃ NB, nbOk m NB ∧ tbl 55 NB s.2.2 ∧ nbSh l NB (shY S m l y g b0 (i - y))) ∧ FLy (evY S m l y g b0) y i False s.1 s.2.1) ?_ ?_ (60 - y) y (-2, -2, h1) FU rfl (by omega) (show 60 - y < 20000 by omega) ⟨e1, Nat.le_refl _, ⟨fun k => k = 64 * g + b0, fun k hk => by subst hk; omega, t1, fun k hk => ?_⟩, FL_0⟩
    · rintro f2 ⟨f, la, h2⟩ ⟨e2, _, ⟨NB, ok, t2, ns⟩, F2⟩
      simp only at e2 t2 ns F2
      rw [lX12_future_129]
      simp only [bX12_future_129, if_pos (show (60 : Int32) ≤ nI 60 by decide), lt_q]
      refine up0 (fun f2 i (s : Int32) => lX12_future_355 f2 (nI l) w f la s (nI i) h2) 2048 (by decide) (fun i s => (s = 1 ∧ ∀ k, k < i → ¬ (NB k ∧ (k % 64).testBit l = false)) ∨ (s = 0 ∧ ∃ k, k < 2048 ∧ NB k ∧ (k % 64).testBit l = false)) 1 (.inl ⟨rfl, fun k hk => absurd hk (by omega)⟩) ?_ ?_
      · rintro f3 s hs
        rw [lX12_future_355]
        simp only [bX12_future_355, if_pos (show (2048 : Int32) ≤ nI 2048 by decide)]
        have su : sur m (shY S m l y g b0 (60 - y)) s := by
          rcases hs with ⟨q1, q2⟩ | ⟨q1, k, q2, q3⟩
          · refine .inl ⟨q1, fun d b q => ?_⟩
            obtain ⟨o1, o2, o3⟩ := okj _ d b q
            have hk : 64 * d + b < 2048 := by omega
            refine q2 _ hk ((ns _ hk).mpr ?_)
            rw [show (64 * d + b) / 64 = d by omega, show (64 * d + b) % 64 = b by omega]
            exact q
          · exact .inr ⟨q1, k / 64, k % 64, (ns k q2).mp q3⟩
        by_cases c0 : w = 0
        · rw [if_pos c0, ok_some]
          exact ⟨f, la, s, by rw [if_pos c0], e2, F2, su⟩
        · rw [if_neg c0]
          by_cases c1 : w = 1
          · rw [if_pos c1, ok_some]
            exact ⟨f, la, s, by rw [if_neg c0, if_pos c1], e2, F2, su⟩
          · rw [if_neg c1, ok_some]
            exact ⟨f, la, s, by rw [if_neg c0, if_neg c1], e2, F2, su⟩
      · rintro f3 k s hk hs K
        rw [lX12_future_355]
        simp only [bX12_future_355, bX12_future_388, if_neg (show ¬ (2048 : Int32) ≤ nI k from nI_ge (b := 2048) hk (by decide)), ck_of (nI_inb hk (by decide)), nI_ix (show k < 2 ^ 31 by omega), ck_of nz64, show nI k - nI k / 64 * 64 = nI (k % 64) from pk_rem (d := 64) (by omega) (by decide) (by decide), bit_eq0, bit_nI (show l < 32 by omega), lt_q, nI_1]
        have sk : ¬ (NB k ∧ (k % 64).testBit l = false) → Ok (lX12_future_355 f3 (nI l) w f la s (nI (k + 1)) h2) (fun p => ∃ f la su, p.1 = (if w = 0 then f else if w = 1 then la else su) ∧ Agr SM m p.2 ∧ FLy (evY S m l y g b0) y 60 False f la ∧ sur m (shY S m l y g b0 (60 - y)) su) := fun hn => K s (by
          rcases hs with ⟨q1, q2⟩ | q
          · refine .inl ⟨q1, fun k' hk' => ?_⟩
            by_cases ee : k' = k
            · subst ee; exact hn
            · exact q2 k' (by omega)
          · exact .inr q)
        rcases t2 k hk with ⟨q1, q2⟩ | ⟨q1, q2⟩
        · rw [q2, if_neg (by decide)]
          by_cases c1 : (k % 64).testBit l = false
          · rw [if_pos c1]
            exact K 0 (.inr ⟨rfl, k, hk, q1, c1⟩)
          · rw [if_neg c1]
            exact sk fun x => c1 x.2
        · rw [q2, if_pos rfl]
          exact sk fun x => q1 x.1
    · rintro f2 i ⟨f, la, h2⟩ hi ⟨e2, hyi, ⟨NB, ok, t2, ns⟩, F2⟩ K2
      simp only at e2 t2 ns F2
      obtain ⟨n1, n2, n3⟩ := nb_step (S := S) (y := i) hP hL ok (okj _) ns
      rw [lX12_future_129]
      simp only [bX12_future_129, if_neg (show ¬ (60 : Int32) ≤ nI i from nI_ge (b := 60) hi (by decide)), ok_bv, lt_q]
      refine (M_fillLooks D X e2 hP hL hi).mono ?_
      rintro h3 ⟨a3, R3⟩
      refine M_futYear D (e2.trans (a3.sub rfl)) hP hL hl hi hyi ok R3 (fun k hk => by rw [a3.i 55 _ rfl]; exact t2 k hk) (show evY S m l y g b0 i ↔ _ from n3) F2 fun f' la' h4 e4 t4 F4 => K2 (f', la', h4) ⟨e4, by omega, ⟨_, n1, t4, ?_⟩, F4⟩
      rw [shY_s hyi]
      exact n2
    · rw [Nat.sub_self]
      show _ ↔ k / 64 = g ∧ k % 64 = b0
      constructor
      · rintro ⟨rfl, _⟩; omega
      · rintro ⟨q1, q2⟩
        exact ⟨by omega, by rw [q2]; exact h0⟩
  · rintro f1 i h1 hi ⟨e1, t1⟩ K1
    rw [lX12_future_88]
    simp only [bX12_future_88, bX12_future_119, if_neg (show ¬ (2048 : Int32) ≤ nI i from nI_ge (b := 2048) hi (by decide)), e64, ck_of (nI_inb hi (by decide)), nI_ix (show i < 2 ^ 31 by omega), nar0, nar1, nI_eq (show i < 2 ^ 31 by omega) (show 64 * g + b0 < 2 ^ 31 by omega), lt_q, nI_1]
    have st : ∀ v, ((i = 64 * g + b0 ∧ v = 1) ∨ (¬ i = 64 * g + b0 ∧ v = 0)) → Ok (lX12_future_88 f1 (nI l) (nI y) (nI g) (nI b0) w (-2) (-2) (nI (i + 1)) (wI h1 55 i v)) (fun p => ∃ f la su, p.1 = (if w = 0 then f else if w = 1 then la else su) ∧ Agr SM m p.2 ∧ FLy (evY S m l y g b0) y 60 False f la ∧ sur m (shY S m l y g b0 (60 - y)) su) := fun v hv => K1 _ ⟨e1.wI rfl, fun k hk => by
      by_cases ee : k = i
      · subst ee; rw [wI_s]; exact hv
      · rw [wI_j ee]; exact t1 k (by omega)⟩
    by_cases c1 : i = 64 * g + b0
    · rw [if_pos c1]
      exact st 1 (.inl ⟨c1, rfl⟩)
    · rw [if_neg c1]
      exact st 0 (.inr ⟨c1, rfl⟩)
theorem sim_future0 {S : Sem} {F : Nat} {c m : Hp} (a1 a2 a3 a4 a5 : Int32) (Q : QH S F c m) : SimQ c m (fX11_future a1 a2 a3 a4 a5 c) (fX12_future a1 a2 a3 a4 a5 m) := by
  obtain ⟨D, R, XM', XC'⟩ := Q
  have p10 := p2_1024 D.2.1.1
  have l10 := p2_1024 D.2.2.2.2.1.1
  have D' := D
  obtain ⟨⟨d1, d2⟩, ⟨p1, p2, p3⟩, _, _, ⟨s1, s2, s3⟩, _⟩ := D'
  unfold fX11_future fX12_future
  simp only [bX11_future_40, bX11_future_41, M_hasLetter D .refl, C_isLetter D .refl, M_isYear, C_isYear, M_areSets D .refl, C_areThere D .refl, M_in, C_within, C_has, bi_q, b2_0, lt_q, d2, ck_of (nI_inb d1 (by decide)), nI_ix (show lv m < 2 ^ 31 by omega), p2, p3, s2, s3, bit_eq1, i10, ↓reduceIte]
  cases h1 : rng a1 0 (nI (nL m) - 1)
  · exact SimQ_no _
  · cases h2 : rng a2 0 59
    · exact SimQ_no _
    · cases h3 : (rng a3 0 (nI (2 ^ nP m) - 1) && rng a4 0 (nI (2 ^ nL m) - 1))
      · exact SimQ_no _
      · obtain ⟨l, hl, rfl⟩ := (rng_n (by omega)).mp h1
        obtain ⟨y, hy, rfl⟩ := rng_0 (n := 59) (by omega) h2
        rw [Bool.and_eq_true] at h3
        obtain ⟨g, hg, rfl⟩ := (rng_n (by omega)).mp h3.1
        obtain ⟨b, hb, rfl⟩ := (rng_n (by omega)).mp h3.2
        simp only [Bool.true_eq_false, ↓reduceIte, bit_nI (show l < 32 by omega)]
        cases h4 : rng a5 0 2
        · simp only [↓reduceIte, ite_self]
          exact SimQ_no _
        · cases h5 : b.testBit l
          · simp only [Bool.true_eq_false, Bool.false_eq_true, ↓reduceIte]
            by_cases hP : nP m ≤ 5
            · rw [if_neg (show ¬ (5 : Int32) < nI (nP m) from nI_nlt (a := 5) hP (by decide)), if_neg (show ¬ (5 : Int32) < nI (nP m) from nI_nlt (a := 5) hP (by decide))]
              by_cases hL : nL m ≤ 6
              · rw [if_pos (show nI (nL m) ≤ (6 : Int32) from nI_le (b := 6) hL (by decide)), if_pos (show nI (nL m) ≤ (6 : Int32) from nI_le (b := 6) hL (by decide))]
                obtain ⟨c1, ec, e1, F1, S1⟩ := C_foresee D XC' .refl hP hL hl (show y < 60 by omega) hg hb h5
                obtain ⟨⟨x, m1⟩, em, f, la, su, hx, e2, F2, S2⟩ := M_future D XM' .refl hP hL a5 hl (show y < 60 by omega) hg hb h5
                simp only at hx e2
                obtain ⟨u1, u2⟩ := FL_un F1 F2
                rw [ec, em, bv_q, u1, u2]
                subst hx
                by_cases c0 : a5 = 0
                · rw [if_pos c0, if_pos c0]
                  exact ⟨_, c1, m1, rfl, rfl, e1, e2⟩
                · rw [if_neg c0, if_neg c0]
                  by_cases c1' : a5 = 1
                  · rw [if_pos c1', if_pos c1']
                    exact ⟨_, c1, m1, rfl, rfl, e1, e2⟩
                  · rw [if_neg c1', if_neg c1']
                    rcases S1 with ⟨q1, q2⟩ | ⟨q1, d0, b0, q2⟩
                    · rcases S2 with ⟨q3, q4⟩ | ⟨q3, d0, b0, q4⟩
                      · rw [q1, q3, if_neg (by decide)]
                        exact ⟨_, c1, m1, rfl, rfl, e1, e2⟩
                      · exact absurd q4 (q2 d0 b0)
                    · rcases S2 with ⟨q3, q4⟩ | ⟨q3, q4⟩
                      · exact absurd q2 (q4 d0 b0)
                      · rw [q1, q3, if_pos rfl]
                        exact ⟨_, c1, m1, rfl, rfl, e1, e2⟩
              · rw [if_neg (show ¬ nI (nL m) ≤ (6 : Int32) from nI_ge (a := 6) (by omega) (by omega)), if_neg (show ¬ nI (nL m) ≤ (6 : Int32) from nI_ge (a := 6) (by omega) (by omega))]
                exact SimQ_no _
            · rw [if_pos (show (5 : Int32) < nI (nP m) from nI_lt (a := 5) (by omega) (by omega)), if_pos (show (5 : Int32) < nI (nP m) from nI_lt (a := 5) (by omega) (by omega))]
              exact SimQ_no _
          · simp only [Bool.true_eq_false, ↓reduceIte]
            exact SimQ_no _
