/-- two runs side by side -/
def YM (N : Nat) (R : Run) (h : Hp) : Prop := ∀ l, l < N → h.1 52 l = R 0 l ∧ h.1 53 l = R 1 l
theorem M_keeps {m h : Hp} {R : Run} {ls : List Nat} (hN : nL m ≤ 10) (H : KM (nL m) R ls h) : Ok (fX12_keepsYearly h) (fun h' => YM (nL m) R h' ∧ Agr [(52, none), (53, none)] h h') := by
  unfold fX12_keepsYearly
  rw [lt_e]
  refine up0 (fun f i h => lX12_keepsYearly_2 f (nI i) h) 10 (by decide) (fun i h' => Agr [(52, none), (53, none)] h h' ∧ ∀ l, l < i → h'.1 52 l = h.1 44 l ∧ h'.1 53 l = h.1 45 l) h ⟨.refl, fun l hl => absurd hl (by omega)⟩ ?_ ?_
  · rintro f h' ⟨a, hI⟩
    simp only [lX12_keepsYearly_2, bX12_keepsYearly_2, if_pos (show (10 : Int32) ≤ nI 10 by decide), ok_some]
    refine ⟨fun l hl => ?_, a⟩
    have := hI l (by omega)
    rw [this.1, this.2]
    exact ⟨H.st hl, H.si hl⟩
  · rintro f i h' hi ⟨a, hI⟩ K
    have q : ∀ v, (wI h' 52 i v).1 45 i = h'.1 45 i := fun v => wI_k (by decide)
    simp only [lX12_keepsYearly_2, bX12_keepsYearly_2, if_neg (show ¬ (10 : Int32) ≤ nI i from nI_ge (b := 10) hi (by decide)), ck_of (nI_inb hi (show (10 : Nat) < 2 ^ 31 by decide)), nI_ix (show i < 2 ^ 31 by omega), lt_e, nI_1, q]
    refine K _ ⟨(a.wI rfl).wI rfl, fun l hl => ?_⟩
    by_cases e : l = i
    · subst e
      rw [wI_s, wI_k (by decide), wI_s, a.i 44 l rfl, a.i 45 l rfl]; exact ⟨rfl, rfl⟩
    · rw [wI_k (by decide), wI_j e, wI_j e, wI_k (by decide)]; exact hI l (by omega)
theorem M_runsY {S : Sem} {F n k : Nat} {c m h : Hp} {tr : Bool} {R1 : Run} (Q : QH S F c m) (e : Agr SM m h) (hn : n ≤ F) (k0 : 0 < k) (k31 : k < 2 ^ 31) (Y : YM (nL m) R1 h) : Ok (fX12_runs (nI n) (nI k) 0 0 (b2 tr) 59 h) (fun h' => (∃ ls, KM (nL m) (runS S m n tr (qk k) 60).1 ls h') ∧ YM (nL m) R1 h' ∧ Agr SM m h') := by
  obtain ⟨D, RF, XM', XC'⟩ := Q
  have w := M_runs (tr := tr) (la := 59) D XM' RF hn (lkq_k (aa := 0) (bb := 0) k0 k31) e (by decide)
  rw [n59, show 59 + 1 = 60 from rfl] at w
  refine w.mono ?_
  rintro h2 ⟨H2, a2⟩
  refine ⟨⟨_, H2⟩, fun l hl => ?_, e.trans (a2.sub rfl)⟩
  rw [a2.i 52 l rfl, a2.i 53 l rfl]; exact Y l hl
/-- the model's yearly run, and another one -/
theorem M_two {S : Sem} {F n k : Nat} {c m h : Hp} {tr : Bool} {β : Type} {g : Hp → Option β} {P : β → Prop} (Q : QH S F c m) (e : Agr SM m h) (hn : n ≤ F) (k0 : 0 < k) (k31 : k < 2 ^ 31)
    (K : ∀ h' ls, KM (nL m) (runS S m n tr (qk k) 60).1 ls h' → YM (nL m) (runS S m n false (qk 1) 60).1 h' → Agr SM m h' → Ok (g h') P) :
    Ok (bv (fX12_runsAll (nI n) h) (fun h7 => bv (fX12_keepsYearly h7) (fun h8 => bv (fX12_runs (nI n) (nI k) 0 0 (b2 tr) 59 h8) g))) P := by
  have s1 := Q.1.2.2.2.2.1.1
  rw [ok_bv]
  refine (M_runsAll Q e hn).mono ?_
  rintro h1 ⟨H1, e1⟩
  rw [ok_bv]
  refine (M_keeps s1 H1).mono ?_
  rintro h2 ⟨Y2, a2⟩
  rw [ok_bv]
  refine (M_runsY (tr := tr) Q (e1.trans (a2.sub rfl)) hn k0 k31 Y2).mono ?_
  rintro h3 ⟨⟨ls, H3⟩, Y3, e3⟩
  exact K h3 ls H3 Y3 e3
theorem C_walk1 {S : Sem} {F n : Nat} {c m h : Hp} (Q : QH S F c m) (e : Agr SC c h) (hn : n ≤ F) {β : Type} {g : Hp → Option β} {P : β → Prop}
    (K : ∀ h', KC 182 (nL m) (runS S m n false (qk 1) 60).1 (runS S m n false (qk 1) 60).2 false h' → ARR m n h' → Agr SC c h' → Ok (g h') P) : Ok (bv (fX3_arrange (nI n) h) (fun h1 => bv (fX1_walk 182 1 59 0 h1) g)) P := by
  obtain ⟨D, RF, XM', XC'⟩ := Q
  rw [ok_bv]
  refine (C_arrange RF hn e).mono ?_
  rintro h1 ⟨ar, a1⟩
  have e1 : Agr SC c h1 := e.trans (a1.sub rfl)
  rw [ok_bv]
  have w := C_walk (tr := false) (la := 59) (k := 1) D XC' RF hn (show isC 182 from .inl rfl) (by decide) (by decide) e1 ar (by decide)
  rw [b2_f, n59, n1, show 59 + 1 = 60 from rfl] at w
  refine w.mono ?_
  rintro h2 ⟨H2, a2⟩
  exact K h2 H2 (ARR_cf ar (.inl rfl) a2) (e1.trans (a2.agr (.inl rfl)))
theorem C_walk2 {S : Sem} {F n k : Nat} {c m h : Hp} {tr : Bool} {R1 : Run} {l1 : List Nat} (Q : QH S F c m) (e : Agr SC c h) (hn : n ≤ F) (k0 : 0 < k) (k31 : k < 2 ^ 31) (ar : ARR m n h) (H1 : KC 182 (nL m) R1 l1 false h) :
    Ok (fX1_walk 190 (nI k) 59 (b2 tr) h) (fun h' => KC 190 (nL m) (runS S m n tr (qk k) 60).1 (runS S m n tr (qk k) 60).2 tr h' ∧ KC 182 (nL m) R1 l1 false h' ∧ ARR m n h' ∧ Agr SC c h') := by
  obtain ⟨D, RF, XM', XC'⟩ := Q
  have w := C_walk (tr := tr) (la := 59) (k := k) D XC' RF hn (show isC 190 from .inr (.inl rfl)) k0 k31 e ar (by decide)
  rw [n59, show 59 + 1 = 60 from rfl] at w
  refine w.mono ?_
  rintro h2 ⟨H2, a2⟩
  exact ⟨H2, KC_cf H1 (.inl rfl) (.inr (.inl rfl)) (by decide) a2, ARR_cf ar (.inr (.inl rfl)) a2, e.trans (a2.agr (.inr (.inl rfl)))⟩
/-- how late a letter is opened -/
def latS (R1 R2 : Run) (l : Nat) : Int32 := if R1 0 l = 1 ∧ R2 0 l = 1 then R2 1 l - R1 1 l else if R1 0 l = 2 ∧ R2 0 l = 2 then 0 else -2
theorem C_bothHave {m h : Hp} {R1 R2 : Run} {l1 l2 : List Nat} {t1 t2 : Bool} (hN : nL m ≤ 10) (H1 : KC 182 (nL m) R1 l1 t1 h) (H2 : KC 190 (nL m) R2 l2 t2 h) {l : Nat} (hl : l < nL m) (v : Int32) : fX2_bothHave v (nI l) h = some (b2 (decide (R1 0 l = v ∧ R2 0 l = v)), h) := by
  have q1 : h.1 183 l = R1 0 l := H1.st hl
  have q2 : h.1 191 l = R2 0 l := H2.st hl
  simp only [fX2_bothHave, ck_of (nI_inb (n := l) (N := 10) (by omega) (by decide)), nI_ix (show l < 2 ^ 31 by omega), q1, q2, ck_of zb_0, ck_of zb_1]
  by_cases c1 : R1 0 l = v
  · rw [if_pos c1]
    by_cases c2 : R2 0 l = v
    · rw [if_pos c2, decide_eq_true ⟨c1, c2⟩]; rfl
    · rw [if_neg c2, decide_eq_false fun x => c2 x.2]; rfl
  · rw [if_neg c1, decide_eq_false fun x => c1 x.1]; rfl
theorem C_lateOf {m h : Hp} {R1 R2 : Run} {l1 l2 : List Nat} {t1 t2 : Bool} (hN : nL m ≤ 10) (H1 : KC 182 (nL m) R1 l1 t1 h) (H2 : KC 190 (nL m) R2 l2 t2 h) {l : Nat} (hl : l < nL m) : fX2_lateOf (nI l) h = some (latS R1 R2 l, h) := by
  have q1 : h.1 184 l = R1 1 l := H1.si hl
  have q2 : h.1 192 l = R2 1 l := H2.si hl
  simp only [fX2_lateOf, C_bothHave hN H1 H2 hl, bi_some, b2_0, decide_eq_false_iff_not, ck_of (nI_inb (n := l) (N := 10) (by omega) (by decide)), nI_ix (show l < 2 ^ 31 by omega), q1, q2]
  unfold latS
  by_cases c1 : R1 0 l = 1 ∧ R2 0 l = 1
  · rw [if_neg (fun x => x c1), if_pos c1]
  · rw [if_pos c1, if_neg c1]
    by_cases c2 : R1 0 l = 2 ∧ R2 0 l = 2
    · rw [if_neg (fun x => x c2), if_pos c2]
    · rw [if_pos c2, if_neg c2]
theorem sim_late0 {S : Sem} {F : Nat} {c m : Hp} (a1 a2 a3 : Int32) (Q : QH S F c m) : SimQ c m (fX11_late a1 a2 a3 c) (fX12_late a1 a2 a3 m) := by
  obtain ⟨D, RF, XM', XC'⟩ := Q
  have Q : QH S F c m := ⟨D, RF, XM', XC'⟩
  have s1 := D.2.2.2.2.1.1
  have h60 := RF.1
  simp only [fX11_late, fX12_late, M_hasLetter D .refl, C_isLetter D .refl, M_isKnown RF .refl, C_isKnown RF .refl, M_isEach, C_isLook, bi_some, bi_id]
  cases h1 : rng a1 0 (nI (nL m) - 1)
  · exact SimQ_no (-1)
  · cases h2 : rng a2 0 (nI F)
    · exact SimQ_no (-1)
    · cases h3 : rng a3 1 20
      · exact SimQ_no (-1)
      · obtain ⟨l, hl, rfl⟩ := (rng_n (by omega)).mp h1
        obtain ⟨n, hn, rfl⟩ := rng_0 (by omega) h2
        obtain ⟨k, k1, k20, rfl⟩ := (rng_c (a := 1) (n := 20) (by decide) (by decide)).mp h3
        simp only [b2_t, i10, ↓reduceIte, ck_of (nI_inb (n := l) (N := 10) (by omega) (by decide)), nI_ix (show l < 2 ^ 31 by omega)]
        refine SimQ_of (latS (runS S m n false (qk 1) 60).1 (runS S m n false (qk k) 60).1 l) ?_ ?_
        · rw [ok_bv]
          unfold fX2_walkBoth
          refine C_walk1 Q .refl hn ?_
          intro h' H1 ar e'
          rw [ok_bv]
          have w := C_walk2 (tr := false) (k := k) Q e' hn (by omega) (by omega) ar H1
          rw [b2_f] at w
          refine w.mono ?_
          rintro h3 ⟨H2, H1', _, e3⟩
          rw [ok_some, C_lateOf s1 H1' H2 hl, ok_some]
          exact ⟨rfl, e3⟩
        · have w := M_two (tr := false) (k := k) (n := n) (h := m) (g := fun h9 => ((if (h9.1 44 l) = (h9.1 52 l) then ((if (h9.1 44 l) = 1 then (some (((h9.1 45 l) - (h9.1 53 l)), h9)) else ((if (h9.1 44 l) = 2 then some (0, h9) else some ((-2), h9))))) else some ((-2), h9)))) (P := fun p => p.1 = latS (runS S m n false (qk 1) 60).1 (runS S m n false (qk k) 60).1 l ∧ Agr SM m p.2) Q .refl hn (by omega) (by omega) ?_
          · rw [b2_f] at w
            exact w
          · intro h' ls H2 Y e'
            simp only [H2.st hl, H2.si hl, (Y l hl).1, (Y l hl).2]
            generalize (runS S m n false (qk 1) 60).1 = R1 at *
            generalize (runS S m n false (qk k) 60).1 = R2 at *
            unfold latS
            by_cases c0 : R2 0 l = R1 0 l
            · rw [if_pos c0, ← c0]
              by_cases c1 : R2 0 l = 1
              · rw [if_pos c1, if_pos ⟨c1, c1⟩, ok_some]; exact ⟨rfl, e'⟩
              · rw [if_neg c1, if_neg (show ¬ (R2 0 l = 1 ∧ R2 0 l = 1) from fun x => c1 x.2)]
                by_cases c2 : R2 0 l = 2
                · rw [if_pos c2, if_pos ⟨c2, c2⟩, ok_some]; exact ⟨rfl, e'⟩
                · rw [if_neg c2, if_neg (show ¬ (R2 0 l = 2 ∧ R2 0 l = 2) from fun x => c2 x.2), ok_some]; exact ⟨rfl, e'⟩
            · rw [if_neg c0, if_neg fun x => c0 (x.2.trans x.1.symm), if_neg fun x => c0 (x.2.trans x.1.symm), ok_some]
              exact ⟨rfl, e'⟩
/-- too soon -/
def tosS (R1 R2 : Run) (l : Nat) : Bool := decide (R1 0 l = 1) && !(decide (R2 0 l = 1) && decide (R2 1 l ≤ R1 1 l))
theorem sim_tooSoon0 {S : Sem} {F : Nat} {c m : Hp} (a1 : Int32) (Q : QH S F c m) : SimQ c m (fX11_tooSoon a1 c) (fX12_tooSoon a1 m) := by
  obtain ⟨D, RF, XM', XC'⟩ := Q
  have Q : QH S F c m := ⟨D, RF, XM', XC'⟩
  have D' := D
  obtain ⟨⟨d1, d2⟩, _, _, _, ⟨s1, s2, s3⟩, _⟩ := D'
  have h60 := RF.1
  simp only [fX11_tooSoon, fX12_tooSoon, M_isKnown RF .refl, C_isKnown RF .refl, bi_some, bi_id, lt_e]
  cases h2 : rng a1 0 (nI F)
  · exact SimQ_no (-1)
  · obtain ⟨n, hn, rfl⟩ := rng_0 (by omega) h2
    simp only [b2_t, i10, ↓reduceIte]
    refine SimQ_of (mskS (tosS (runS S m n false (qk 1) 60).1 (runS S m n true (qk 1) 60).1) (nL m)) ?_ ?_
    · unfold fX2_soonerThanTruth
      refine C_walk1 Q .refl hn ?_
      intro h' H1 ar e'
      rw [ok_bv]
      have w := C_walk2 (tr := true) (k := 1) Q e' hn (by omega) (by omega) ar H1
      rw [b2_t, n1] at w
      refine w.mono ?_
      rintro h3 ⟨H2, H1', _, e3⟩
      simp only [lt_e]
      generalize (runS S m n false (qk 1) 60).1 = R1 at *
      generalize (runS S m n true (qk 1) 60).1 = R2 at *
      refine up0 (fun f i s => lX2_soonerThanTruth_34 f s (nI i) h3) (nL m) (by omega) (fun i s => s = mskS (tosS R1 R2) i) 0 rfl ?_ ?_
      · intro f s hs
        simp only [lX2_soonerThanTruth_34, bX2_soonerThanTruth_34, e3.i 108 9 rfl, s3, if_pos (nI_le (Nat.le_refl (nL m)) (show nL m < 2 ^ 31 by omega)), ok_some]
        exact ⟨hs, e3⟩
      · intro f l s hl hs K
        have q1 : h3.1 183 l = R1 0 l := H1'.st hl
        have q2 : h3.1 184 l = R1 1 l := H1'.si hl
        have q3 : h3.1 191 l = R2 0 l := H2.st hl
        have q4 : h3.1 192 l = R2 1 l := H2.si hl
        simp only [lX2_soonerThanTruth_34, bX2_soonerThanTruth_34, bX2_soonerThanTruth_83, bX2_soonerThanTruth_84, bX2_soonerThanTruth_110, e3.i 108 9 rfl, s3, if_neg (nI_ge hl (show nL m < 2 ^ 31 by omega)), ck_of (nI_inb (n := l) (N := 10) (by omega) (by decide)), nI_ix (show l < 2 ^ 31 by omega), q1, q2, q3, q4, lt_e, nI_1, i10, ↓reduceIte]
        have kk : ∀ b, tosS R1 R2 l = b → Ok (lX2_soonerThanTruth_34 f (if b = true then s ||| ((1 : Int32) <<< (nI l &&& 31)) else s) (nI (l + 1)) h3) (fun p => p.1 = mskS (tosS R1 R2) (nL m) ∧ Agr SC c p.2) := fun b hb => by
          apply K
          rw [mskS_s, hb, hs]
        by_cases c2 : R2 0 l = 1
        · rw [if_pos c2]
          by_cases c3 : R2 1 l ≤ R1 1 l
          · rw [if_neg (i_nlt.mpr c3), ite_self]
            exact kk false (by unfold tosS; rw [decide_eq_true c2, decide_eq_true c3]; simp)
          · rw [if_pos (i_nle.mp c3)]
            by_cases c1 : R1 0 l = 1
            · rw [if_pos c1]; exact kk true (by unfold tosS; rw [decide_eq_true c1, decide_eq_false c3]; simp)
            · rw [if_neg c1]; exact kk false (by unfold tosS; rw [decide_eq_false c1]; simp)
        · rw [if_neg c2]
          by_cases c1 : R1 0 l = 1
          · rw [if_pos c1]; exact kk true (by unfold tosS; rw [decide_eq_true c1, decide_eq_false c2]; simp)
          · rw [if_neg c1]; exact kk false (by unfold tosS; rw [decide_eq_false c1]; simp)
    · have w := M_two (tr := true) (k := 1) (n := n) (h := m) (g := fun h5 => lX12_tooSoon_34 FU 0 0 h5) (P := fun p => p.1 = mskS (tosS (runS S m n false (qk 1) 60).1 (runS S m n true (qk 1) 60).1) (nL m) ∧ Agr SM m p.2) Q .refl hn (by omega) (by omega) ?_
      · rw [b2_t, n1] at w
        exact w
      · intro h3 ls H2 Y e3
        generalize (runS S m n false (qk 1) 60).1 = R1 at *
        generalize (runS S m n true (qk 1) 60).1 = R2 at *
        refine up0 (fun f i s => lX12_tooSoon_34 f s (nI i) h3) (nL m) (by omega) (fun i s => s = mskS (tosS R1 R2) i) 0 rfl ?_ ?_
        · intro f s hs
          simp only [lX12_tooSoon_34, bX12_tooSoon_34, e3.i 0 18 rfl, d2, ck_of (nI_inb d1 (by decide)), nI_ix (show lv m < 2 ^ 31 by omega), e3.i 17 _ rfl, s2, if_pos (nI_le (Nat.le_refl (nL m)) (show nL m < 2 ^ 31 by omega)), ok_some]
          exact ⟨hs, e3⟩
        · intro f l s hl hs K
          simp only [lX12_tooSoon_34, bX12_tooSoon_34, bX12_tooSoon_88, bX12_tooSoon_82, e3.i 0 18 rfl, d2, ck_of (nI_inb d1 (by decide)), nI_ix (show lv m < 2 ^ 31 by omega), e3.i 17 _ rfl, s2, if_neg (nI_ge hl (show nL m < 2 ^ 31 by omega)), ck_of (nI_inb (n := l) (N := 10) (by omega) (by decide)), nI_ix (show l < 2 ^ 31 by omega), H2.st hl, H2.si hl, (Y l hl).1, (Y l hl).2, lt_e, nI_1]
          have kk : ∀ b, tosS R1 R2 l = b → Ok (lX12_tooSoon_34 f (if b = true then s ||| ((1 : Int32) <<< (nI l &&& 31)) else s) (nI (l + 1)) h3) (fun p => p.1 = mskS (tosS R1 R2) (nL m) ∧ Agr SM m p.2) := fun b hb => by
            apply K
            rw [mskS_s, hb, hs]
          by_cases c1 : R1 0 l = 1
          · rw [if_pos c1]
            by_cases c2 : R2 0 l = 1
            · rw [if_pos c2]
              by_cases c3 : R2 1 l ≤ R1 1 l
              · rw [if_pos c3]; exact kk false (by unfold tosS; rw [decide_eq_true c2, decide_eq_true c3]; simp)
              · rw [if_neg c3]; exact kk true (by unfold tosS; rw [decide_eq_true c1, decide_eq_false c3]; simp)
            · rw [if_neg c2]; exact kk true (by unfold tosS; rw [decide_eq_true c1, decide_eq_false c2]; simp)
          · rw [if_neg c1]; exact kk false (by unfold tosS; rw [decide_eq_false c1]; simp)
