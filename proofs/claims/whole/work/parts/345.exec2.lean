theorem C_compared {o : Nat} {a b : Int32} {br : Bool} {h : Hp} (h9 : 9 ≤ o) (h12 : o ≤ 12) (hb : h.1 147 7 = b2 br) : Ok (fX6_compared (nI o) a b h) (fun r => r.1 = b2 (!br && cmpS (o - 9) a b) ∧ Agr [(147, some 7)] h r.2 ∧ r.2.1 147 7 = b2 false) := by
  have f105 : ∀ (w so : Bool) (g : Hp), bX6_compared_105 (b2 w) (b2 so) g = some (b2 (w && so), g) := fun w so g => by
    unfold bX6_compared_105
    cases w <;> cases so <;> rfl
  have key : ∀ w : Bool, Ok (bX6_compared_12 (nI o) a b (b2 w) h) (fun r => r.1 = b2 (w && cmpS (o - 9) a b) ∧ Agr [(147, some 7)] h r.2 ∧ r.2.1 147 7 = b2 false) := fun w => by
    have fin : ∀ so : Bool, so = cmpS (o - 9) a b → Ok (some (b2 (w && so), wI h 147 7 0)) (fun r => r.1 = b2 (w && cmpS (o - 9) a b) ∧ Agr [(147, some 7)] h r.2 ∧ r.2.1 147 7 = b2 false) := fun so hs => by
      rw [ok_some, hs]
      exact ⟨rfl, Agr.refl.wI rfl, wI_s⟩
    have ft := fun g => f105 w true g
    have ff := fun g => f105 w false g
    simp only [b2_t] at ft
    simp only [b2_f] at ff
    simp only [bX6_compared_12, bX6_compared_58, bX6_compared_73, bX6_compared_88, bX6_compared_103, lt_q, ck_of zb_0, ft, ff]
    have ho : o = 9 ∨ o = 10 ∨ o = 11 ∨ o = 12 := by omega
    rcases ho with rfl | rfl | rfl | rfl
    · rw [if_neg (show ¬ ((nI 9).toInt < 9 ∨ 11 < (nI 9).toInt) by decide), if_pos (show nI 9 = 9 from rfl)]
      by_cases c : a = b
      · rw [if_pos c]; exact fin true (by unfold cmpS; rw [if_pos (by decide), decide_eq_true c])
      · rw [if_neg c]; exact fin false (by unfold cmpS; rw [if_pos (by decide), decide_eq_false c])
    · rw [if_neg (show ¬ ((nI 10).toInt < 9 ∨ 11 < (nI 10).toInt) by decide), if_neg (show ¬ nI 10 = 9 by decide), if_pos (show nI 10 = 10 from rfl)]
      by_cases c : a = b
      · rw [if_pos c]; exact fin false (by unfold cmpS; rw [if_neg (by decide), if_pos (by decide), decide_eq_true c]; rfl)
      · rw [if_neg c]; exact fin true (by unfold cmpS; rw [if_neg (by decide), if_pos (by decide), decide_eq_false c]; rfl)
    · rw [if_neg (show ¬ ((nI 11).toInt < 9 ∨ 11 < (nI 11).toInt) by decide), if_neg (show ¬ nI 11 = 9 by decide), if_neg (show ¬ nI 11 = 10 by decide), if_pos (show nI 11 = 11 from rfl)]
      by_cases c : a < b
      · rw [if_neg (i_nle.mpr c)]; exact fin true (by unfold cmpS; rw [if_neg (by decide), if_neg (by decide), if_pos (by decide), decide_eq_true c])
      · rw [if_pos (i_nlt.mp c)]; exact fin false (by unfold cmpS; rw [if_neg (by decide), if_neg (by decide), if_pos (by decide), decide_eq_false c])
    · rw [if_pos (show ((nI 12).toInt < 9 ∨ 11 < (nI 12).toInt) by decide)]
      by_cases c : a ≤ b
      · rw [if_neg (i_nlt.mpr c)]; exact fin true (by unfold cmpS; rw [if_neg (by decide), if_neg (by decide), if_neg (by decide), decide_eq_true c])
      · rw [if_pos (i_nle.mp c)]; exact fin false (by unfold cmpS; rw [if_neg (by decide), if_neg (by decide), if_neg (by decide), decide_eq_false c])
  unfold fX6_compared
  rw [hb]
  cases br
  · rw [if_pos (by decide)]
    have := key true
    rw [b2_t] at this
    exact this
  · rw [if_neg (by decide)]
    have := key false
    rw [b2_f] at this
    exact this
theorem C_valueOf {vs : Nat → Int32} {d b : Int32} {s : Ex} {h : Hp} {o x : Nat} (E : EXC vs d b s h) (ho : o = 3 ∨ (28 ≤ o ∧ o ≤ 33)) : fX6_valueOf (nI o) (nI x) h = some (vlS vs d b o x, h) := by
  obtain ⟨_, _, e3, e4, e5⟩ := E
  have nk : ∀ c : Nat, c < 256 → (nI o = nI c ↔ o = c) := fun c hc => nI_eq (by omega) (by omega)
  have k3 : (nI o = 3) ↔ o = 3 := nk 3 (by decide)
  have k28 : (nI o = 28) ↔ o = 28 := nk 28 (by decide)
  have k29 : (nI o = 29) ↔ o = 29 := nk 29 (by decide)
  simp only [fX6_valueOf, k3, k28, k29, e4, e5]
  unfold vlS
  by_cases c3 : o = 3
  · rw [if_pos c3, if_pos c3]
  · rw [if_neg c3, if_neg c3]
    by_cases c28 : o = 28
    · rw [if_pos c28, if_pos c28]
    · rw [if_neg c28, if_neg c28]
      by_cases c29 : o = 29
      · rw [if_pos c29, if_pos c29]
      · have es : nI o - 30 = nI (o - 30) := by rw [show (30 : Int32) = nI 30 from rfl, pk_sub (by omega)]
        rw [if_neg c29, if_neg c29, if_neg (show ¬ nI o < (30 : Int32) from nI_nlt (b := 30) (by omega) (by omega)), if_neg (show ¬ (33 : Int32) < nI o from nI_nlt (a := 33) (by omega) (by decide)), es, ck_of (nI_inb (n := o - 30) (N := 4) (by omega) (by decide)), nI_ix (by omega), e3 _ (by omega)]
theorem C_execL {c : Hp} {vs : Nat → Int32} {d b : Int32} {cs : Nat} (hcs : c.1 108 11 = nI cs) (h400 : cs ≤ 400) : ∀ (W : Cd) (i : Nat) (s s' : Ex) (h : Hp) (f : Nat), cwC c i W → i + W.length ≤ cs → wgo vs d b W s = some s' → s.1 ≤ 64 → W.length < f → Agr SC c h → EXC vs d b s h →
    Ok (lX6_execute_14 f (nI (i + W.length)) (nI s.1) (nI i) h) (fun r => Agr TC h r.2 ∧ r.2.1 147 7 = b2 s'.2.2 ∧ (0 < s'.1 → r.1 = s'.2.1 0)) := by
  intro W
  induction W with
  | nil =>
    intro i s s' h f hc hi hg ht hf ea E
    obtain ⟨g, rfl⟩ : ∃ g, f = g + 1 := ⟨f - 1, by omega⟩
    rw [wgo] at hg
    cases hg
    rw [lX6_execute_14]
    simp only [bX6_execute_14, bX6_execute_241, List.length_nil, Nat.add_zero, if_pos (nI_le (Nat.le_refl i) (show i < 2 ^ 31 by simp at hi; omega)), ck_of (show inb 0 64 = true from rfl), ok_some]
    exact ⟨.refl, E.2.1, fun h => E.1 0 h⟩
  | cons x W ih =>
    intro i s s' h f hc hi hg ht hf ea E
    obtain ⟨g, rfl⟩ : ∃ g, f = g + 1 := ⟨f - 1, by omega⟩
    rw [List.length_cons] at hi hf
    obtain ⟨c1, c2, c3⟩ := cwC_h hc
    have ct := cwC_t hc
    rw [wgo] at hg
    by_cases wk : wok x.1 s.1 = true
    · rw [if_pos wk] at hg
      obtain ⟨t, p, br⟩ := s
      simp only at wk hg ht
      have E' := E
      obtain ⟨e1, e2, e3, e4, e5⟩ := E'
      simp only at e1 e2
      have nk : ∀ c : Nat, c < 256 → (nI x.1 = nI c ↔ x.1 = c) := fun c hc => nI_eq (by omega) (by omega)
      have k3 : (nI x.1 = 3) ↔ x.1 = 3 := nk 3 (by decide)
      have k27 : (nI x.1 = 27) ↔ x.1 = 27 := nk 27 (by decide)
      have l28 : (nI x.1 < 28) ↔ x.1 < 28 := nI_ltI (b := 28) (by omega) (by decide)
      have l9 : (nI x.1 < 9) ↔ x.1 < 9 := nI_ltI (b := 9) (by omega) (by decide)
      have l12 : ((12 : Int32) < nI x.1) ↔ 12 < x.1 := nI_ltI (a := 12) (by decide) (by omega)
      rw [List.length_cons, show i + (W.length + 1) = i + 1 + W.length by omega, lX6_execute_14]
      simp only [bX6_execute_14, bX6_execute_76, bX6_execute_81, bX6_execute_114, bX6_execute_147, bX6_execute_196, bX6_execute_197, bX6_execute_234, bX6_execute_235, if_neg (nI_ge (show i < i + 1 + W.length by omega) (show i + 1 + W.length < 2 ^ 31 by omega)), ea.i 108 11 rfl, hcs, if_neg (nI_ge (show i < cs by omega) (show cs < 2 ^ 31 by omega)), ck_of (nI_inb (n := i) (N := 400) (by omega) (by decide)), nI_ix (show i < 2 ^ 31 by omega), ea.i 112 _ rfl, c1, w_op c2 c3, w_ar c2 c3, lt_q, k3, k27, l28, l9, l12, i10, ↓reduceIte]
      have nx : ∀ (s1 : Ex) (h' : Hp), wst vs d b x (t, p, br) = s1 → s1.1 ≤ 64 → Agr TC h h' → EXC vs d b s1 h' → Ok (lX6_execute_14 g (nI (i + 1 + W.length)) (nI s1.1) (nI i + 1) h') (fun r => Agr TC h r.2 ∧ r.2.1 147 7 = b2 s'.2.2 ∧ (0 < s'.1 → r.1 = s'.2.1 0)) := by
        intro s1 h' hs1 h64 a' E1
        rw [hs1] at hg
        rw [nI_1]
        refine (ih (i + 1) s1 s' h' g ct (by omega) hg h64 (by omega) (ea.trans (a'.sub rfl)) E1).mono ?_
        rintro r ⟨a2, r2⟩
        exact ⟨a'.trans a2, r2⟩
      have put : ∀ (j t' : Nat) (v : Int32) (br' : Bool) (h1 : Hp), Agr TC h h1 → h1.1 147 7 = b2 br' → (∀ k, k < t' → k ≠ j → h1.1 148 k = p k) → wst vs d b x (t, p, br) = (t', upN p j v, br') → t' ≤ 64 → Ok (lX6_execute_14 g (nI (i + 1 + W.length)) (nI t') (nI i + 1) (wI h1 148 j v)) (fun r => Agr TC h r.2 ∧ r.2.1 147 7 = b2 s'.2.2 ∧ (0 < s'.1 → r.1 = s'.2.1 0)) := by
        intro j t' v br' h1 a1 hbr hst hw h64
        refine nx (t', upN p j v, br') _ hw h64 (a1.wI rfl) ⟨fun k hk => ?_, by rw [wI_k (by decide)]; exact hbr, fun u hu => by rw [wI_k (by decide), a1.i 149 u rfl]; exact e3 u hu, by rw [wI_k (by decide), a1.i 147 5 rfl]; exact e4, by rw [wI_k (by decide), a1.i 147 6 rfl]; exact e5⟩
        show (wI h1 148 j v).1 148 k = upN p j v k
        by_cases ek : k = j
        · subst ek; rw [wI_s, upN_s]
        · rw [wI_j ek, upN_n ek]; exact hst k hk ek
      by_cases cv : x.1 = 3 ∨ (28 ≤ x.1 ∧ x.1 ≤ 33)
      · have t64 : t < 64 := by
          unfold wok at wk
          rw [if_pos cv, decide_eq_true_iff] at wk
          exact wk
        have hw : wst vs d b x (t, p, br) = (t + 1, upN p t (vlS vs d b x.1 x.2), br) := by unfold wst; rw [if_pos cv]
        have go : Ok (lX6_execute_14 g (nI (i + 1 + W.length)) (nI t + 1) (nI i + 1) (wI h 148 t (vlS vs d b x.1 x.2))) (fun r => Agr TC h r.2 ∧ r.2.1 147 7 = b2 s'.2.2 ∧ (0 < s'.1 → r.1 = s'.2.1 0)) := by
          rw [nI_1 t]
          exact put t (t + 1) _ br h .refl e2 (fun k hk hkt => e1 k (by omega)) hw (by omega)
        simp only [if_neg (show ¬ (64 : Int32) ≤ nI t from nI_ge (b := 64) t64 (by decide)), C_valueOf E cv, bi_q, ck_of (nI_inb (n := t) (N := 64) t64 (by decide)), nI_ix (show t < 2 ^ 31 by omega)]
        by_cases c3 : x.1 = 3
        · rw [if_pos c3]; exact go
        · rw [if_neg c3, if_neg (by omega)]; exact go
      · have x28 : x.1 < 28 := by
          unfold wok at wk
          rw [if_neg cv] at wk
          by_cases c27 : x.1 = 27
          · omega
          · rw [if_neg c27] at wk
            by_cases cb : (5 ≤ x.1 ∧ x.1 ≤ 12) ∨ x.1 = 25 ∨ x.1 = 26
            · omega
            · rw [if_neg cb] at wk; cases wk
        rw [if_neg (show ¬ x.1 = 3 from fun y => cv (.inl y)), if_pos x28]
        by_cases c27 : x.1 = 27
        · have tt : 1 ≤ t ∧ t ≤ 64 := by
            unfold wok at wk
            rw [if_neg cv, if_pos c27, decide_eq_true_iff] at wk
            exact wk
          have hw : wst vs d b x (t, p, br) = (t, upN p (t - 1) (1 - p (t - 1)), br) := by unfold wst; rw [if_neg cv, if_pos c27]
          rw [if_pos c27, if_neg (show ¬ nI t < (1 : Int32) from nI_nlt (b := 1) tt.1 (by omega)), nI_sub1 tt.1, ck_of (nI_inb (n := t - 1) (N := 64) (by omega) (by decide)), ck_of (nI_inb (n := t - 1) (N := 64) (by omega) (by decide)), nI_ix (show t - 1 < 2 ^ 31 by omega), e1 (t - 1) (by omega)]
          exact put (t - 1) t _ br h .refl e2 (fun k hk _ => e1 k hk) hw tt.2
        · have cb : ((5 ≤ x.1 ∧ x.1 ≤ 12) ∨ x.1 = 25 ∨ x.1 = 26) ∧ 2 ≤ t ∧ t ≤ 64 := by
            unfold wok at wk
            rw [if_neg cv, if_neg c27] at wk
            by_cases cb : (5 ≤ x.1 ∧ x.1 ≤ 12) ∨ x.1 = 25 ∨ x.1 = 26
            · rw [if_pos cb, decide_eq_true_iff] at wk; exact ⟨cb, wk⟩
            · rw [if_neg cb] at wk; cases wk
          obtain ⟨cb, t2, t64⟩ := cb
          have et : nI t + (-1) = nI (t - 1) := by
            obtain ⟨u, rfl⟩ : ∃ u, t = u + 1 := ⟨t - 1, by omega⟩
            exact pk_m1 u
          have et2 : nI (t - 1) - 1 = nI (t - 2) := by rw [nI_sub1 (by omega)]; congr 1
          simp only [if_neg c27, if_neg (show ¬ nI t < (2 : Int32) from nI_nlt (b := 2) t2 (by omega)), et, et2, ck_of (nI_inb (n := t - 2) (N := 64) (by omega) (by decide)), ck_of (nI_inb (n := t - 1) (N := 64) (by omega) (by decide)), nI_ix (show t - 2 < 2 ^ 31 by omega), nI_ix (show t - 1 < 2 ^ 31 by omega), e1 (t - 1) (by omega), e1 (t - 2) (by omega)]
          by_cases cc : 9 ≤ x.1 ∧ x.1 ≤ 12
          · rw [if_neg (show ¬ x.1 < 9 by omega), if_neg (show ¬ 12 < x.1 by omega), ok_bi]
            refine (C_compared (a := p (t - 2)) (b := p (t - 1)) cc.1 cc.2 e2).mono ?_
            rintro ⟨v, h1⟩ ⟨hv, a1, b1⟩
            simp only at hv a1 b1
            subst hv
            have hw : wst vs d b x (t, p, br) = (t - 1, upN p (t - 2) (b2 (!br && cmpS (x.1 - 9) (p (t - 2)) (p (t - 1)))), false) := by unfold wst; rw [if_neg cv, if_neg c27, if_pos cc]
            exact put (t - 2) (t - 1) _ false h1 (a1.sub rfl) b1 (fun k hk _ => by rw [a1.i 148 k rfl]; exact e1 k (by omega)) hw (by omega)
          · have hw : wst vs d b x (t, p, br) = (t - 1, upN p (t - 2) (jnS x.1 (p (t - 2)) (p (t - 1))), jbS x.1 br (p (t - 1))) := by unfold wst; rw [if_neg cv, if_neg c27, if_neg cc]
            have go : Ok (bi (fX6_joined (nI x.1) (p (t - 2)) (p (t - 1)) h) (fun w3 h2 => lX6_execute_14 g (nI (i + 1 + W.length)) (nI (t - 1)) (nI i + 1) (wI h2 148 (t - 2) w3))) (fun r => Agr TC h r.2 ∧ r.2.1 147 7 = b2 s'.2.2 ∧ (0 < s'.1 → r.1 = s'.2.1 0)) := by
              rw [ok_bi]
              refine (C_joined (a := p (t - 2)) (b := p (t - 1)) c2 e2).mono ?_
              rintro ⟨v, h1⟩ ⟨hv, a1, b1⟩
              simp only at hv a1 b1
              subst hv
              exact put (t - 2) (t - 1) _ _ h1 (a1.sub rfl) b1 (fun k hk _ => by rw [a1.i 148 k rfl]; exact e1 k (by omega)) hw (by omega)
            by_cases l9' : x.1 < 9
            · rw [if_pos l9']; exact go
            · rw [if_neg l9', if_pos (by omega)]; exact go
    · rw [if_neg wk] at hg; cases hg
