/-- the class's futures -/
def LW : Ws := [(148, none), (149, none), (147, some 5), (147, some 6), (147, some 7), (206, some 6), (206, some 7)]
theorem C_cameTo {c m h : Hp} (D : RD0 c m) (e : Agr SC c h) (hP : nP m ≤ 5) {d : Nat} (hd : d < 2 ^ nP m) : ∃ X, fX10_cameTo (nI d) h = some (X, h) ∧ ∀ b, bitL X b = true ↔ (bitL (h.2 208 d) b = true ∨ ∃ p, p < nP m ∧ d.testBit p = true ∧ bitL (h.2 208 (clr d p)) b = true) := by
  have D' := D
  obtain ⟨_, ⟨p1, p2, p3⟩, _⟩ := D'
  have p32 : 2 ^ nP m ≤ 32 := Nat.pow_le_pow_right (n := 2) (by decide) hP
  have : Ok (fX10_cameTo (nI d) h) (fun p => p.2 = h ∧ ∀ b, bitL p.1 b = true ↔ (bitL (h.2 208 d) b = true ∨ ∃ p, p < nP m ∧ d.testBit p = true ∧ bitL (h.2 208 (clr d p)) b = true)) := by
    unfold fX10_cameTo
    rw [ck_of (nI_inb (show d < 32 by omega) (by decide)), nI_ix (by omega), lt_q, lt_q]
    refine up0 (fun f i (s : Int64) => lX10_cameTo_10 f (nI d) s (nI i) h) (nP m) (by omega) (fun i s => ∀ b, bitL s b = true ↔ (bitL (h.2 208 d) b = true ∨ ∃ p, p < i ∧ d.testBit p = true ∧ bitL (h.2 208 (clr d p)) b = true)) _ (fun b => ⟨fun x => .inl x, fun x => by
      rcases x with x | ⟨p, hp, _⟩
      · exact x
      · exact absurd hp (by omega)⟩) ?_ ?_
    · rintro f s hs
      rw [lX10_cameTo_10]
      simp only [bX10_cameTo_10, e.i 108 6 rfl, p3, if_pos (nI_le (Nat.le_refl (nP m)) (show nP m < 2 ^ 31 by omega)), ok_some]
      exact ⟨trivial, hs⟩
    · rintro f i s hi hs K
      rw [lX10_cameTo_10]
      simp only [bX10_cameTo_10, bX10_cameTo_47, e.i 108 6 rfl, p3, if_neg (nI_ge hi (show nP m < 2 ^ 31 by omega)), C_has, bi_q, b2_0, bit_nI (show i < 32 by omega), lt_q, nI_1]
      cases c1 : d.testBit i
      · rw [if_pos rfl]
        refine K s fun b => (hs b).trans ⟨fun x => ?_, fun x => ?_⟩
        · rcases x with x | ⟨p, hp, h1, h2⟩
          · exact .inl x
          · exact .inr ⟨p, by omega, h1, h2⟩
        · rcases x with x | ⟨p, hp, h1, h2⟩
          · exact .inl x
          · by_cases ee : p = i
            · subst ee; rw [c1] at h1; cases h1
            · exact .inr ⟨p, by omega, h1, h2⟩
      · obtain ⟨q1, q2, q3⟩ := clr_32 i (by omega) d (by omega) c1
        rw [if_neg (by decide), q1, ck_of (nI_inb (show clr d i < 32 by omega) (by decide)), nI_ix (by omega)]
        refine K _ fun b => ?_
        rw [bitL_orL, Bool.or_eq_true, hs b]
        constructor
        · rintro ((x | ⟨p, hp, h1, h2⟩) | x)
          · exact .inl x
          · exact .inr ⟨p, by omega, h1, h2⟩
          · exact .inr ⟨i, by omega, c1, x⟩
        · rintro (x | ⟨p, hp, h1, h2⟩)
          · exact .inl (.inl x)
          · by_cases ee : p = i
            · subst ee; exact .inr h2
            · exact .inl (.inr ⟨p, by omega, h1, h2⟩)
  obtain ⟨⟨X, h'⟩, e1, e2, e3⟩ := this
  simp only at e2 e3
  subst e2
  exact ⟨X, e1, e3⟩
theorem C_lookAll {S : Sem} {c m h : Hp} {E : Nat → Prop} {y0 : Nat} {Ec : Prop} (D : RD0 c m) (XX : XC S c m) (e : Agr SC c h) (hL : nL m ≤ 6) {l y d : Nat} (hl : l < nL m) (hy : y < 60) (h0y : y0 ≤ y) (X : Int64) (hX : ∀ b, bitL X b = true → b < 2 ^ nL m) (F : FLy E y0 y Ec (h.1 206 6) (h.1 206 7)) :
    Ok (fX10_lookAtAll (nI l) (nI y) (nI d) X h) (fun p => Agr LW h p.2 ∧ (∀ b', bitL p.1 b' = true ↔ ((∃ b, bitL X b = true ∧ lkn S m y d b = b') ∧ b'.testBit l = false)) ∧ FLy E y0 y (Ec ∨ ∃ b, bitL X b = true ∧ (lkn S m y d b).testBit l = true) (p.2.1 206 6) (p.2.1 206 7)) := by
  have l64 : 2 ^ nL m ≤ 64 := Nat.pow_le_pow_right (n := 2) (by decide) hL
  have L10 : nL m ≤ 10 := by omega
  unfold fX10_lookAtAll
  rw [lt_q, lt_q, lt_q]
  have fin : ∀ (s x : Int64) (h' : Hp), Agr LW h h' → (∀ b, bitL x b = true → bitL X b = true) → (∀ b', bitL s b' = true ↔ ((∃ b, (bitL X b = true ∧ bitL x b = false) ∧ lkn S m y d b = b') ∧ b'.testBit l = false)) → FLy E y0 y (Ec ∨ ∃ b, (bitL X b = true ∧ bitL x b = false) ∧ (lkn S m y d b).testBit l = true) (h'.1 206 6) (h'.1 206 7) → x = 0 → (Agr LW h h' ∧ (∀ b', bitL s b' = true ↔ ((∃ b, bitL X b = true ∧ lkn S m y d b = b') ∧ b'.testBit l = false)) ∧ FLy E y0 y (Ec ∨ ∃ b, bitL X b = true ∧ (lkn S m y d b).testBit l = true) (h'.1 206 6) (h'.1 206 7)) := by
    intro s x h' a _ h2 h3 hx
    subst hx
    refine ⟨a, fun b' => (h2 b').trans ?_, FL_cg ?_ h3⟩
    · constructor
      · rintro ⟨⟨b, ⟨q1, _⟩, q2⟩, q3⟩; exact ⟨⟨b, q1, q2⟩, q3⟩
      · rintro ⟨⟨b, q1, q2⟩, q3⟩; exact ⟨⟨b, ⟨q1, bitL_0⟩, q2⟩, q3⟩
    · constructor
      · rintro (q | ⟨b, ⟨q1, _⟩, q2⟩)
        · exact .inl q
        · exact .inr ⟨b, q1, q2⟩
      · rintro (q | ⟨b, q1, q2⟩)
        · exact .inl q
        · exact .inr ⟨b, ⟨q1, bitL_0⟩, q2⟩
  refine up0 (fun f i (s : Int64 × Int64 × Hp) => lX10_lookAtAll_10 f (nI l) (nI y) (nI d) s.1 s.2.1 (nI i) s.2.2) 64 (by decide) (fun i s => Agr LW h s.2.2 ∧ (∀ b, b < i → bitL s.2.1 b = false) ∧ (∀ b, bitL s.2.1 b = true → bitL X b = true) ∧ (∀ b', bitL s.1 b' = true ↔ ((∃ b, (bitL X b = true ∧ bitL s.2.1 b = false) ∧ lkn S m y d b = b') ∧ b'.testBit l = false)) ∧ FLy E y0 y (Ec ∨ ∃ b, (bitL X b = true ∧ bitL s.2.1 b = false) ∧ (lkn S m y d b).testBit l = true) (s.2.2.1 206 6) (s.2.2.1 206 7)) (0, X, h) ⟨.refl, fun b hb => absurd hb (by omega), fun b hb => hb, fun b' => ⟨fun x => (by simp only [bitL_0] at x; cases x), fun x => ?_⟩, FL_cg ⟨fun x => .inl x, fun x => ?_⟩ F⟩ ?_ ?_
  · obtain ⟨⟨b, ⟨q1, q2⟩, _⟩, _⟩ := x
    simp only at q2
    rw [q1] at q2; cases q2
  · rcases x with x | ⟨b, ⟨q1, q2⟩, _⟩
    · exact x
    · simp only at q2
      rw [q1] at q2; cases q2
  · rintro f ⟨s, x, h'⟩ ⟨a, hz, h1, h2, h3⟩
    simp only at a hz h1 h2 h3
    rw [lX10_lookAtAll_10]
    simp only [bX10_lookAtAll_10, if_pos (show (64 : Int32) ≤ nI 64 by decide), ok_some]
    exact fin s x h' a h1 h2 h3 (bitL_ext fun i hi => by rw [hz i hi, bitL_0])
  · rintro f i ⟨s, x, h'⟩ hi ⟨a, hz, h1, h2, h3⟩ K
    simp only at a hz h1 h2 h3
    have e' : Agr SC c h' := e.trans (a.sub rfl)
    rw [lX10_lookAtAll_10]
    simp only [bX10_lookAtAll_10, bX10_lookAtAll_82, bX10_lookAtAll_79, if_neg (show ¬ (64 : Int32) ≤ nI i from nI_ge (b := 64) hi (by decide)), lg_cmp_eq, lt_q, nI_1]
    by_cases hx : x = 0
    · rw [if_pos hx, ok_some]
      exact fin s x h' a h1 h2 h3 hx
    · rw [if_neg hx]
      obtain ⟨k, hk, k1, k2, k3⟩ := bitL_low hx
      have ki : i ≤ k := by
        rcases Nat.lt_or_ge k i with hh | hh
        · rw [hz k hh] at k1; cases k1
        · exact hh
      have kL := hX k (h1 k k1)
      rw [C_ntz64 hk k1 k2, bi_q, ok_bi]
      refine (C_Wlook D XX e' hy (nI d) (nI k)).mono ?_
      rintro ⟨v, h4⟩ ⟨hv, a4⟩
      simp only at hv a4
      obtain ⟨m1, m2, m3⟩ := lkn_e L10 (S := S) (y := y) (d := d) (b := k) (by omega)
      have m4 := lkn_L L10 (S := S) (y := y) (d := d) (b := k) kL
      rw [m1] at hv
      subst hv
      have a4' : Agr LW h h4 := a.trans (a4.sub rfl)
      simp only [C_has, bi_q, b2_0, bit_nI (show l < 32 by omega)]
      have pr : ∀ b, (bitL X b = true ∧ bitL (x &&& (x - 1)) b = false) ↔ ((bitL X b = true ∧ bitL x b = false) ∨ b = k) := fun b => by
        rw [k3]
        by_cases ee : b = k
        · subst ee
          rw [k1]
          simp [h1 b k1]
        · rw [decide_eq_true ee, Bool.and_true]
          simp [ee]
      have z' : ∀ b, b < i + 1 → bitL (x &&& (x - 1)) b = false := fun b hb => by
        rw [k3]
        by_cases ee : b = k
        · rw [decide_eq_false (fun n => n ee), Bool.and_false]
        · rw [show bitL x b = false by
            by_cases e2 : b < i
            · exact hz b e2
            · exact k2 b (by omega)]; rfl
      have s' : ∀ b, bitL (x &&& (x - 1)) b = true → bitL X b = true := fun b hb => by
        rw [k3, Bool.and_eq_true] at hb
        exact h1 b hb.1
      cases c3 : (lkn S m y d k).testBit l
      · rw [if_pos rfl]
        refine K (_, _, h4) ⟨a4', z', s', fun b' => ?_, ?_⟩
        · rw [bitL_or (show lkn S m y d k < 64 by omega), Bool.or_eq_true, decide_eq_true_iff, h2 b']
          constructor
          · rintro (⟨⟨b, q1, q2⟩, q3⟩ | rfl)
            · exact ⟨⟨b, (pr b).mpr (.inl q1), q2⟩, q3⟩
            · exact ⟨⟨k, (pr k).mpr (.inr rfl), rfl⟩, c3⟩
          · rintro ⟨⟨b, q1, q2⟩, q3⟩
            rcases (pr b).mp q1 with q1 | rfl
            · exact .inl ⟨⟨b, q1, q2⟩, q3⟩
            · exact .inr q2
        · simp only
          rw [a4.i 206 6 rfl, a4.i 206 7 rfl]
          refine FL_cg ⟨fun q => ?_, fun q => ?_⟩ h3
          · rcases q with q | ⟨b, q1, q2⟩
            · exact .inl q
            · exact .inr ⟨b, (pr b).mpr (.inl q1), q2⟩
          · rcases q with q | ⟨b, q1, q2⟩
            · exact .inl q
            · rcases (pr b).mp q1 with q1 | rfl
              · exact .inr ⟨b, q1, q2⟩
              · rw [c3] at q2; cases q2
      · rw [if_neg (by decide)]
        have nb : ∀ b', bitL s b' = true ↔ ((∃ b, (bitL X b = true ∧ bitL (x &&& (x - 1)) b = false) ∧ lkn S m y d b = b') ∧ b'.testBit l = false) := fun b' => by
          rw [h2 b']
          constructor
          · rintro ⟨⟨b, q1, q2⟩, q3⟩
            exact ⟨⟨b, (pr b).mpr (.inl q1), q2⟩, q3⟩
          · rintro ⟨⟨b, q1, q2⟩, q3⟩
            rcases (pr b).mp q1 with q1 | rfl
            · exact ⟨⟨b, q1, q2⟩, q3⟩
            · rw [q2] at c3; rw [c3] at q3; cases q3
        have ev := FL_ev (Nat.lt_trans hy (by decide)) h0y h3
        have ev' : FLy E y0 y (Ec ∨ ∃ b, (bitL X b = true ∧ bitL (x &&& (x - 1)) b = false) ∧ (lkn S m y d b).testBit l = true) (if 0 ≤ h'.1 206 6 then h'.1 206 6 else nI y) (nI y) := FL_cg ⟨fun _ => .inr ⟨k, (pr k).mpr (.inr rfl), c3⟩, fun _ => trivial⟩ ev
        rw [wI_j (show (6 : Nat) ≠ 7 by decide), a4.i 206 6 rfl]
        by_cases c6 : (0 : Int32) ≤ h'.1 206 6
        · rw [if_pos c6] at ev' ⊢
          refine K (_, _, _) ⟨(a4'.wI rfl).wI rfl, z', s', nb, ?_⟩
          show FLy E y0 y _ ((wI (wI h4 206 7 (nI y)) 206 6 _).1 206 6) ((wI (wI h4 206 7 (nI y)) 206 6 _).1 206 7)
          rw [wI_s, wI_j (by decide), wI_s]
          exact ev'
        · rw [if_neg c6] at ev' ⊢
          refine K (_, _, _) ⟨(a4'.wI rfl).wI rfl, z', s', nb, ?_⟩
          show FLy E y0 y _ ((wI (wI h4 206 7 (nI y)) 206 6 _).1 206 6) ((wI (wI h4 206 7 (nI y)) 206 6 _).1 206 7)
          rw [wI_s, wI_j (by decide), wI_s]
          exact ev'
def rcC (m : Hp) (sh : Sh) (h : Hp) : Prop := ∀ d, d < 2 ^ nP m → ∀ b, bitL (h.2 208 d) b = true ↔ sh d b
theorem C_foreYear {S : Sem} {c m h : Hp} {Q : Hp → Prop} {r33 : Int32 → Int32 → Hp → Option Hp} {E : Nat → Prop} {y0 : Nat} {sh : Sh} (D : RD0 c m) (XX : XC S c m) (e : Agr SC c h) (hP : nP m ≤ 5) (hL : nL m ≤ 6) {l y : Nat} (hl : l < nL m) (hy : y < 60) (h0y : y0 ≤ y) (ok : shOk m l sh) (R : rcC m sh h) (hE : E y ↔ evS S m l y sh) (F : FLy E y0 y False (h.1 206 6) (h.1 206 7))
    (K : ∀ h', Agr SC c h' → rcC m (shS S m l y sh) h' → FLy E y0 (y + 1) False (h'.1 206 6) (h'.1 206 7) → Ok (r33 (nI l) (nI (y + 1)) h') Q) :
    Ok (lX10_foresee_53 r33 FU (nI l) (nI y) (nI (2 ^ nP m) - 1) h) Q := by
  have p32 : 2 ^ nP m ≤ 32 := Nat.pow_le_pow_right (n := 2) (by decide) hP
  have l64 : 2 ^ nL m ≤ 64 := Nat.pow_le_pow_right (n := 2) (by decide) hL
  refine down (fun f i h => lX10_foresee_53 r33 f (nI l) (nI y) i h) (fun n h' => Agr SC c h' ∧ n ≤ 2 ^ nP m ∧ (∀ d, d < 2 ^ nP m → ∀ b, bitL (h'.2 208 d) b = true ↔ if n ≤ d then shS S m l y sh d b else sh d b) ∧ FLy E y0 y (∃ d', n ≤ d' ∧ ∃ d b, sh d b ∧ toD (nP m) d d' ∧ (lkn S m y d' b).testBit l = true) (h'.1 206 6) (h'.1 206 7)) ?_ ?_ (2 ^ nP m) h FU (show 2 ^ nP m < 20000 by omega) ⟨e, Nat.le_refl _, fun d hd b => by rw [if_neg (by omega)]; exact R d hd b, FL_cg ⟨False.elim, fun ⟨d', h1, d, b, h2, h3, _⟩ => ?_⟩ F⟩
  · rintro f h' ⟨e', _, R', F'⟩
    rw [lX10_foresee_53]
    simp only [bX10_foresee_53, if_pos (show (-1 : Int32) < 0 by decide), lt_q, nI_1]
    refine K h' e' (fun d hd b => by rw [R' d hd b, if_pos (by omega)]) (FL_nx (Iff.trans ?_ hE.symm) F')
    constructor
    · rintro ⟨d', _, d, b, q⟩; exact ⟨d', d, b, q⟩
    · rintro ⟨d', d, b, q⟩; exact ⟨d', by omega, d, b, q⟩
  · rintro f i h' ⟨e', hi, R', F'⟩ K'
    rw [lX10_foresee_53]
    obtain ⟨X, x1, x2⟩ := C_cameTo D e' hP (show i < 2 ^ nP m by omega)
    have x3 : ∀ b, bitL X b = true ↔ ∃ d, sh d b ∧ toD (nP m) d i := fun b => by
      rw [x2 b]
      constructor
      · rintro (q | ⟨p, hp, q1, q2⟩)
        · rw [R' i (by omega), if_neg (by omega)] at q
          exact ⟨i, q, .inl rfl⟩
        · obtain ⟨z1, z2, z3⟩ := clr_32 p (by omega) i (by omega) q1
          rw [R' _ (by omega), if_neg (by omega)] at q2
          exact ⟨clr i p, q2, .inr ⟨p, hp, z2.symm⟩⟩
      · rintro ⟨d, q1, q2⟩
        have q3 := (ok d b q1).1
        rcases (toD_c hP (by omega) (by omega)).mp q2 with rfl | ⟨p, hp, q4, rfl⟩
        · left
          rw [R' _ (by omega), if_neg (by omega)]; exact q1
        · right
          obtain ⟨z1, z2, z3⟩ := clr_32 p (by omega) i (by omega) q4
          refine ⟨p, hp, q4, ?_⟩
          rw [R' _ (by omega), if_neg (by omega)]; exact q1
    simp only [bX10_foresee_53, if_neg (nI_pos (show i < 2 ^ 31 by omega)), x1, bi_q, lt_q, ok_bi, ck_of (nI_inb (show i < 32 by omega) (by decide)), nI_ix (show i < 2 ^ 31 by omega)]
    refine (C_lookAll D XX e' hL hl hy h0y X (fun b hb => by obtain ⟨d, q, _⟩ := (x3 b).mp hb; exact (ok d b q).2.1) F').mono ?_
    rintro ⟨v, h4⟩ ⟨a4, hv, F4⟩
    simp only at a4 hv F4
    have e4 : Agr SC c h4 := e'.trans (a4.sub rfl)
    refine K' _ ⟨e4.wL rfl, by omega, fun d hd b => ?_, ?_⟩
    · by_cases ee : d = i
      · subst ee
        rw [wL_s, hv b, if_pos (by omega)]
        unfold shS
        constructor
        · rintro ⟨⟨b0, q1, q2⟩, q3⟩
          obtain ⟨d0, q4, q5⟩ := (x3 b0).mp q1
          exact ⟨⟨d0, b0, q4, q5, q2⟩, q3⟩
        · rintro ⟨⟨d0, b0, q4, q5, q2⟩, q3⟩
          exact ⟨⟨b0, (x3 b0).mpr ⟨d0, q4, q5⟩, q2⟩, q3⟩
      · rw [wL_j ee, a4.l 208 d rfl, R' d hd b]
        by_cases e3 : i + 1 ≤ d
        · rw [if_pos e3, if_pos (by omega)]
        · rw [if_neg e3, if_neg (by omega)]
    · rw [wL_i]
      refine FL_cg ⟨fun q => ?_, fun q => ?_⟩ F4
      · rcases q with ⟨d', q1, q2⟩ | ⟨b, q1, q2⟩
        · exact ⟨d', by omega, q2⟩
        · obtain ⟨d0, q4, q5⟩ := (x3 b).mp q1
          exact ⟨i, Nat.le_refl i, d0, b, q4, q5, q2⟩
      · obtain ⟨d', q1, d0, b, q4, q5, q2⟩ := q
        by_cases ee : d' = i
        · subst ee; exact .inr ⟨b, (x3 b).mpr ⟨d0, q4, q5⟩, q2⟩
        · exact .inl ⟨d', by omega, d0, b, q4, q5, q2⟩
  · have := toD_lt (ok d b h2).1 h3
    omega
def sur (m : Hp) (sh : Sh) (v : Int32) : Prop := (v = 1 ∧ ∀ d b, ¬ sh d b) ∨ (v = 0 ∧ ∃ d b, sh d b)
theorem C_foresee {S : Sem} {c m h : Hp} (D : RD0 c m) (XX : XC S c m) (e : Agr SC c h) (hP : nP m ≤ 5) (hL : nL m ≤ 6) {l y g b0 : Nat} (hl : l < nL m) (hy : y < 60) (hg : g < 2 ^ nP m) (hb : b0 < 2 ^ nL m) (h0 : b0.testBit l = false) :
    Ok (fX10_foresee (nI l) (nI y) (nI g) (nI b0) h) (fun h' => Agr SC c h' ∧ FLy (evY S m l y g b0) y 60 False (h'.1 206 6) (h'.1 206 7) ∧ sur m (shY S m l y g b0 (60 - y)) (h'.1 206 8)) := by
  have p32 : 2 ^ nP m ≤ 32 := Nat.pow_le_pow_right (n := 2) (by decide) hP
  have l64 : 2 ^ nL m ≤ 64 := Nat.pow_le_pow_right (n := 2) (by decide) hL
  have D' := D
  obtain ⟨_, ⟨p1, p2, p3⟩, _⟩ := D'
  have okj := shY_ok (S := S) (y0 := y) (show nL m ≤ 10 by omega) hg hb h0
  unfold fX10_foresee
  rw [ok_bv]
  have fl : Ok (fJ7_fill_d0a16 208 32 0 h) (fun h' => Agr SC c h' ∧ ∀ k, k < 32 → h'.2 208 k = 0) := by
    unfold fJ7_fill_d0a16
    rw [lt_q, lt_q]
    refine up0 (fun f i h => lJ7_fill_d0a16_6 208 32 f 0 (nI i) (Int32.ofNat 32) h) 32 (by decide) (fun i h' => Agr SC c h' ∧ ∀ k, k < i → h'.2 208 k = 0) h ⟨e, fun k hk => absurd hk (by omega)⟩ ?_ ?_
    · rintro f h' hh
      rw [lJ7_fill_d0a16_6]
      simp only [bJ7_fill_d0a16_6, if_pos (show Int32.ofNat 32 ≤ nI 32 by decide), ok_some]
      exact hh
    · rintro f i h' hi ⟨e', hz⟩ K
      rw [lJ7_fill_d0a16_6]
      simp only [bJ7_fill_d0a16_6, if_neg (show ¬ Int32.ofNat 32 ≤ nI i from nI_ge (b := 32) hi (by decide)), ck_of (nI_inb hi (by decide)), nI_ix (show i < 2 ^ 31 by omega), lt_q, nI_1]
      refine K _ ⟨e'.wL rfl, fun k hk => ?_⟩
      rw [wL_r]
      by_cases ee : k = i
      · rw [if_pos ⟨rfl, ee⟩]
      · rw [if_neg (fun x => ee x.2)]; exact hz k (by omega)
  refine fl.mono ?_
  rintro h1 ⟨e1, hz⟩
  rw [lt_q, lt_q, ck_of (nI_inb (show g < 32 by omega) (by decide)), nI_ix (by omega), lt_q, lt_q]
  refine upto (fun f i h => lX10_foresee_33 f (nI l) (nI i) h) 60 (fun i h' => Agr SC c h' ∧ y ≤ i ∧ rcC m (shY S m l y g b0 (i - y)) h' ∧ FLy (evY S m l y g b0) y i False (h'.1 206 6) (h'.1 206 7)) ?_ ?_ (60 - y) y _ FU rfl (by omega) (show 60 - y < 20000 by omega) ⟨((e1.wI rfl).wI rfl).wL rfl, Nat.le_refl _, fun d hd b => ?_, ?_⟩
  · rintro f h' ⟨e', _, R', F'⟩
    rw [lX10_foresee_33]
    simp only [bX10_foresee_33, if_pos (show (60 : Int32) ≤ nI 60 by decide), ck_of zb_1, lt_q]
    refine up0 (fun f i h => lX10_foresee_100 f (nI i) h) (2 ^ nP m) (by omega) (fun i h2 => Agr SC c h2 ∧ rcC m (shY S m l y g b0 (60 - y)) h2 ∧ FLy (evY S m l y g b0) y 60 False (h2.1 206 6) (h2.1 206 7) ∧ ((h2.1 206 8 = 1 ∧ ∀ d b, d < i → ¬ shY S m l y g b0 (60 - y) d b) ∨ (h2.1 206 8 = 0 ∧ ∃ d b, shY S m l y g b0 (60 - y) d b))) _ ⟨e'.wI rfl, R', by rw [wI_j (by decide), wI_j (by decide)]; exact F', .inl ⟨wI_s, fun d b hd => absurd hd (by omega)⟩⟩ ?_ ?_
    · rintro f2 h2 ⟨e2, R2, F2, s2⟩
      rw [lX10_foresee_100]
      simp only [bX10_foresee_100, e2.i 108 6 rfl, p3, s1l (nP m) (by omega), if_pos (nI_le (Nat.le_refl (2 ^ nP m)) (show 2 ^ nP m < 2 ^ 31 by omega)), ok_some]
      refine ⟨e2, F2, ?_⟩
      rcases s2 with ⟨q1, q2⟩ | ⟨q1, q2⟩
      · exact .inl ⟨q1, fun d b q => q2 d b (okj _ d b q).1 q⟩
      · exact .inr ⟨q1, q2⟩
    · rintro f2 i h2 hi ⟨e2, R2, F2, s2⟩ K2
      have go : ∀ v, ((v = 1 ∧ ∀ d b, d < i + 1 → ¬ shY S m l y g b0 (60 - y) d b) ∨ (v = 0 ∧ ∃ d b, shY S m l y g b0 (60 - y) d b)) → Ok (lX10_foresee_100 f2 (nI (i + 1)) (wI h2 206 8 v)) (fun h' => Agr SC c h' ∧ FLy (evY S m l y g b0) y 60 False (h'.1 206 6) (h'.1 206 7) ∧ sur m (shY S m l y g b0 (60 - y)) (h'.1 206 8)) := fun v hv => K2 _ ⟨e2.wI rfl, R2, by rw [wI_j (by decide), wI_j (by decide)]; exact F2, by rw [wI_s]; exact hv⟩
      rw [lX10_foresee_100]
      simp only [bX10_foresee_100, bX10_foresee_138, bX10_foresee_139, e2.i 108 6 rfl, p3, s1l (nP m) (by omega), if_neg (nI_ge hi (show 2 ^ nP m < 2 ^ 31 by omega)), ck_of zb_0, ck_of zb_1, lg_cmp_eq, ck_of (nI_inb (show i < 32 by omega) (by decide)), nI_ix (show i < 2 ^ 31 by omega), lt_q, nI_1]
      rcases s2 with ⟨q1, q2⟩ | ⟨q1, q2⟩
      · rw [q1, if_neg (by decide)]
        by_cases c1 : h2.2 208 i = 0
        · rw [if_pos c1]
          refine go 1 (.inl ⟨rfl, fun d b hd q => ?_⟩)
          by_cases ee : d = i
          · subst ee
            have := (R2 d hi b).mpr q
            rw [c1, bitL_0] at this; cases this
          · exact q2 d b (by omega) q
        · rw [if_neg c1]
          obtain ⟨k, _, k1, _⟩ := bitL_low c1
          exact go 0 (.inr ⟨rfl, i, k, (R2 i hi k).mp k1⟩)
      · rw [q1, if_pos rfl]
        exact go 0 (.inr ⟨rfl, q2⟩)
  · rintro f i h' hi ⟨e', hyi, R', F'⟩ K'
    rw [lX10_foresee_33]
    simp only [bX10_foresee_33, if_neg (show ¬ (60 : Int32) ≤ nI i from nI_ge (b := 60) hi (by decide)), e'.i 108 6 rfl, p3, s1l (nP m) (by omega), lt_q]
    refine C_foreYear D XX e' hP hL hl hi hyi (okj _) R' Iff.rfl F' fun h2 e2 R2 F2 => K' h2 ⟨e2, by omega, ?_, F2⟩
    rw [shY_s hyi]
    exact R2
  · rw [Nat.sub_self]
    show _ ↔ d = g ∧ b = b0
    rw [wL_r]
    by_cases ee : d = g
    · rw [if_pos ⟨rfl, ee⟩, bitL_1 (show b0 < 64 by omega), decide_eq_true_iff]
      exact ⟨fun q => ⟨ee, q.symm⟩, fun q => q.2.symm⟩
    · rw [if_neg (fun x => ee x.2), wI_l, wI_l, hz d (by omega), bitL_0]
      exact ⟨fun q => (by cases q), fun q => absurd q.1 ee⟩
  · rw [wL_i, wI_j (by decide), wI_s, wI_s]
    exact FL_0
