/-- the class fills its tables -/
def FT : Ws := [(148, none), (149, none), (147, some 5), (147, some 6), (147, some 7), (150, none), (151, none)]
theorem ruC_agr {A : Nat → Option Cd} {cs : Nat} {c c' : Hp} {W : Ws} (hw : djw [(108, some 11), (112, none), (113, none), (114, none)] W = true) (e : Agr W c c') (X : ruC A cs c) : ruC A cs c' := by
  have q : ∀ k j, wm [(108, some 11), (112, none), (113, none), (114, none)] k j = true → c'.1 k j = c.1 k j := fun k j w => (e k j (djw_wm hw w)).1
  obtain ⟨x1, x2, x3⟩ := X
  refine ⟨by rw [q 108 11 rfl]; exact x1, x2, fun r hr => ?_⟩
  have x := x3 r hr
  cases hA : A r with
  | none =>
    rw [hA] at x
    simp only at x ⊢
    rw [q 113 r rfl]; exact x
  | some e' =>
    rw [hA] at x
    simp only at x ⊢
    obtain ⟨y1, a, y2, y3, y4, y5⟩ := x
    refine ⟨y1, a, y2, by rw [q 113 r rfl]; exact y3, by rw [q 114 r rfl]; exact y4, fun i hi => ?_⟩
    rw [q 112 _ rfl]; exact y5 i hi
theorem C_fill1 {A : Nat → Option Cd} {cs : Nat} {h : Hp} (X : ruC A cs h) {r n : Nat} (hr : r < 3) (hn : n < 2 ^ 31) (h0 : 0 < n) (y age sh : Int32) : Ok (fX6_ruled (nI (22 + r)) y age sh 0 h) (fun p => heldS p.1 (nI n) = sayS A r (if r = 1 then 1 else 0) (nI n) (vsS y age sh 0) ∧ Agr EC h p.2) := by
  refine (C_ruled X .refl hr y age sh 0).mono ?_
  rintro ⟨v, h1⟩ ⟨hv, a⟩
  simp only at hv a
  subst hv
  exact ⟨raw_say hr hn h0, a⟩
theorem C_fillTables {A : Nat → Option Cd} {cs P : Nat} {c : Hp} (X : ruC A cs c) (hP : P ≤ 10) (h6 : c.1 108 6 = nI P) : Ok (fX6_fillTables c) (fun h => Agr FT c h ∧ (∀ p y, p < P → y < 60 → h.1 150 (60 * p + y) = sayS A 0 0 100 (vsS (nI y) (c.1 109 p + nI y) 0 0)) ∧ ∀ s y, s < 4 → y < 60 → h.1 151 (60 * s + y) = sayS A 1 1 999 (vsS (nI y) 0 (nI s) 0)) := by
  unfold fX6_fillTables
  rw [lt_q]
  refine up0 (fun f i h => lX6_fillTables_2 f (nI i) h) 60 (by decide) (fun i h => Agr FT c h ∧ (∀ p y, p < P → y < i → h.1 150 (60 * p + y) = sayS A 0 0 100 (vsS (nI y) (c.1 109 p + nI y) 0 0)) ∧ ∀ s y, s < 4 → y < i → h.1 151 (60 * s + y) = sayS A 1 1 999 (vsS (nI y) 0 (nI s) 0)) c ⟨.refl, fun _ _ _ h => absurd h (by omega), fun _ _ _ h => absurd h (by omega)⟩ ?_ ?_
  · rintro f h hh
    rw [lX6_fillTables_2]
    simp only [bX6_fillTables_2, if_pos (show (60 : Int32) ≤ nI 60 by decide), ok_some]
    exact hh
  · rintro f y h hy ⟨a, t1, t2⟩ K
    rw [lX6_fillTables_2]
    simp only [bX6_fillTables_2, if_neg (show ¬ (60 : Int32) ≤ nI y from nI_ge (b := 60) hy (by decide)), lt_q]
    refine up0 (fun f' i h => lX6_fillTables_10 (lX6_fillTables_2 f) f' (nI y) (nI i) h) P (by omega) (fun i h' => Agr FT c h' ∧ (∀ p y', p < P → y' < y → h'.1 150 (60 * p + y') = sayS A 0 0 100 (vsS (nI y') (c.1 109 p + nI y') 0 0)) ∧ (∀ p, p < i → h'.1 150 (60 * p + y) = sayS A 0 0 100 (vsS (nI y) (c.1 109 p + nI y) 0 0)) ∧ ∀ s y', s < 4 → y' < y → h'.1 151 (60 * s + y') = sayS A 1 1 999 (vsS (nI y') 0 (nI s) 0)) h ⟨a, t1, fun _ h => absurd h (by omega), t2⟩ ?_ ?_
    · rintro f1 h1 ⟨a1, u1, u2, u3⟩
      rw [lX6_fillTables_10]
      simp only [bX6_fillTables_10, a1.i 108 6 rfl, h6, if_pos (nI_le (Nat.le_refl P) (show P < 2 ^ 31 by omega)), lt_q]
      refine up0 (fun f' i h => lX6_fillTables_67 (lX6_fillTables_2 f) f' (nI y) (nI i) h) 4 (by decide) (fun i h' => Agr FT c h' ∧ (∀ p y', p < P → y' < y + 1 → h'.1 150 (60 * p + y') = sayS A 0 0 100 (vsS (nI y') (c.1 109 p + nI y') 0 0)) ∧ (∀ s y', s < 4 → y' < y → h'.1 151 (60 * s + y') = sayS A 1 1 999 (vsS (nI y') 0 (nI s) 0)) ∧ ∀ s, s < i → h'.1 151 (60 * s + y) = sayS A 1 1 999 (vsS (nI y) 0 (nI s) 0)) h1 ⟨a1, fun p y' hp hy' => ?_, u3, fun _ h => absurd h (by omega)⟩ ?_ ?_
      · by_cases e : y' = y
        · subst e; exact u2 p hp
        · exact u1 p y' hp (by omega)
      · rintro f2 h2 ⟨a2, w1, w2, w3⟩
        rw [lX6_fillTables_67]
        simp only [bX6_fillTables_67, if_pos (show (4 : Int32) ≤ nI 4 by decide), lt_q, nI_1]
        refine K h2 ⟨a2, w1, fun s y' hs hy' => ?_⟩
        by_cases e : y' = y
        · subst e; exact w3 s hs
        · exact w2 s y' hs (by omega)
      · rintro f2 s h2 hs ⟨a2, w1, w2, w3⟩ K2
        have X2 := ruC_agr (W := FT) rfl a2 X
        rw [lX6_fillTables_67]
        simp only [bX6_fillTables_67, if_neg (show ¬ (4 : Int32) ≤ nI s from nI_ge (b := 4) hs (by decide)), ok_bi, lt_q, nI_1, fX11_keepTo, ok_some, e60r, ck_of (nI_inb (show 60 * s + y < 240 by omega) (by decide)), nI_ix (show 60 * s + y < 2 ^ 31 by omega)]
        refine (C_fill1 X2 (r := 1) (n := 999) (by decide) (by decide) (by decide) (nI y) 0 (nI s)).mono ?_
        rintro ⟨v, h3⟩ ⟨hv, a3⟩
        simp only at hv a3 ⊢
        have kh := keep_held v (n := 999) (by decide) (by decide)
        rw [hv] at kh
        refine K2 _ ⟨(a2.trans (a3.sub rfl)).wI rfl, fun p y' hp hy' => ?_, fun s' y' hs' hy' => ?_, fun s' hs' => ?_⟩
        · rw [wI_k (by decide), a3.i 150 _ rfl]; exact w1 p y' hp hy'
        · rw [wI_j (by omega), a3.i 151 _ rfl]; exact w2 s' y' hs' hy'
        · by_cases e : s' = s
          · subst e; rw [wI_s]; exact kh
          · rw [wI_j (by omega), a3.i 151 _ rfl]; exact w3 s' (by omega)
    · rintro f1 p h1 hp ⟨a1, u1, u2, u3⟩ K1
      have X1 := ruC_agr (W := FT) rfl a1 X
      rw [lX6_fillTables_10]
      simp only [bX6_fillTables_10, a1.i 108 6 rfl, h6, if_neg (nI_ge hp (show P < 2 ^ 31 by omega)), ck_of (nI_inb (show p < 10 by omega) (by decide)), nI_ix (show p < 2 ^ 31 by omega), a1.i 109 _ rfl, ok_bi, lt_q, nI_1, fX11_keepTo, ok_some, e60r, ck_of (nI_inb (show 60 * p + y < 600 by omega) (by decide)), nI_ix (show 60 * p + y < 2 ^ 31 by omega)]
      refine (C_fill1 X1 (r := 0) (n := 100) (by decide) (by decide) (by decide) (nI y) (c.1 109 p + nI y) 0).mono ?_
      rintro ⟨v, h3⟩ ⟨hv, a3⟩
      simp only at hv a3 ⊢
      have kh := keep_held v (n := 100) (by decide) (by decide)
      rw [hv] at kh
      refine K1 _ ⟨(a1.trans (a3.sub rfl)).wI rfl, fun p' y' hp' hy' => ?_, fun p' hp' => ?_, fun s' y' hs' hy' => ?_⟩
      · rw [wI_j (by omega), a3.i 150 _ rfl]; exact u1 p' y' hp' hy'
      · by_cases e : p' = p
        · subst e; rw [wI_s]; exact kh
        · rw [wI_j (by omega), a3.i 150 _ rfl]; exact u2 p' (by omega)
      · rw [wI_k (by decide), a3.i 151 _ rfl]; exact u3 s' y' hs' hy'
