/-- the class's side of the new book -/
def BKF (nl : Nat) (c c1 : Hp) : Prop := (∀ j, 6 ≤ j → j ≤ 11 → c1.1 108 j = c.1 125 j) ∧ (∀ i, i < 10 → c1.1 109 i = c.1 126 i) ∧ (∀ i, i < 4 → c1.1 110 i = c.1 127 i) ∧ (∀ i, i < 400 → c1.1 112 i = c.1 129 i) ∧ (∀ i, i < 3 → c1.1 113 i = c.1 130 i ∧ c1.1 114 i = c.1 131 i) ∧ ∀ l, l < nl → ∀ j, j < 8 → c1.1 (115 + l) j = c.1 (132 + l) j
theorem nI_ixs {n : Nat} {x : Int32} (h : x = nI n) (hn : n < 2 ^ 31) : ix x = n := by rw [h]; exact nI_ix hn
theorem book_d {c0 m0 cB mB c m m' c1 : Hp} {K sd t np nc nb nl cs cd ln : Nat} {kd pl : Nat → Nat} {A : Nat → Option Cd} {Ls : Nat → List Lit} {as bs : Nat → Nat} (X : CTX c0 m0 K kd pl sd) (T : TSt c0 m0 K kd sd t np nc nb nl cs cd ln A Ls as bs cB mB) (J : SJ c0 m0 K kd sd t nl (fnd nl cB) Ls as bs cB mB nl c m) (u : c.1 142 8 = 0) (am : Agr [(0, some 17), (0, some 18), (0, some 59), (60, none)] m m') (h18 : m'.1 0 18 = nI sd) (B : BKF nl c c1) : (lv m' = sd ∧ nP m' = np ∧ nL m' = nl) ∧ RD0 c1 m' ∧ (∀ p, p < np → c1.1 109 p = agI m' p) := by
  obtain ⟨LS, C, N, hc, hl3, TD, TV, TR⟩ := T
  obtain ⟨C1, C2, C3, C4, C5, C6, C7, C8, C9, C10, C11, C12, C13⟩ := C
  obtain ⟨J1, J2, J3, J4, J5, J6⟩ := J
  obtain ⟨j1, j2, j3⟩ := J6 u
  obtain ⟨B1, B2, B3, B4, B5, B6⟩ := B
  obtain ⟨V1, V2, V3⟩ := TV j1
  have s2 := X.2.2
  have eq : ∀ k j, k ≠ 0 → k ≠ 60 → k ≠ 32 → m'.1 k j = mB.1 k j := fun k j h0 h1 h2 => by
    rw [am.i k j (by simp [wm]; omega), J3.i k j (by simp [W32, wm]; omega)]
  have l0 : lv m' = sd := nI_ixs h18 (by omega)
  have p0 : nP m' = np := by unfold nP; rw [l0, eq 11 _ (by decide) (by decide) (by decide)]; exact nI_ixs C9 (by omega)
  have c0' : nC m' = nc := by unfold nC; rw [l0, eq 13 _ (by decide) (by decide) (by decide)]; exact nI_ixs C10 (by omega)
  have b0 : nB m' = nb := by unfold nB; rw [l0, eq 14 _ (by decide) (by decide) (by decide)]; exact nI_ixs C11 (by omega)
  have n0 : nL m' = nl := by unfold nL; rw [l0, eq 17 _ (by decide) (by decide) (by decide)]; exact nI_ixs C12 (by omega)
  have w0 : ∀ l, wrI m' l = mB.1 18 (10 * sd + l) ∧ rdI m' l = mB.1 19 (10 * sd + l) ∧ shI m' l = mB.1 20 (10 * sd + l) ∧ liI m' l = mB.1 21 (10 * sd + l) ∧ hmI m' l = mB.1 22 (10 * sd + l) := fun l => by
    unfold wrI rdI shI liI hmI
    rw [l0]
    exact ⟨eq 18 _ (by decide) (by decide) (by decide), eq 19 _ (by decide) (by decide) (by decide), eq 20 _ (by decide) (by decide) (by decide), eq 21 _ (by decide) (by decide) (by decide), eq 22 _ (by decide) (by decide) (by decide)⟩
  have q7 : ∀ l, l < 10 → ∀ j, j ≠ 7 → c.1 (132 + l) j = cB.1 (132 + l) j := fun l hl j hj => J2.i _ j (wm_7n hl hj)
  refine ⟨⟨l0, p0, n0⟩, ?_, fun p hp => ?_⟩
  · unfold RD0
    rw [l0, p0, c0', b0, n0, h18, eq 11 _ (by decide) (by decide) (by decide), eq 13 _ (by decide) (by decide) (by decide), eq 14 _ (by decide) (by decide) (by decide), eq 17 _ (by decide) (by decide) (by decide), B1 6 (by decide) (by decide), B1 7 (by decide) (by decide), B1 8 (by decide) (by decide), B1 9 (by decide) (by decide), B1 10 (by decide) (by decide), J2.i 125 6 rfl, J2.i 125 7 rfl, J2.i 125 8 rfl, J2.i 125 9 rfl, J2.i 125 10 rfl]
    refine ⟨⟨s2, rfl⟩, ⟨C1, C9, C5⟩, ⟨C2, C10, C6⟩, ⟨C3, C11, C7⟩, ⟨C4, C12, C8⟩, ?_, fun l hl => ?_, fun l hl => ?_, fun q hq p hp => ?_⟩
    · unfold prI
      rw [l0, eq 25 _ (by decide) (by decide) (by decide)]
      exact C13
    · obtain ⟨w1, w2, w3, w4, w5⟩ := w0 l
      obtain ⟨v1, v2, v3, v4, v5, _⟩ := V3 l hl
      have l10 : l < 10 := by omega
      rw [B6 l hl 0 (by decide), B6 l hl 1 (by decide), B6 l hl 2 (by decide), B6 l hl 3 (by decide), B6 l hl 4 (by decide), q7 l l10 0 (by decide), q7 l l10 1 (by decide), q7 l l10 2 (by decide), q7 l l10 3 (by decide), q7 l l10 4 (by decide), w1, w2, w3, w4, w5]
      exact ⟨v1, v2, v3, v4, v5⟩
    · obtain ⟨w1, w2, w3, w4, w5⟩ := w0 l
      obtain ⟨_, _, _, _, _, v1, v2, v3⟩ := V3 l hl
      rw [w1, w2, w3]
      exact ⟨v1, v2, v3⟩
    · rw [B3 q (by omega), J2.i 127 q rfl, V2 q p (by omega) (by omega)]
      unfold barT barS
      rw [b0, l0]
      congr 1
      funext k
      rw [eq 15 _ (by decide) (by decide) (by decide), eq 16 _ (by decide) (by decide) (by decide)]
  · unfold agI
    rw [B2 p (by omega), J2.i 126 p rfl, V1 p hp, l0, eq 12 _ (by decide) (by decide) (by decide)]
theorem book_c {c0 m0 cB mB c m c1 : Hp} {K sd t np nc nb nl cs cd ln : Nat} {kd pl : Nat → Nat} {A : Nat → Option Cd} {Ls : Nat → List Lit} {as bs : Nat → Nat} (X : CTX c0 m0 K kd pl sd) (T : TSt c0 m0 K kd sd t np nc nb nl cs cd ln A Ls as bs cB mB) (J : SJ c0 m0 K kd sd t nl (fnd nl cB) Ls as bs cB mB nl c m) (u : c.1 142 8 = 0) (B : BKF nl c c1) : ruC A cs c1 ∧ (∀ m' : Hp, nL m' = nl → coC (mLs (ag (fnd nl cB)) Ls) cs c1 m') ∧ (∀ l x r, l < nl → mLs (ag (fnd nl cB)) Ls l = x :: r → x.1.2.2.1 = true) ∧ ∀ l, l < nl → akS (mLs (ag (fnd nl cB)) Ls l) < 2 ^ nl ∧ c1.1 (115 + l) 7 = nI (akS (mLs (ag (fnd nl cB)) Ls l)) := by
  obtain ⟨LS, C, N, hc, hl3, TD, TV, TR⟩ := T
  obtain ⟨C1, C2, C3, C4, C5, C6, C7, C8, C9, C10, C11, C12, C13⟩ := C
  obtain ⟨U1, U2, U3, U4, U5⟩ := TD
  obtain ⟨J1, J2, J3, J4, J5, J6⟩ := J
  obtain ⟨j1, j2, j3⟩ := J6 u
  obtain ⟨B1, B2, B3, B4, B5, B6⟩ := B
  have t4 : t < 401 := by have := LS.1.2.2.1; have := X.1.2.1; omega
  have cs4 : cs ≤ 400 := by omega
  have b11 : c1.1 108 11 = nI cs := by rw [B1 11 (by decide) (by decide), J2.i 125 11 rfl]; exact LS.2.2.1
  refine ⟨⟨b11, cs4, fun r hr => ?_⟩, fun m' hm' => ⟨b11, cs4, fun l hl => ?_⟩, fun l x r hl e => ?_, fun l hl => ?_⟩
  · have h := TR r hr
    cases hA : A r with
    | none =>
      rw [hA] at h
      show c1.1 113 r = -1
      rw [(B5 r hr).1, J2.i 130 r rfl]
      exact h.1
    | some e =>
      rw [hA] at h
      obtain ⟨h1, _, ⟨a, h3, h4, h5, h6⟩, _⟩ := h
      refine ⟨h1, a, h3, by rw [(B5 r hr).1, J2.i 130 r rfl]; exact h4, by rw [(B5 r hr).2, J2.i 131 r rfl]; exact h5, cw_GC (c := c) (fun i hi => ?_) fun w hw => (ex_ok h1 hw).1⟩
      have hi' : i < e.length := by rwa [List.length_map] at hi
      rw [B4 _ (by omega)]
      have em : (e.map ex2w).getD i (0, 0) = (e.map ex2w)[i] := by rw [List.getD_eq_getElem?_getD, List.getElem?_eq_getElem hi]; rfl
      obtain ⟨⟨o1, o2⟩, o3⟩ := ex_ok h1 (List.getElem_mem hi)
      have := h6 i hi
      rw [em] at this ⊢
      exact j2 _ _ _ o1 o2 o3 this
  · rw [hm'] at hl
    obtain ⟨⟨V1, V2, V3, V4, V5, V6, V7, V8, V9⟩, Vb⟩ := U5 l hl
    obtain ⟨i1, i2, i3, i4⟩ := j3 l hl
    obtain ⟨w1, w2, w3⟩ := let_all (ag (fnd nl cB)) V6
    have l10 : l < 10 := by omega
    have g5 : c1.1 (115 + l) 5 = nI (as l) := by rw [B6 l hl 5 (by decide), J2.i _ 5 (wm_7n l10 (by decide))]; exact V2
    have g6 : c1.1 (115 + l) 6 = nI (as l + (letW (Ls l)).length) := by rw [B6 l hl 6 (by decide), J2.i _ 6 (wm_7n l10 (by decide))]; exact V3
    have el : (letW (mLs (ag (fnd nl cB)) Ls l)).length = (letW (Ls l)).length := by unfold mLs; rw [← w3, List.length_map]
    have oks : ∀ y, y ∈ mLs (ag (fnd nl cB)) Ls l → okL y ∧ y.1.2.2.2 < 401 := fun y hy => by
      unfold mLs at hy
      obtain ⟨k, hk, e⟩ := List.getElem_of_mem hy
      rw [List.length_map] at hk
      rw [List.getElem_map] at e
      subst e
      obtain ⟨o1, o2⟩ := V6 _ (List.getElem_mem hk)
      refine ⟨okL_S o1, ?_⟩
      by_cases c5 : (Ls l)[k].1.1 = 5
      · have := (i3 k hk c5).2
        unfold lS
        rw [if_pos c5]
        show ag (fnd nl cB) (Ls l)[k].1.2.2.2 < 401
        omega
      · unfold lS
        rw [if_neg c5]
        exact o2
    have cwl : cwC c1 (as l) (letW (mLs (ag (fnd nl cB)) Ls l)) := by
      refine cw_GC (c := c) (fun i hi => ?_) fun w hw => (let_all (ag (fnd nl cB)) oks).1 w hw
      rw [B4 _ (by omega)]
      have e : letW (mLs (ag (fnd nl cB)) Ls l) = (letW (Ls l)).map (wS (ag (fnd nl cB))) := by unfold mLs; rw [w3]
      rw [e]
      exact i2 i (by rw [← e]; exact hi)
    cases hL : mLs (ag (fnd nl cB)) Ls l with
    | nil =>
      rw [hL] at el
      refine ⟨as l, by omega, g5, ?_⟩
      rw [g6, ← el]
      rfl
    | cons x r =>
      rw [hL] at el oks cwl
      have e2 : letW (x :: r) = litW x ++ cndW r false := rfl
      rw [e2] at el cwl
      refine ⟨fun y hy => (oks y hy).1, as l, by omega, ?_, g5, ?_, cwl⟩
      · rw [List.length_append]; have := litW_0 (x := x); omega
      · rw [el]; exact g6
  · obtain ⟨⟨V1, V2, V3, V4, V5, V6, V7, V8, V9⟩, Vb⟩ := U5 l hl
    unfold mLs at e
    cases hL : Ls l with
    | nil => rw [hL] at e; cases e
    | cons y s =>
      rw [hL, List.map_cons] at e
      have := List.head_eq_of_cons_eq e
      rw [← this, lS_13.1]
      exact V5 y s hL
  · obtain ⟨i1, i2, i3, i4⟩ := j3 l hl
    refine ⟨ak_lt _ 0 (Nat.two_pow_pos _) fun y hy h5 => ?_, by rw [B6 l hl 7 (by decide)]; exact i1⟩
    unfold mLs at hy
    obtain ⟨k, hk, e⟩ := List.getElem_of_mem hy
    rw [List.length_map] at hk
    rw [List.getElem_map] at e
    subst e
    rw [lS_13.2.2.1] at h5
    have := (i3 k hk h5).2
    unfold lS
    rw [if_pos h5]
    exact this
