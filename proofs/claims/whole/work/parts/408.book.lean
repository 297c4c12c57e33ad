/-- the book in both -/
def ruR (v : Nat) (A : Nat → Option Cd) (m : Hp) : Prop := ∀ r, r < 3 → match A r with
  | none => m.1 26 (3 * v + r) = 0
  | some e => m.1 26 (3 * v + r) = 1 ∧ okCd e ∧ ∃ b, b + e.length ≤ 420 ∧ m.1 27 (3 * v + r) = nI (420 * v + b) ∧ m.1 28 (3 * v + r) = nI (420 * v + b + e.length) ∧ cdM m (420 * v + b) e
def ltR (v : Nat) (m : Hp) (i : Nat) (x : Lit) : Prop := x.1.1 ≤ 5 ∧ m.1 29 i = nI x.1.1 ∧ m.1 30 i = b2 x.1.2.1 ∧ m.1 31 i = b2 x.1.2.2.1 ∧ (if 4 ≤ x.1.1 then m.1 32 i = nI x.1.2.2.2 ∧ x.1.2.2.2 < 10 else ∃ a, 420 * v ≤ a ∧ m.1 32 i = nI a ∧ m.1 33 i = nI (a + x.2.1.length) ∧ m.1 34 i = nI (a + x.2.1.length + x.2.2.length) ∧ a + x.2.1.length + x.2.2.length ≤ 420 * v + 420 ∧ cdM m a x.2.1 ∧ cdM m (a + x.2.1.length) x.2.2 ∧ okCd x.2.1 ∧ okCd x.2.2)
def coR (v nl : Nat) (Ls : Nat → List Lit) (m : Hp) : Prop := ∀ l, l < nl → ∃ b, b + (Ls l).length ≤ 150 ∧ m.1 23 (10 * v + l) = nI (150 * v + b) ∧ m.1 24 (10 * v + l) = nI (150 * v + b + (Ls l).length) ∧ ∀ i (h : i < (Ls l).length), ltR v m (150 * v + b + i) (Ls l)[i]
theorem ruR_M {A : Nat → Option Cd} {m : Hp} (hv : lv m < 2) (H : ruR (lv m) A m) : ruM A m := fun r hr => by
  have h := H r hr
  cases hA : A r with
  | none => rw [hA] at h; exact h
  | some e =>
    rw [hA] at h
    obtain ⟨h1, h2, b, h3, h4, h5, h6⟩ := h
    exact ⟨h1, h2, 420 * lv m + b, by omega, h4, h5, h6⟩
theorem coR_M {Ls : Nat → List Lit} {m : Hp} (hv : lv m < 2) (H : coR (lv m) (nL m) Ls m) : coM Ls m := fun l hl => by
  obtain ⟨b, h1, h2, h3, h4⟩ := H l hl
  refine ⟨150 * lv m + b, by omega, h2, h3, fun i hi => ?_⟩
  obtain ⟨x1, x2, x3, x4, x5⟩ := h4 i hi
  refine ⟨x1, x2, x3, x4, ?_⟩
  split
  · next h => rw [if_pos h] at x5; exact x5
  · next h =>
    rw [if_neg h] at x5
    obtain ⟨a, a1, a2, a3, a4, a5, a6⟩ := x5
    exact ⟨a, a2, a3, a4, by omega, a6⟩
theorem ak_lt {n : Nat} : ∀ (ls : List Lit) (a : Nat), a < 2 ^ n → (∀ y, y ∈ ls → y.1.1 = 5 → y.1.2.2.2 < n) → ls.foldl (fun a x => akF x a) a < 2 ^ n
  | [], a, ha, _ => ha
  | x :: r, a, ha, h => by
    rw [List.foldl_cons]
    refine ak_lt r _ ?_ fun y hy => h y (by simp [hy])
    unfold akF
    by_cases c : x.1.1 = 5
    · rw [if_pos c]
      exact Nat.or_lt_two_pow ha (Nat.pow_lt_pow_right (by decide) (h x (by simp) c))
    · rw [if_neg c]; exact ha
theorem litW_0 {x : Lit} : 0 < (litW x).length := by
  unfold litW
  rw [List.length_append]
  have : 0 < (rawW x).length := by
    unfold rawW
    split
    · simp
    · split
      · simp
      · simp only [List.length_append, List.length_cons, List.length_nil]; omega
  omega
theorem cw_GC {c c1 : Hp} {a : Nat} {W : Cd} (h : ∀ i, i < W.length → c1.1 112 (a + i) = nI ((W.getD i (0, 0)).1 + 256 * (W.getD i (0, 0)).2)) (ok : ∀ w, w ∈ W → wOk w) : cwC c1 a W := fun i hi => by
  have e : W.getD i (0, 0) = W[i] := by rw [List.getD_eq_getElem?_getD, List.getElem?_eq_getElem hi]; rfl
  have := h i hi
  rw [e] at this
  exact ⟨this, ok _ (List.getElem_mem hi)⟩
def mLs (g : Nat → Nat) (Ls : Nat → List Lit) : Nat → List Lit := fun l => (Ls l).map (lS g)
/-- the model's side of the new book -/
theorem book_m {c0 m0 cB mB c m m' : Hp} {K sd t np nc nb nl cs cd ln : Nat} {kd pl : Nat → Nat} {A : Nat → Option Cd} {Ls : Nat → List Lit} {as bs : Nat → Nat} (X : CTX c0 m0 K kd pl sd) (T : TSt c0 m0 K kd sd t np nc nb nl cs cd ln A Ls as bs cB mB) (J : SJ c0 m0 K kd sd t nl (fnd nl cB) Ls as bs cB mB nl c m) (u : c.1 142 8 = 0) (am : Agr [(0, some 17), (0, some 18), (0, some 59), (60, none)] m m') : ruR sd A m' ∧ coR sd nl (mLs (ag (fnd nl cB)) Ls) m' := by
  obtain ⟨LS, C, N, hc, hl3, TD, TV, TR⟩ := T
  obtain ⟨U1, U2, U3, U4, U5⟩ := TD
  obtain ⟨J1, J2, J3, J4, J5, J6⟩ := J
  obtain ⟨j1, j2, j3⟩ := J6 u
  have s2 := X.2.2
  have t4 : t < 401 := by have := LS.1.2.2.1; have := X.1.2.1; omega
  have cd4 : cd ≤ 400 := by have := LS.2.2.2.2.2; omega
  have eq : ∀ k j, k ≠ 0 → k ≠ 60 → k ≠ 32 → m'.1 k j = mB.1 k j := fun k j h0 h1 h2 => by
    rw [am.i k j (by simp [wm]; omega), J3.i k j (by simp [W32, wm]; omega)]
  have cdm : ∀ a e, cdM mB a e → cdM m' a e := fun a e h => cdM_w h fun j _ => ⟨eq 35 j (by decide) (by decide) (by decide), eq 36 j (by decide) (by decide) (by decide)⟩
  refine ⟨fun r hr => ?_, fun l hl => ?_⟩
  · have h := TR r hr
    cases hA : A r with
    | none =>
      rw [hA] at h
      show m'.1 26 (3 * sd + r) = 0
      rw [eq 26 _ (by decide) (by decide) (by decide)]
      exact h.2
    | some e =>
      rw [hA] at h
      obtain ⟨h1, h2, _, b, h3, h4, h5, h6⟩ := h
      refine ⟨by rw [eq 26 _ (by decide) (by decide) (by decide)]; exact h2, h1, b, by omega, by rw [eq 27 _ (by decide) (by decide) (by decide)]; exact h4, by rw [eq 28 _ (by decide) (by decide) (by decide)]; exact h5, cdm _ _ h6⟩
  · obtain ⟨⟨V1, V2, V3, V4, V5, V6, V7, V8, V9⟩, Vb⟩ := U5 l hl
    obtain ⟨i1, i2, i3, i4⟩ := j3 l hl
    unfold mLs
    refine ⟨bs l, by rw [List.length_map]; omega, by rw [eq 23 _ (by decide) (by decide) (by decide)]; exact V7, by rw [eq 24 _ (by decide) (by decide) (by decide), List.length_map]; exact V8, fun i hi => ?_⟩
    rw [List.length_map] at hi
    obtain ⟨y1, y2, y3, y4, y5⟩ := V9 i hi
    obtain ⟨o1, o2⟩ := V6 _ (List.getElem_mem hi)
    rw [List.getElem_map]
    obtain ⟨q1, q2, q3, q4⟩ := lS_13 (g := ag (fnd nl cB)) (x := (Ls l)[i])
    unfold ltR
    rw [q1, q2, q3, q4, eq 29 _ (by decide) (by decide) (by decide), eq 30 _ (by decide) (by decide) (by decide), eq 31 _ (by decide) (by decide) (by decide)]
    refine ⟨y1, y2, y3, y4, ?_⟩
    have e32 : m'.1 32 (150 * sd + bs l + i) = m.1 32 (150 * sd + bs l + i) := am.i 32 _ rfl
    by_cases c5 : (Ls l)[i].1.1 = 5
    · rw [if_pos (by omega), e32]
      have e5 : (lS (ag (fnd nl cB)) (Ls l)[i]).1.2.2.2 = ag (fnd nl cB) (Ls l)[i].1.2.2.2 := by unfold lS; rw [if_pos c5]
      rw [e5]
      obtain ⟨z1, z2⟩ := i3 i hi c5
      exact ⟨z1, by have := C.2.2.2.1; omega⟩
    · have e5 : lS (ag (fnd nl cB)) (Ls l)[i] = (Ls l)[i] := by unfold lS; rw [if_neg c5]
      have m32 := i4 i hi c5
      rw [e5]
      by_cases c4 : (Ls l)[i].1.1 = 4
      · rw [if_pos (by omega), e32, m32]
        rw [if_pos c4] at y5
        obtain ⟨z1, z2⟩ := y5 j1
        exact ⟨z1, by have := C.1; omega⟩
      · rw [if_neg (by omega)]
        rw [if_neg c4, if_neg c5] at y5
        obtain ⟨a, a1, a2, a3, a4, a5, a6, a7⟩ := y5
        obtain ⟨k1, k2⟩ := o1.2 (by omega)
        exact ⟨a, a1, by rw [e32, m32]; exact a2, by rw [eq 33 _ (by decide) (by decide) (by decide)]; exact a3, by rw [eq 34 _ (by decide) (by decide) (by decide)]; exact a4, by omega, cdm _ _ a6, cdm _ _ a7, k1, k2⟩
