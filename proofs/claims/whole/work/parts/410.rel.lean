/-- the book, and what keeps it -/
def bkP (v k j : Nat) : Prop := (k = 0 ∧ j = 18) ∨ ((k = 11 ∨ k = 13 ∨ k = 14 ∨ k = 17 ∨ k = 25) ∧ j = v) ∨ ((k = 12 ∨ (18 ≤ k ∧ k ≤ 24)) ∧ 10 * v ≤ j ∧ j < 10 * v + 10) ∨ ((k = 15 ∨ k = 16) ∧ 12 * v ≤ j ∧ j < 12 * v + 12) ∨ ((26 ≤ k ∧ k ≤ 28) ∧ 3 * v ≤ j ∧ j < 3 * v + 3) ∨ ((29 ≤ k ∧ k ≤ 34) ∧ 150 * v ≤ j ∧ j < 150 * v + 150) ∨ ((k = 35 ∨ k = 36) ∧ 420 * v ≤ j ∧ j < 420 * v + 420)
def bkE (v : Nat) (m m1 : Hp) : Prop := ∀ k j, bkP v k j → m1.1 k j = m.1 k j
def BAm : Ws := [(0, some 18), (11, none), (12, none), (13, none), (14, none), (15, none), (16, none), (17, none), (18, none), (19, none), (20, none), (21, none), (22, none), (23, none), (24, none), (25, none), (26, none), (27, none), (28, none), (29, none), (30, none), (31, none), (32, none), (33, none), (34, none), (35, none), (36, none)]
theorem bk_ag {v : Nat} {m m1 : Hp} {W : Ws} (e : Agr W m m1) (hd : djw BAm W = true) : bkE v m m1 := fun k j h => by
  have : wm BAm k j = true := by
    have h' : (k = 0 ∧ j = 18) ∨ (11 ≤ k ∧ k ≤ 36) := by unfold bkP at h; omega
    rcases h' with ⟨rfl, rfl⟩ | ⟨h1, h2⟩
    · rfl
    · have a : ∀ x, x ≤ 25 → wm BAm (11 + x) j = true := fun x hx => by
        match x, hx with
        | 0, _ => rfl
        | 1, _ => rfl
        | 2, _ => rfl
        | 3, _ => rfl
        | 4, _ => rfl
        | 5, _ => rfl
        | 6, _ => rfl
        | 7, _ => rfl
        | 8, _ => rfl
        | 9, _ => rfl
        | 10, _ => rfl
        | 11, _ => rfl
        | 12, _ => rfl
        | 13, _ => rfl
        | 14, _ => rfl
        | 15, _ => rfl
        | 16, _ => rfl
        | 17, _ => rfl
        | 18, _ => rfl
        | 19, _ => rfl
        | 20, _ => rfl
        | 21, _ => rfl
        | 22, _ => rfl
        | 23, _ => rfl
        | 24, _ => rfl
        | 25, _ => rfl
        | n + 26, h => exact absurd h (by omega)
      have := a (k - 11) (by omega)
      rwa [show 11 + (k - 11) = k by omega] at this
  exact (e k j (djw_wm hd this)).1
theorem bk_M {v : Nat} {m m1 : Hp} (hv : v < 2) (e : AgrM (1 - v) m m1) : bkE v m m1 := fun k j h => e.i k j (by
  have w : wm PWm k j = false := by
    have h' : (k = 0 ∧ j = 18) ∨ (11 ≤ k ∧ k ≤ 36) := by unfold bkP at h; omega
    rcases h' with ⟨rfl, rfl⟩ | ⟨h1, h2⟩
    · rfl
    · simp [PWm, wm]; omega
  rw [Bool.eq_false_iff]
  intro z
  unfold pwm at z
  rw [w] at z
  simp only [Bool.false_or, Bool.or_eq_true, Bool.and_eq_true, beq_iff_eq, decide_eq_true_eq] at z
  unfold bkP at h
  omega)
theorem bkE.trans {v : Nat} {m m1 m2 : Hp} (a : bkE v m m1) (b : bkE v m1 m2) : bkE v m m2 := fun k j h => (b k j h).trans (a k j h)
def BK (A : Nat → Option Cd) (Ls : Nat → List Lit) (cs : Nat) (c m : Hp) : Prop := RD0 c m ∧ ruR (lv m) A m ∧ coR (lv m) (nL m) Ls m ∧ ruC A cs c ∧ coC Ls cs c m ∧ (∀ l x r, l < nL m → Ls l = x :: r → x.1.2.2.1 = true) ∧ tbC A c m ∧ ∀ l, l < nL m → akS (Ls l) < 2 ^ nL m ∧ c.1 (115 + l) 7 = nI (akS (Ls l))
def BVc : Ws := [(108, none), (110, none), (112, none), (113, none), (114, none), (115, none), (116, none), (117, none), (118, none), (119, none), (120, none), (121, none), (122, none), (123, none), (124, none), (150, none), (151, none)]
theorem BVc_l {l j : Nat} (h : l < 10) : wm BVc (115 + l) j = true := by
  match l, h with
  | 0, _ => rfl
  | 1, _ => rfl
  | 2, _ => rfl
  | 3, _ => rfl
  | 4, _ => rfl
  | 5, _ => rfl
  | 6, _ => rfl
  | 7, _ => rfl
  | 8, _ => rfl
  | 9, _ => rfl
theorem cwC_e {c c1 : Hp} {a : Nat} {W : Cd} (e : ∀ j, c1.1 112 j = c.1 112 j) (h : cwC c a W) : cwC c1 a W := fun i hi => by rw [e]; exact h i hi
theorem BK_num {c m m1 : Hp} (D : RD0 c m) (em : bkE (lv m) m m1) : lv m1 = lv m ∧ nP m1 = nP m ∧ nC m1 = nC m ∧ nB m1 = nB m ∧ nL m1 = nL m := by
  have l0 : lv m1 = lv m := by unfold lv; rw [em 0 18 (.inl ⟨rfl, rfl⟩)]
  refine ⟨l0, ?_, ?_, ?_, ?_⟩
  · unfold nP; rw [l0, em 11 _ (by unfold bkP; omega)]
  · unfold nC; rw [l0, em 13 _ (by unfold bkP; omega)]
  · unfold nB; rw [l0, em 14 _ (by unfold bkP; omega)]
  · unfold nL; rw [l0, em 17 _ (by unfold bkP; omega)]
theorem RD0_w {c m c1 m1 : Hp} {W : Ws} (D : RD0 c m) (ec : Agr W c c1) (hc : djw BVc W = true) (em : bkE (lv m) m m1) : RD0 c1 m1 := by
  have q : ∀ k j, wm BVc k j = true → c1.1 k j = c.1 k j := fun k j w => (ec k j (djw_wm hc w)).1
  obtain ⟨l0, p0, c0, b0, n0⟩ := BK_num D em
  obtain ⟨d1, d2, d3, d4, d5, d6, d7, d8, d9⟩ := D
  unfold RD0
  rw [l0, p0, c0, b0, n0, em 0 18 (.inl ⟨rfl, rfl⟩), em 11 _ (by unfold bkP; omega), em 13 _ (by unfold bkP; omega), em 14 _ (by unfold bkP; omega), em 17 _ (by unfold bkP; omega), q 108 6 rfl, q 108 7 rfl, q 108 8 rfl, q 108 9 rfl, q 108 10 rfl]
  have w0 : ∀ l, l < 10 → wrI m1 l = wrI m l ∧ rdI m1 l = rdI m l ∧ shI m1 l = shI m l ∧ liI m1 l = liI m l ∧ hmI m1 l = hmI m l := fun l hl => by
    unfold wrI rdI shI liI hmI
    rw [l0]
    exact ⟨em 18 _ (by unfold bkP; omega), em 19 _ (by unfold bkP; omega), em 20 _ (by unfold bkP; omega), em 21 _ (by unfold bkP; omega), em 22 _ (by unfold bkP; omega)⟩
  refine ⟨d1, d2, d3, d4, d5, ?_, fun l hl => ?_, fun l hl => ?_, fun a ha p hp => ?_⟩
  · unfold prI
    rw [l0, em 25 _ (by unfold bkP; omega)]; exact d6
  · obtain ⟨w1, w2, w3, w4, w5⟩ := w0 l (by omega)
    have h10 : l < 10 := by omega
    rw [q _ _ (BVc_l h10), q _ _ (BVc_l h10), q _ _ (BVc_l h10), q _ _ (BVc_l h10), q _ _ (BVc_l h10), w1, w2, w3, w4, w5]
    exact d7 l hl
  · obtain ⟨w1, w2, w3, w4, w5⟩ := w0 l (by omega)
    rw [w1, w2, w3]
    exact d8 l hl
  · rw [q 110 _ rfl, d9 a ha p hp]
    unfold barS
    rw [b0, l0]
    exact any_cg fun k hk => by
      rw [em 15 _ (by unfold bkP; omega), em 16 _ (by unfold bkP; omega)]
theorem cdM_r {m m1 : Hp} {v a : Nat} {e : Cd} (h : cdM m a e) (em : bkE v m m1) (h1 : 420 * v ≤ a) (h2 : a + e.length ≤ 420 * v + 420) : cdM m1 a e := fun i hi => by
  rw [em 35 _ (by unfold bkP; omega), em 36 _ (by unfold bkP; omega)]; exact h i hi
theorem BK_w {A : Nat → Option Cd} {Ls : Nat → List Lit} {cs : Nat} {c m c1 m1 : Hp} {W : Ws} (H : BK A Ls cs c m) (ec : Agr W c c1) (hc : djw BVc W = true) (em : bkE (lv m) m m1) : BK A Ls cs c1 m1 := by
  obtain ⟨D, h1, h2, h3, h4, h5, h6, h7⟩ := H
  have q : ∀ k j, wm BVc k j = true → c1.1 k j = c.1 k j := fun k j w => (ec k j (djw_wm hc w)).1
  have D1 := RD0_w D ec hc em
  obtain ⟨l0, p0, _, b0, n0⟩ := BK_num D em
  have p10 := D.2.1.1
  have n10 := D.2.2.2.2.1.1
  refine ⟨D1, ?_, ?_, ?_, ?_, by rw [n0]; exact h5, ?_, ?_⟩
  · rw [l0]
    intro r hr
    have h := h1 r hr
    cases hA : A r with
    | none =>
      rw [hA] at h
      show m1.1 26 _ = 0
      rw [em 26 _ (by unfold bkP; omega)]; exact h
    | some e =>
      rw [hA] at h
      obtain ⟨a1, a2, b, a3, a4, a5, a6⟩ := h
      exact ⟨by rw [em 26 _ (by unfold bkP; omega)]; exact a1, a2, b, a3, by rw [em 27 _ (by unfold bkP; omega)]; exact a4, by rw [em 28 _ (by unfold bkP; omega)]; exact a5, cdM_r a6 em (by omega) (by omega)⟩
  · rw [l0, n0]
    intro l hl
    obtain ⟨b, a1, a2, a3, a4⟩ := h2 l hl
    refine ⟨b, a1, by rw [em 23 _ (by unfold bkP; omega)]; exact a2, by rw [em 24 _ (by unfold bkP; omega)]; exact a3, fun i hi => ?_⟩
    obtain ⟨x1, x2, x3, x4, x5⟩ := a4 i hi
    refine ⟨x1, by rw [em 29 _ (by unfold bkP; omega)]; exact x2, by rw [em 30 _ (by unfold bkP; omega)]; exact x3, by rw [em 31 _ (by unfold bkP; omega)]; exact x4, ?_⟩
    rw [em 32 _ (by unfold bkP; omega), em 33 _ (by unfold bkP; omega), em 34 _ (by unfold bkP; omega)]
    split
    · next h => rw [if_pos h] at x5; exact x5
    · next h =>
      rw [if_neg h] at x5
      obtain ⟨a, z1, z2, z3, z4, z5, z6, z7, z8⟩ := x5
      exact ⟨a, z1, z2, z3, z4, z5, cdM_r z6 em z1 (by omega), cdM_r z7 em (by omega) (by omega), z8⟩
  · obtain ⟨a1, a2, a3⟩ := h3
    refine ⟨by rw [q 108 11 rfl]; exact a1, a2, fun r hr => ?_⟩
    have h := a3 r hr
    cases hA : A r with
    | none =>
      rw [hA] at h
      show c1.1 113 r = -1
      rw [q 113 _ rfl]; exact h
    | some e =>
      rw [hA] at h
      obtain ⟨b1, a, b2, b3, b4, b5⟩ := h
      exact ⟨b1, a, b2, by rw [q 113 _ rfl]; exact b3, by rw [q 114 _ rfl]; exact b4, cwC_e (fun j => q 112 j rfl) b5⟩
  · obtain ⟨a1, a2, a3⟩ := h4
    refine ⟨by rw [q 108 11 rfl]; exact a1, a2, fun l hl => ?_⟩
    rw [n0] at hl
    have h := a3 l hl
    have h10 : l < 10 := by omega
    cases hL : Ls l with
    | nil =>
      rw [hL] at h
      obtain ⟨a, b1, b2, b3⟩ := h
      exact ⟨a, b1, by rw [q _ _ (BVc_l h10)]; exact b2, by rw [q _ _ (BVc_l h10)]; exact b3⟩
    | cons x r =>
      rw [hL] at h
      obtain ⟨b0, a, b1, b2, b3, b4, b5⟩ := h
      exact ⟨b0, a, b1, b2, by rw [q _ _ (BVc_l h10)]; exact b3, by rw [q _ _ (BVc_l h10)]; exact b4, cwC_e (fun j => q 112 j rfl) b5⟩
  · have sh : ∀ l, l < 10 → shI m1 l = shI m l := fun l hl => by
      unfold shI
      rw [l0, em 20 _ (by unfold bkP; omega)]
    refine ⟨fun p y hp hy => ?_, fun l y hl hy => ?_⟩
    · rw [p0] at hp
      rw [q 150 _ rfl, h6.1 p y hp hy]
      unfold diS agI
      rw [l0, em 12 _ (by unfold bkP; omega)]
    · rw [n0] at hl
      obtain ⟨s, s1, s2, s3⟩ := h6.2 l y hl hy
      refine ⟨s, s1, by rw [sh l (by omega)]; exact s2, ?_⟩
      rw [q 151 _ rfl, s3]
      unfold feS
      rw [sh l (by omega)]
  · rw [n0]
    intro l hl
    rw [q _ _ (BVc_l (by omega))]
    exact h7 l hl
theorem BK_QH {A : Nat → Option Cd} {Ls : Nat → List Lit} {cs F : Nat} {c m : Hp} (H : BK A Ls cs c m) (R : RFn (nP m) (nL m) F c m) : QH (semS A Ls m) F c m := by
  obtain ⟨D, h1, h2, h3, h4, h5, h6, h7⟩ := H
  exact ⟨D, R, M_sem D (ruR_M D.1.1 h1) (coR_M D.1.1 h2), C_sem D h3 h4 h5 h6⟩
theorem BK_XA {A : Nat → Option Cd} {Ls : Nat → List Lit} {cs : Nat} {c m : Hp} (H : BK A Ls cs c m) : XA (fun l => akS (Ls l)) c m := fun l hl => by
  obtain ⟨D, h1, h2, h3, h4, h5, h6, h7⟩ := H
  exact ⟨(h7 l hl).1, (h7 l hl).2, fun h e => M_asksOf D (coR_M D.1.1 h2) e hl⟩
