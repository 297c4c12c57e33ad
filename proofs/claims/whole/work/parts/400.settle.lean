/-- letters asked for are found, both -/
def W7a : Ws := [(129, none), (132, some 7), (133, some 7), (134, some 7), (135, some 7), (136, some 7), (137, some 7), (138, some 7), (139, some 7), (140, some 7), (141, some 7)]
def W7 : Ws := [(129, none), (132, some 7), (133, some 7), (134, some 7), (135, some 7), (136, some 7), (137, some 7), (138, some 7), (139, some 7), (140, some 7), (141, some 7), (142, some 8), (142, some 9)]
def W32 : Ws := [(32, none), (0, some 15), (0, some 16)]
theorem wm_7 {l : Nat} (h : l < 10) : wm W7a (132 + l) 7 = true := by
  match l, h with
  | 0, _ => rfl
  | 1, _ => rfl
  | 2, _ => rfl
  | 3, _ => rfl
  | 4, _ => rfl
  | 5, _ => rfl
  | 6, _ => rfl
  | 7, _ => rfl
  | 8, _ => rfl
  | 9, _ => rfl
theorem wm_7n {l j : Nat} (h : l < 10) (hj : j ≠ 7) : wm W7 (132 + l) j = false := by
  have e : ¬ 7 = j := fun z => hj z.symm
  match l, h with
  | 0, _ => simp [W7, wm, e]
  | 1, _ => simp [W7, wm, e]
  | 2, _ => simp [W7, wm, e]
  | 3, _ => simp [W7, wm, e]
  | 4, _ => simp [W7, wm, e]
  | 5, _ => simp [W7, wm, e]
  | 6, _ => simp [W7, wm, e]
  | 7, _ => simp [W7, wm, e]
  | 8, _ => simp [W7, wm, e]
  | 9, _ => simp [W7, wm, e]
/-- what the model's literals ahead hold -/
def lsR (K : Nat) (kd : Nat → Nat) (m : Hp) (i : Nat) (ls : List Lit) : Prop := ∀ k (h : k < ls.length), ls[k].1.1 ≤ 5 ∧ m.1 29 (i + k) = nI ls[k].1.1 ∧ (ls[k].1.1 = 5 → m.1 32 (i + k) = nI ls[k].1.2.2.2 ∧ ls[k].1.2.2.2 < K ∧ kd ls[k].1.2.2.2 = 2)
theorem lsR_h {K i : Nat} {kd : Nat → Nat} {m : Hp} {x : Lit} {r : List Lit} (h : lsR K kd m i (x :: r)) : x.1.1 ≤ 5 ∧ m.1 29 i = nI x.1.1 ∧ (x.1.1 = 5 → m.1 32 i = nI x.1.2.2.2 ∧ x.1.2.2.2 < K ∧ kd x.1.2.2.2 = 2) := h 0 (by simp)
theorem lsR_t {K i : Nat} {kd : Nat → Nat} {m m1 : Hp} {x : Lit} {r : List Lit} (h : lsR K kd m i (x :: r)) (e : (∀ j, m1.1 29 j = m.1 29 j) ∧ ∀ j, i < j → m1.1 32 j = m.1 32 j) : lsR K kd m1 (i + 1) r := fun k hk => by
  have := h (k + 1) (by simp; omega)
  rw [show i + (k + 1) = i + 1 + k by omega] at this
  rw [e.1, e.2 _ (by omega)]
  simpa using this
/-- the letters that were found -/
def fnd (nl : Nat) (c : Hp) (v : Nat) : Option Nat := (List.range nl).find? (fun i => decide (c.2 145 i = c.2 106 v))
def ag (g : Nat → Option Nat) (v : Nat) : Nat := (g v).getD 0
def SIn (c0 m0 : Hp) (K : Nat) (kd : Nat → Nat) (sd t np nc nl l : Nat) (g : Nat → Option Nat) (W : Cd) (ls : List Lit) (j i acc : Nat) (c m c1 m1 : Hp) : Prop := PB c0 m0 K kd sd t c1 m1 ∧ Agr W7 c c1 ∧ Agr W32 m m1 ∧ (∀ q, q < j ∨ j + W.length ≤ q → c1.1 129 q = c.1 129 q) ∧ (∀ q, q < i ∨ i + ls.length ≤ q → m1.1 32 q = m.1 32 q) ∧ (∀ q, q < 10 → q ≠ l → c1.1 (132 + q) 7 = c.1 (132 + q) 7) ∧ (∀ k (h : k < ls.length), ls[k].1.1 ≠ 5 → m1.1 32 (i + k) = m.1 32 (i + k)) ∧ (c1.1 142 8 = 0 → c.1 142 8 = 0 ∧ c1.1 (132 + l) 7 = nI ((ls.map (lS (ag g))).foldl (fun a x => akF x a) acc) ∧ cwG c1 j (W.map (wS (ag g))) ∧ ∀ k (h : k < ls.length), ls[k].1.1 = 5 → m1.1 32 (i + k) = nI (ag g ls[k].1.2.2.2) ∧ ag g ls[k].1.2.2.2 < nl)
theorem SIn_lit {c0 m0 c m c1 m1 : Hp} {K sd t np nc nl l j i acc : Nat} {kd : Nat → Nat} {g : Nat → Option Nat} {W : Cd} {x : Lit} {r : List Lit} (h5 : x.1.1 ≠ 5) (H : SIn c0 m0 K kd sd t np nc nl l g W r j (i + 1) acc c m c1 m1) : SIn c0 m0 K kd sd t np nc nl l g W (x :: r) j i acc c m c1 m1 := by
  obtain ⟨h1, h2, h3, h4, h6, h7, h8, h9⟩ := H
  refine ⟨h1, h2, h3, h4, fun q hq => h6 q (by rw [List.length_cons] at hq; omega), h7, fun k hk hn => ?_, fun z => ?_⟩
  · cases k with
    | zero => exact h6 i (.inl (by omega))
    | succ k =>
      have := h8 k (by simpa using hk) (by simpa using hn)
      rwa [show i + 1 + k = i + (k + 1) by omega] at this
  · obtain ⟨a1, a2, a3, a4⟩ := h9 z
    have e : lS (ag g) x = x := by unfold lS; rw [if_neg h5]
    have e2 : akF x acc = acc := by unfold akF; rw [if_neg h5]
    refine ⟨a1, ?_, a3, fun k hk hn => ?_⟩
    · rw [List.map_cons, List.foldl_cons, e, e2]; exact a2
    · cases k with
      | zero => exact absurd hn h5
      | succ k =>
        have := a4 k (by simpa using hk) (by simpa using hn)
        rw [show i + 1 + k = i + (k + 1) by omega] at this
        simpa using this
theorem SIn_word {c0 m0 c m c1 m1 : Hp} {K sd t np nc nl l j i acc : Nat} {kd : Nat → Nat} {g : Nat → Option Nat} {W : Cd} {w : Nat × Nat} {r : List Lit} (h29 : w.1 ≠ 29) (hw : c.1 129 j = nI (w.1 + 256 * w.2)) (H : SIn c0 m0 K kd sd t np nc nl l g W r (j + 1) i acc c m c1 m1) : SIn c0 m0 K kd sd t np nc nl l g (w :: W) r j i acc c m c1 m1 := by
  obtain ⟨h1, h2, h3, h4, h6, h7, h8, h9⟩ := H
  refine ⟨h1, h2, h3, fun q hq => h4 q (by rw [List.length_cons] at hq; omega), h6, h7, h8, fun z => ?_⟩
  obtain ⟨a1, a2, a3, a4⟩ := h9 z
  refine ⟨a1, a2, ?_, a4⟩
  rw [List.map_cons, show wS (ag g) w :: W.map (wS (ag g)) = [wS (ag g) w] ++ W.map (wS (ag g)) from rfl]
  refine cwG_app (fun k hk => ?_) a3
  have : k = 0 := by simp at hk; omega
  subst this
  rw [Nat.add_zero, h4 j (.inl (by omega)), hw]
  show _ = nI ((wS (ag g) w).1 + 256 * (wS (ag g) w).2)
  unfold wS
  rw [if_neg h29]
theorem SIn_read {c0 m0 c m c2 m2 c1 m1 : Hp} {K sd t np nc nl l j i acc acc' v : Nat} {kd : Nat → Nat} {g : Nat → Option Nat} {W : Cd} {x : Lit} {r : List Lit} (h5 : x.1.1 = 5) (hv : x.1.2.2.2 = v) (A1 : Agr W7 c c2) (A2 : Agr W32 m m2) (f1 : ∀ q, q ≠ j → c2.1 129 q = c.1 129 q) (f2 : ∀ q, q ≠ i → m2.1 32 q = m.1 32 q) (f3 : ∀ q, q < 10 → q ≠ l → c2.1 (132 + q) 7 = c.1 (132 + q) 7) (hu : c2.1 142 8 = 0 → c.1 142 8 = 0 ∧ c2.1 129 j = nI (29 + 256 * ag g v) ∧ m2.1 32 i = nI (ag g v) ∧ ag g v < nl ∧ acc' = acc ||| 2 ^ ag g v) (H : SIn c0 m0 K kd sd t np nc nl l g W r (j + 1) (i + 1) acc' c2 m2 c1 m1) : SIn c0 m0 K kd sd t np nc nl l g ((29, v) :: W) (x :: r) j i acc c m c1 m1 := by
  obtain ⟨h1, h2, h3, h4, h6, h7, h8, h9⟩ := H
  refine ⟨h1, A1.trans h2, A2.trans h3, fun q hq => ?_, fun q hq => ?_, fun q hq hn => (h7 q hq hn).trans (f3 q hq hn), fun k hk hn => ?_, fun z => ?_⟩
  · rw [List.length_cons] at hq
    rw [h4 q (by omega), f1 q (by omega)]
  · rw [List.length_cons] at hq
    rw [h6 q (by omega), f2 q (by omega)]
  · cases k with
    | zero => exact absurd h5 hn
    | succ k =>
      have := h8 k (by simpa using hk) (by simpa using hn)
      rw [f2 _ (by omega)] at this
      rwa [show i + 1 + k = i + (k + 1) by omega] at this
  · obtain ⟨a1, a2, a3, a4⟩ := h9 z
    obtain ⟨u1, u2, u3, u4, u5⟩ := hu a1
    refine ⟨u1, ?_, ?_, fun k hk hn => ?_⟩
    · rw [List.map_cons, List.foldl_cons]
      have e2 : akF (lS (ag g) x) acc = acc' := by
        unfold akF lS
        rw [if_pos h5, if_pos rfl, u5, hv]
      rw [e2]; exact a2
    · rw [List.map_cons, show wS (ag g) (29, v) :: W.map (wS (ag g)) = [wS (ag g) (29, v)] ++ W.map (wS (ag g)) from rfl]
      refine cwG_app (fun k hk => ?_) a3
      have : k = 0 := by simp at hk; omega
      subst this
      rw [Nat.add_zero, h4 j (.inl (by omega)), u2]
      rfl
    · cases k with
      | zero =>
        show m1.1 32 (i + 0) = nI (ag g x.1.2.2.2) ∧ ag g x.1.2.2.2 < nl
        rw [hv, Nat.add_zero, h6 i (.inl (by omega))]
        exact ⟨u3, u4⟩
      | succ k =>
        have := a4 k (by simpa using hk) (by simpa using hn)
        rw [show i + 1 + k = i + (k + 1) by omega] at this
        simpa using this
