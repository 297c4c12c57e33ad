/-- what has been told -/
def barT (sd nb : Nat) (m : Hp) (q p : Int32) : Bool := (List.range nb).any (fun k => decide (m.1 15 (12 * sd + k) = q) && decide (m.1 16 (12 * sd + k) = p))
def letW (ls : List Lit) : Cd := match ls with
  | [] => []
  | x :: r => litW x ++ cndW r false
def LetC (K : Nat) (kd : Nat → Nat) (sd np cs cd : Nat) (U : Prop) (l a b : Nat) (ls : List Lit) (c m : Hp) : Prop := a + (letW ls).length ≤ cs ∧ c.1 (132 + l) 5 = nI a ∧ c.1 (132 + l) 6 = nI (a + (letW ls).length) ∧ cwG c a (letW ls) ∧ (∀ x r, ls = x :: r → x.1.2.2.1 = true) ∧ (∀ y, y ∈ ls → okL y ∧ y.1.2.2.2 < 401) ∧ m.1 23 (10 * sd + l) = nI (150 * sd + b) ∧ m.1 24 (10 * sd + l) = nI (150 * sd + b + ls.length) ∧ lsT K kd sd np cd U m (150 * sd + b) ls
def CU (K : Nat) (kd : Nat → Nat) (sd np nl cs cd ln : Nat) (U : Prop) (Ls : Nat → List Lit) (as bs : Nat → Nat) (c m : Hp) : Prop := bs 0 = 0 ∧ bs nl = ln ∧ (∀ l, l < nl → bs (l + 1) = bs l + (Ls l).length) ∧ (∀ l l', l < l' → l' < nl → as l + (letW (Ls l)).length ≤ as l') ∧ ∀ l, l < nl → LetC K kd sd np cs cd U l (as l) (bs l) (Ls l) c m ∧ bs l + (Ls l).length ≤ ln
def CVl (sd np nb nl : Nat) (c m : Hp) : Prop := (∀ p, p < np → c.1 126 p = m.1 12 (10 * sd + p)) ∧ (∀ q p, q < 4 → p < 10 → bit (c.1 127 q) (nI p) = barT sd nb m (nI q) (nI p)) ∧ ∀ l, l < nl → c.1 (132 + l) 0 = m.1 18 (10 * sd + l) ∧ c.1 (132 + l) 1 = m.1 19 (10 * sd + l) ∧ c.1 (132 + l) 2 = m.1 20 (10 * sd + l) ∧ c.1 (132 + l) 3 = m.1 21 (10 * sd + l) ∧ c.1 (132 + l) 4 = m.1 22 (10 * sd + l) ∧ (∃ w, w < np ∧ m.1 18 (10 * sd + l) = nI w) ∧ (∃ w, w < np ∧ m.1 19 (10 * sd + l) = nI w) ∧ ∃ s, s < 4 ∧ m.1 20 (10 * sd + l) = nI s
def RU (sd cs cd : Nat) (A : Nat → Option Cd) (c m : Hp) : Prop := ∀ r, r < 3 → match A r with
  | none => c.1 130 r = -1 ∧ m.1 26 (3 * sd + r) = 0
  | some e => okCd e ∧ m.1 26 (3 * sd + r) = 1 ∧ (∃ a, a + e.length ≤ cs ∧ c.1 130 r = nI a ∧ c.1 131 r = nI (a + e.length) ∧ cwG c a (e.map ex2w)) ∧ ∃ b, b + e.length ≤ cd ∧ m.1 27 (3 * sd + r) = nI (420 * sd + b) ∧ m.1 28 (3 * sd + r) = nI (420 * sd + b + e.length) ∧ cdM m (420 * sd + b) e
def Told (K : Nat) (kd : Nat → Nat) (sd np nb nl cs cd ln : Nat) (A : Nat → Option Cd) (Ls : Nat → List Lit) (as bs : Nat → Nat) (c m : Hp) : Prop := CU K kd sd np nl cs cd ln (c.1 142 8 = 0) Ls as bs c m ∧ (c.1 142 8 = 0 → CVl sd np nb nl c m) ∧ RU sd cs cd A c m
def Cnt (sd np nc nb nl : Nat) (c m : Hp) : Prop := np ≤ 10 ∧ nc ≤ 4 ∧ nb ≤ 12 ∧ nl ≤ 10 ∧ c.1 125 6 = nI np ∧ c.1 125 7 = nI nc ∧ c.1 125 8 = nI nb ∧ c.1 125 9 = nI nl ∧ m.1 11 sd = nI np ∧ m.1 13 sd = nI nc ∧ m.1 14 sd = nI nb ∧ m.1 17 sd = nI nl ∧ c.1 125 10 = m.1 25 sd
def WEc : Ws := [(127, none), (129, none), (130, none), (131, none), (132, none), (133, none), (134, none), (135, none), (136, none), (137, none), (138, none), (139, none), (140, none), (141, none)]
def WEm : Ws := [(15, none), (16, none), (18, none), (19, none), (20, none), (21, none), (22, none), (23, none), (24, none), (26, none), (27, none), (28, none), (29, none), (30, none), (31, none), (32, none), (33, none), (34, none), (35, none), (36, none)]
def EqC (cs : Nat) (c c1 : Hp) : Prop := (∀ q, c1.1 127 q = c.1 127 q) ∧ (∀ r, c1.1 130 r = c.1 130 r ∧ c1.1 131 r = c.1 131 r) ∧ (∀ l, l < 10 → ∀ j, c1.1 (132 + l) j = c.1 (132 + l) j) ∧ ∀ j, j < cs → c1.1 129 j = c.1 129 j
def EqM (sd cd ln : Nat) (m m1 : Hp) : Prop := (∀ j, m1.1 15 j = m.1 15 j ∧ m1.1 16 j = m.1 16 j) ∧ (∀ j, m1.1 18 j = m.1 18 j ∧ m1.1 19 j = m.1 19 j ∧ m1.1 20 j = m.1 20 j ∧ m1.1 21 j = m.1 21 j ∧ m1.1 22 j = m.1 22 j ∧ m1.1 23 j = m.1 23 j ∧ m1.1 24 j = m.1 24 j) ∧ (∀ j, m1.1 26 j = m.1 26 j ∧ m1.1 27 j = m.1 27 j ∧ m1.1 28 j = m.1 28 j) ∧ (∀ j, j < 420 * sd + cd → m1.1 35 j = m.1 35 j ∧ m1.1 36 j = m.1 36 j) ∧ ∀ i, i < 150 * sd + ln → m1.1 29 i = m.1 29 i ∧ m1.1 30 i = m.1 30 i ∧ m1.1 31 i = m.1 31 i ∧ m1.1 32 i = m.1 32 i ∧ m1.1 33 i = m.1 33 i ∧ m1.1 34 i = m.1 34 i
theorem EqC.trans {cs cs' : Nat} {c c1 c2 : Hp} (a : EqC cs c c1) (b : EqC cs' c1 c2) (h : cs ≤ cs') : EqC cs c c2 := by
  obtain ⟨a1, a2, a3, a4⟩ := a
  obtain ⟨b1, b2, b3, b4⟩ := b
  exact ⟨fun q => (b1 q).trans (a1 q), fun r => ⟨(b2 r).1.trans (a2 r).1, (b2 r).2.trans (a2 r).2⟩, fun l hl j => (b3 l hl j).trans (a3 l hl j), fun j hj => (b4 j (by omega)).trans (a4 j hj)⟩
theorem EqM.trans {sd cd cd' ln ln' : Nat} {m m1 m2 : Hp} (a : EqM sd cd ln m m1) (b : EqM sd cd' ln' m1 m2) (h : cd ≤ cd') (h' : ln ≤ ln') : EqM sd cd ln m m2 := by
  obtain ⟨a1, a2, a3, a4, a5⟩ := a
  obtain ⟨b1, b2, b3, b4, b5⟩ := b
  refine ⟨fun j => ?_, fun j => ?_, fun j => ?_, fun j hj => ?_, fun j hj => ?_⟩
  · rw [(b1 j).1, (b1 j).2]; exact a1 j
  · obtain ⟨q1, q2, q3, q4, q5, q6, q7⟩ := b2 j
    rw [q1, q2, q3, q4, q5, q6, q7]; exact a2 j
  · obtain ⟨q1, q2, q3⟩ := b3 j
    rw [q1, q2, q3]; exact a3 j
  · obtain ⟨q1, q2⟩ := b4 j (by omega)
    rw [q1, q2]; exact a4 j hj
  · obtain ⟨q1, q2, q3, q4, q5, q6⟩ := b5 j (by omega)
    rw [q1, q2, q3, q4, q5, q6]; exact a5 j hj
theorem EqC_a {cs : Nat} {c c1 : Hp} {W : Ws} (a : Agr W c c1) (hd : djw WEc W = true) : EqC cs c c1 := by
  have q : ∀ k j, wm WEc k j = true → c1.1 k j = c.1 k j := fun k j w => (a k j (djw_wm hd w)).1
  refine ⟨fun j => q 127 j rfl, fun j => ⟨q 130 j rfl, q 131 j rfl⟩, fun l hl j => q _ j ?_, fun j _ => q 129 j rfl⟩
  match l, hl with
  | 0, _ => rfl
  | 1, _ => rfl
  | 2, _ => rfl
  | 3, _ => rfl
  | 4, _ => rfl
  | 5, _ => rfl
  | 6, _ => rfl
  | 7, _ => rfl
  | 8, _ => rfl
  | 9, _ => rfl
theorem EqM_a {sd cd ln : Nat} {m m1 : Hp} {W : Ws} (a : Agr W m m1) (hd : djw WEm W = true) : EqM sd cd ln m m1 := by
  have q : ∀ k j, wm WEm k j = true → m1.1 k j = m.1 k j := fun k j w => (a k j (djw_wm hd w)).1
  exact ⟨fun j => ⟨q 15 j rfl, q 16 j rfl⟩, fun j => ⟨q 18 j rfl, q 19 j rfl, q 20 j rfl, q 21 j rfl, q 22 j rfl, q 23 j rfl, q 24 j rfl⟩, fun j => ⟨q 26 j rfl, q 27 j rfl, q 28 j rfl⟩, fun j _ => ⟨q 35 j rfl, q 36 j rfl⟩, fun j _ => ⟨q 29 j rfl, q 30 j rfl, q 31 j rfl, q 32 j rfl, q 33 j rfl, q 34 j rfl⟩⟩
theorem LWc_l {l j : Nat} (h : l < 10) : wm LWc (132 + l) j = false := by
  match l, h with
  | 0, _ => rfl
  | 1, _ => rfl
  | 2, _ => rfl
  | 3, _ => rfl
  | 4, _ => rfl
  | 5, _ => rfl
  | 6, _ => rfl
  | 7, _ => rfl
  | 8, _ => rfl
  | 9, _ => rfl
theorem EqC_f {cs : Nat} {c c1 : Hp} (f : frC cs c c1) : EqC cs c c1 := ⟨fun j => f.1.i 127 j rfl, fun j => ⟨f.1.i 130 j rfl, f.1.i 131 j rfl⟩, fun _ hl j => f.1.i _ j (LWc_l hl), f.2⟩
theorem EqM_f {sd cd ln : Nat} {m m1 : Hp} (f : frM sd cd ln m m1) : EqM sd cd ln m m1 := ⟨fun j => ⟨f.1.i 15 j rfl, f.1.i 16 j rfl⟩, fun j => ⟨f.1.i 18 j rfl, f.1.i 19 j rfl, f.1.i 20 j rfl, f.1.i 21 j rfl, f.1.i 22 j rfl, f.1.i 23 j rfl, f.1.i 24 j rfl⟩, fun j => ⟨f.1.i 26 j rfl, f.1.i 27 j rfl, f.1.i 28 j rfl⟩, f.2.1, f.2.2⟩
theorem ltT_g {K sd np np' cd cd' ln i : Nat} {kd : Nat → Nat} {U U' : Prop} {m m1 : Hp} {x : Lit} (h : ltT K kd sd np cd U m i x) (f : EqM sd cd ln m m1) (hi : i < 150 * sd + ln) (hc : cd ≤ cd') (hu : U' → U) (hn : np ≤ np') : ltT K kd sd np' cd' U' m1 i x := by
  obtain ⟨h1, h2, h3, h4, h5⟩ := h
  obtain ⟨_, _, _, f2, f3⟩ := f
  obtain ⟨g1, g2, g3, g4, g5, g6⟩ := f3 i hi
  refine ⟨h1, by rw [g1]; exact h2, by rw [g2]; exact h3, by rw [g3]; exact h4, ?_⟩
  by_cases c4 : x.1.1 = 4
  · rw [if_pos c4] at h5 ⊢
    intro u
    obtain ⟨h6, h7⟩ := h5 (hu u)
    exact ⟨by rw [g4]; exact h6, by omega⟩
  · rw [if_neg c4] at h5 ⊢
    by_cases c5 : x.1.1 = 5
    · rw [if_pos c5] at h5 ⊢
      rw [g4]; exact h5
    · rw [if_neg c5] at h5 ⊢
      obtain ⟨a, a1, a2, a3, a4, a5, a6, a7⟩ := h5
      exact ⟨a, a1, by rw [g4]; exact a2, by rw [g5]; exact a3, by rw [g6]; exact a4, by omega, cdM_w a6 fun j hj => f2 j (by omega), cdM_w a7 fun j hj => f2 j (by omega)⟩
theorem RU_f {sd cs cd cs1 cd1 ln : Nat} {A : Nat → Option Cd} {c m c1 m1 : Hp} (H : RU sd cs cd A c m) (fc : EqC cs c c1) (fm : EqM sd cd ln m m1) (h1 : cs ≤ cs1) (h2 : cd ≤ cd1) : RU sd cs1 cd1 A c1 m1 := fun r hr => by
  have h := H r hr
  obtain ⟨_, fc2, _, fc4⟩ := fc
  obtain ⟨_, _, fm3, fm4, _⟩ := fm
  cases hA : A r with
  | none =>
    rw [hA] at h
    simp only at h ⊢
    rw [(fc2 r).1, (fm3 _).1]; exact h
  | some e =>
    rw [hA] at h
    simp only at h ⊢
    obtain ⟨a1, a2, ⟨a, a3, a4, a5, a6⟩, b, b1, b2, b3, b4⟩ := h
    exact ⟨a1, by rw [(fm3 _).1]; exact a2, ⟨a, by omega, by rw [(fc2 r).1]; exact a4, by rw [(fc2 r).2]; exact a5, cwG_w a6 fun j hj => fc4 j (by rw [List.length_map] at hj; omega)⟩, b, by omega, by rw [(fm3 _).2.1]; exact b2, by rw [(fm3 _).2.2]; exact b3, cdM_w b4 fun j hj => fm4 j (by omega)⟩
theorem LetC_f {K sd np np' cs cd cs1 cd1 ln l a b : Nat} {kd : Nat → Nat} {U U' : Prop} {ls : List Lit} {c m c1 m1 : Hp} (H : LetC K kd sd np cs cd U l a b ls c m) (hl : l < 10) (hb : b + ls.length ≤ ln) (fc : EqC cs c c1) (fm : EqM sd cd ln m m1) (h1 : cs ≤ cs1) (h2 : cd ≤ cd1) (hu : U' → U) (hn : np ≤ np') : LetC K kd sd np' cs1 cd1 U' l a b ls c1 m1 := by
  obtain ⟨a1, a2, a3, a4, a5, a6, a7, a8, a9⟩ := H
  have fc' := fc
  have fm' := fm
  obtain ⟨_, _, fc3, fc4⟩ := fc'
  obtain ⟨_, fm2, _, _, _⟩ := fm'
  exact ⟨by omega, by rw [fc3 l hl]; exact a2, by rw [fc3 l hl]; exact a3, cwG_w a4 fun j hj => fc4 j (by omega), a5, a6, by rw [(fm2 _).2.2.2.2.2.1]; exact a7, by rw [(fm2 _).2.2.2.2.2.2]; exact a8, fun i hi => ltT_g (a9 i hi) fm (by omega) h2 hu hn⟩
theorem CVl_f {sd np np' nb nl cs cd ln : Nat} {c m c1 m1 : Hp} (H : CVl sd np nb nl c m) (hl : nl ≤ 10) (fc : EqC cs c c1) (fm : EqM sd cd ln m m1) (hn : np ≤ np') (ag : ∀ p, p < np' → c1.1 126 p = m1.1 12 (10 * sd + p)) : CVl sd np' nb nl c1 m1 := by
  obtain ⟨h1, h2, h3⟩ := H
  obtain ⟨fc1, _, fc3, _⟩ := fc
  obtain ⟨fm1, fm2, _, _, _⟩ := fm
  refine ⟨ag, fun q p hq hp => ?_, fun l hl' => ?_⟩
  · rw [fc1 q, h2 q p hq hp]
    unfold barT
    congr 1
    funext k
    rw [(fm1 _).1, (fm1 _).2]
  · obtain ⟨q1, q2, q3, q4, q5, _, _⟩ := fm2 (10 * sd + l)
    rw [fc3 l (by omega), fc3 l (by omega), fc3 l (by omega), fc3 l (by omega), fc3 l (by omega), q1, q2, q3, q4, q5]
    obtain ⟨z1, z2, z3, z4, z5, ⟨w1, z6, z7⟩, ⟨w2, z8, z9⟩, z10⟩ := h3 l hl'
    exact ⟨z1, z2, z3, z4, z5, ⟨w1, by omega, z7⟩, ⟨w2, by omega, z9⟩, z10⟩
theorem Told_g {K sd np np' nb nl cs cd ln cs1 cd1 : Nat} {kd : Nat → Nat} {A : Nat → Option Cd} {Ls : Nat → List Lit} {as bs : Nat → Nat} {c m c1 m1 : Hp} (H : Told K kd sd np nb nl cs cd ln A Ls as bs c m) (hl : nl ≤ 10) (fc : EqC cs c c1) (fm : EqM sd cd ln m m1) (h1 : cs ≤ cs1) (h2 : cd ≤ cd1) (hu : c1.1 142 8 = 0 → c.1 142 8 = 0) (hn : np ≤ np') (ag : c1.1 142 8 = 0 → CVl sd np nb nl c m → ∀ p, p < np' → c1.1 126 p = m1.1 12 (10 * sd + p)) : Told K kd sd np' nb nl cs1 cd1 ln A Ls as bs c1 m1 := by
  obtain ⟨⟨u1, u2, u3, u4, u5⟩, v, r⟩ := H
  exact ⟨⟨u1, u2, u3, u4, fun l hl' => ⟨LetC_f (u5 l hl').1 (by omega) (u5 l hl').2 fc fm h1 h2 hu hn, (u5 l hl').2⟩⟩, fun z => CVl_f (v (hu z)) hl fc fm hn (ag z (v (hu z))), RU_f r fc fm h1 h2⟩
/-- where neither ages nor people have changed -/
theorem Told_f {K sd np nb nl cs cd ln cs1 cd1 : Nat} {kd : Nat → Nat} {A : Nat → Option Cd} {Ls : Nat → List Lit} {as bs : Nat → Nat} {c m c1 m1 : Hp} (H : Told K kd sd np nb nl cs cd ln A Ls as bs c m) (hl : nl ≤ 10) (fc : EqC cs c c1) (fm : EqM sd cd ln m m1) (h1 : cs ≤ cs1) (h2 : cd ≤ cd1) (hu : c1.1 142 8 = 0 → c.1 142 8 = 0) (a1 : ∀ p, c1.1 126 p = c.1 126 p) (a2 : ∀ p, m1.1 12 p = m.1 12 p) : Told K kd sd np nb nl cs1 cd1 ln A Ls as bs c1 m1 := Told_g H hl fc fm h1 h2 hu (Nat.le_refl _) fun _ cv p hp => by rw [a1, a2]; exact cv.1 p hp
theorem Cnt_e {sd np nc nb nl : Nat} {c m c1 m1 : Hp} (H : Cnt sd np nc nb nl c m) (e : (∀ j, 6 ≤ j → j ≤ 10 → c1.1 125 j = c.1 125 j) ∧ m1.1 11 sd = m.1 11 sd ∧ m1.1 13 sd = m.1 13 sd ∧ m1.1 14 sd = m.1 14 sd ∧ m1.1 17 sd = m.1 17 sd ∧ m1.1 25 sd = m.1 25 sd) : Cnt sd np nc nb nl c1 m1 := by
  unfold Cnt
  obtain ⟨e1, e2, e3, e4, e5, e6⟩ := e
  rw [e1 6 (by decide) (by decide), e1 7 (by decide) (by decide), e1 8 (by decide) (by decide), e1 9 (by decide) (by decide), e1 10 (by decide) (by decide), e2, e3, e4, e5, e6]
  exact H
theorem Cnt_a {sd np nc nb nl : Nat} {c m c1 m1 : Hp} {Wc Wm : Ws} (H : Cnt sd np nc nb nl c m) (ac : Agr Wc c c1) (am : Agr Wm m m1) (hc : djw [(125, some 6), (125, some 7), (125, some 8), (125, some 9), (125, some 10)] Wc = true) (hm : djw [(11, none), (13, none), (14, none), (17, none), (25, none)] Wm = true) : Cnt sd np nc nb nl c1 m1 := Cnt_e H ⟨fun j h1 h2 => by
  have : j = 6 ∨ j = 7 ∨ j = 8 ∨ j = 9 ∨ j = 10 := by omega
  rcases this with rfl | rfl | rfl | rfl | rfl
  · exact (ac 125 6 (djw_wm hc rfl)).1
  · exact (ac 125 7 (djw_wm hc rfl)).1
  · exact (ac 125 8 (djw_wm hc rfl)).1
  · exact (ac 125 9 (djw_wm hc rfl)).1
  · exact (ac 125 10 (djw_wm hc rfl)).1, (am 11 sd (djw_wm hm rfl)).1, (am 13 sd (djw_wm hm rfl)).1, (am 14 sd (djw_wm hm rfl)).1, (am 17 sd (djw_wm hm rfl)).1, (am 25 sd (djw_wm hm rfl)).1⟩
theorem NmR_a {np nc nl : Nat} {c m c1 m1 : Hp} {Wc Wm : Ws} (H : NmR np nc nl c m) (ac : Agr Wc c c1) (am : Agr Wm m m1) (hc : djw [(143, none), (144, none), (145, none)] Wc = true) (hm : djw [(0, some 20), (8, none), (9, none), (10, none)] Wm = true) : NmR np nc nl c1 m1 := NmR_w H (fun s i hs _ => by
  match s, hs with
  | 0, _ => exact (ac 143 i (djw_wm hc rfl)).2
  | 1, _ => exact (ac 144 i (djw_wm hc rfl)).2
  | 2, _ => exact (ac 145 i (djw_wm hc rfl)).2) ⟨(am 0 20 (djw_wm hm rfl)).1, fun k => (am 9 k (djw_wm hm rfl)).1, fun k => (am 10 k (djw_wm hm rfl)).1, fun k => (am 8 k (djw_wm hm rfl)).2⟩
/-- the state between two tellings -/
def TSt (c0 m0 : Hp) (K : Nat) (kd : Nat → Nat) (sd t np nc nb nl cs cd ln : Nat) (A : Nat → Option Cd) (Ls : Nat → List Lit) (as bs : Nat → Nat) (c m : Hp) : Prop := LSt c0 m0 K kd sd t cs cd ln c m ∧ Cnt sd np nc nb nl c m ∧ NmR np nc nl c m ∧ cs ≤ t ∧ 3 * ln ≤ t ∧ Told K kd sd np nb nl cs cd ln A Ls as bs c m
def TellOk (c0 m0 : Hp) (K : Nat) (kd : Nat → Nat) (sd t : Nat) (c m : Hp) : Prop := ∃ t1 np nc nb nl cs cd ln A Ls as bs, t < t1 ∧ TSt c0 m0 K kd sd t1 np nc nb nl cs cd ln A Ls as bs c m
theorem R2b_seq {c0 m0 : Hp} {sd : Nat} {oc om : Option (Int32 × Hp)} {S : Int32 → Hp → Hp → Prop} {S' : Hp → Hp → Prop} {kc : Hp → Option (Int32 × Hp)} {km : Int32 → Hp → Option Hp} (h : R2b c0 m0 sd oc om S) (hs : ∀ x c m, S x c m → R2 c0 m0 sd (kc c) (km x m) S') (hf : ∀ f p x m, FM m0 sd f p m → Ok (km x m) (FM m0 sd f p)) : R2 c0 m0 sd (bi oc (fun w h => if w = 0 then ck (zb 0) (some (0, h)) else kc h)) (bi om km) S' := by
  obtain ⟨v, c1, x, m1, e1, e2, h⟩ := h
  rw [e1, e2, bi_q, bi_q]
  rcases h with ⟨rfl, h2⟩ | ⟨rfl, f, p, hp, g1, g2, g3, g4⟩
  · rw [if_neg (by decide)]
    exact hs _ _ _ h2
  · rw [if_pos rfl, ck_of zb_0]
    obtain ⟨m2, e3, g5⟩ := hf f p x m1 g4
    exact ⟨0, c1, m2, rfl, e3, .inr ⟨rfl, f, p, hp, g1, g2, g3, g5⟩⟩
theorem FF_w {c0 m0 c c1 m : Hp} {sd : Nat} {W : Ws} (F : FF c0 m0 sd c m) (ec : Agr W c c1) (hs : sbw W PWc = true) (hd : djw [(142, some 6), (142, some 7), (142, some 8), (142, some 9)] W = true) : FF c0 m0 sd c1 m := by
  obtain ⟨f, p, g1, g2, g3, g4, g5⟩ := F
  have r : ∀ j, wm [(142, some 6), (142, some 7), (142, some 8), (142, some 9)] 142 j = true → c1.1 142 j = c.1 142 j := fun j w => (ec 142 j (djw_wm hd w)).1
  exact ⟨f, p, g1, g2.trans (ec.sub hs), by rw [r 8 rfl]; exact g3, by rw [r 9 rfl]; exact g4, g5⟩
theorem M_notes {m : Hp} {u n : Nat} {s i : Int32} (h20 : m.1 0 20 = nI n) (hn : n < 24) (hu : u < 403) : fX12_notes (nI u) s i m = some (wI (wI (wI (wL m 8 n (m.2 6 u)) 9 n s) 10 n i) 0 20 (nI (n + 1))) := by
  simp only [fX12_notes, h20, ck_of (nI_inb hu (by decide)), ck_of (nI_inb hn (by decide)), nI_ix (show u < 2 ^ 31 by omega), nI_ix (show n < 2 ^ 31 by omega), lt_q, wL_i, wI_k (show (0 : Nat) ≠ 9 by decide), wI_k (show (0 : Nat) ≠ 10 by decide), nI_1]
theorem NmR_add {np nc nl np' nc' nl' s : Nat} {c m c1 m1 : Hp} {y : Int64} (H : NmR np nc nl c m) (hs : s < 3) (hc : ∀ s', cntN np' nc' nl' s' = if (if s' = 0 then 0 else if s' = 1 then 1 else 2) = s then cntN np nc nl s' + 1 else cntN np nc nl s') (hsum : np' + nc' + nl' = np + nc + nl + 1) (ec : c1.2 (143 + s) (cntN np nc nl s) = y) (eo : ∀ s' i, s' < 3 → ¬ (s' = s ∧ i = cntN np nc nl s) → i < cntN np nc nl s' → c1.2 (143 + s') i = c.2 (143 + s') i) (e20 : m1.1 0 20 = nI (np + nc + nl + 1)) (e8 : nmR y (m1.2 8 (np + nc + nl))) (e9 : m1.1 9 (np + nc + nl) = nI s) (e10 : m1.1 10 (np + nc + nl) = nI (cntN np nc nl s)) (o9 : ∀ k, k < np + nc + nl → m1.1 9 k = m.1 9 k ∧ m1.1 10 k = m.1 10 k ∧ m1.2 8 k = m.2 8 k) : NmR np' nc' nl' c1 m1 := by
  obtain ⟨h0, es, h1, h2, h3⟩ := H
  have sc : ∀ s', s' < 3 → (if s' = 0 then 0 else if s' = 1 then 1 else 2) = s' := fun s' h => by
    match s', h with
    | 0, _ => rfl
    | 1, _ => rfl
    | 2, _ => rfl
  have hcs : cntN np' nc' nl' s = cntN np nc nl s + 1 := by rw [hc, sc s hs, if_pos rfl]
  have hco : ∀ s', s' < 3 → s' ≠ s → cntN np' nc' nl' s' = cntN np nc nl s' := fun s' h hn => by rw [hc, sc s' h, if_neg hn]
  refine ⟨by rw [hsum]; exact e20, fun k => if k = np + nc + nl then (s, cntN np nc nl s) else es k, fun k hk => ?_, fun s' i hs' hi => ?_, fun k k' hkk hk' he => ?_⟩
  · rw [hsum] at hk
    by_cases e : k = np + nc + nl
    · subst e
      simp only [↓reduceIte]
      exact ⟨hs, by omega, e9, e10, by rw [ec]; exact e8⟩
    · simp only [if_neg e]
      obtain ⟨a1, a2, a3, a4, a5⟩ := h1 k (by omega)
      obtain ⟨b1, b2, b3⟩ := o9 k (by omega)
      have lt : (es k).2 < cntN np' nc' nl' (es k).1 := by
        by_cases es' : (es k).1 = s
        · rw [es', hcs]; rw [es'] at a2; omega
        · rw [hco _ a1 es']; exact a2
      refine ⟨a1, lt, by rw [b1]; exact a3, by rw [b2]; exact a4, ?_⟩
      rw [b3, eo _ _ a1 (fun z => by rw [z.1] at a2; omega) a2]
      exact a5
  · rw [hsum]
    by_cases e : s' = s ∧ i = cntN np nc nl s
    · obtain ⟨rfl, rfl⟩ := e
      exact ⟨np + nc + nl, by omega, if_pos rfl⟩
    · have hi' : i < cntN np nc nl s' := by
        by_cases es' : s' = s
        · subst es'; rw [hcs] at hi
          have : i ≠ cntN np nc nl s' := fun z => e ⟨rfl, z⟩
          omega
        · rw [hco _ hs' es'] at hi; exact hi
      obtain ⟨k, hk, ek⟩ := h2 s' i hs' hi'
      exact ⟨k, by omega, by show (if k = np + nc + nl then (s, cntN np nc nl s) else es k) = (s', i); rw [if_neg (by omega)]; exact ek⟩
  · rw [hsum] at hk'
    by_cases e' : k' = np + nc + nl
    · subst e'
      have ne : ¬ k = np + nc + nl := by omega
      simp only [if_neg ne, ↓reduceIte] at he ⊢
      have := (h1 k (by omega)).2.1
      rw [he] at this
      exact this
    · have ne : ¬ k = np + nc + nl := by omega
      simp only [if_neg ne, if_neg e'] at he ⊢
      exact h3 k k' hkk (by omega) he
