/-- literals: what they rest on -/
theorem D_lit232 {m0 m : Hp} {sd f p : Nat} (F : FM m0 sd f p m) (x1 x2 x3 x4 : Int32) : Ok (bX12_literal_232 x1 x2 x3 x4 m) (FM m0 sd f p) := by
  unfold bX12_literal_232
  rw [ok_bv]
  refine (D_goesOn F).mono fun h1 F1 => ?_
  rw [lt_q, ok_bv]
  refine (D_exp F1).mono fun h3 F3 => ?_
  rw [if_neg (FM_13 F3).2.1, ok_some]
  exact F3
theorem D_lit {m0 m : Hp} {sd f p : Nat} (F : FM m0 sd f p m) (g : Nat) (x1 x2 : Int32) : Ok (lX12_literal_2 (g + 1) x1 x2 m) (FM m0 sd f p) := by
  rw [lX12_literal_2]
  unfold bX12_literal_2
  simp only [D_is F, bi_q, ↓reduceIte, lt_q, ok_bv]
  refine (D_exp F).mono fun h8 F8 => ?_
  rw [if_neg (FM_13 F8).2.1]
  unfold bX12_literal_207
  rw [lt_q, if_neg (FM_13 F8).1]
  exact D_lit232 F8 _ _ _ _
theorem D_literal {m0 m : Hp} {sd f p : Nat} (F : FM m0 sd f p m) (x : Int32) : Ok (fX12_literal x m) (FM m0 sd f p) := by
  unfold fX12_literal
  rw [lt_q, show lX12_literal_2 FU = lX12_literal_2 (19999 + 1) from rfl]
  exact D_lit F _ _ _
theorem tk_told2 {c0 m0 c m : Hp} {K sd t np nc nl s n : Nat} {kd pl : Nat → Nat} (X : CTX c0 m0 K kd pl sd) (P : PB c0 m0 K kd sd t c m) (N : NmR np nc nl c m) (hs : s < 3) (hn : cntN np nc nl s ≤ n) (hn0 : 0 < n) (h20 : n ≤ 20) (h24 : np + nc + nl ≤ 24) (kk : Int32 → Hp → Option Hp) (ee : Hp → Option Hp) :
    ∃ v c1, fX5_takeTold (143 + s) n (nI (cntN np nc nl s)) c = some (v, c1) ∧ ((0 ≤ v ∧ ∃ x m1, bv (fX12_must 1 m) (fun h2 => if h2.1 0 13 ≤ 0 then bi (fX12_find (nI t) (nI s) h2) (fun w4 h3 => if w4 = -1 then bv (fX12_amiss 4 (nI t) h3) (fun h6 => kk w4 h6) else kk w4 h3) else ee h2) = kk x m1 ∧ t < 400 ∧ PB c0 m0 K kd sd (t + 1) c1 m1 ∧ Agr (W67 ++ W89) c c1 ∧ Agr (W11 ++ W156) m m1 ∧ (∃ i, i < n ∧ v = nI i) ∧ (c1.1 142 8 = 0 → c.1 142 8 = 0 ∧ x = v ∧ ∃ i, i < cntN np nc nl s ∧ v = nI i)) ∨ (v = -1 ∧ ∃ m1, bv (fX12_must 1 m) (fun h2 => if h2.1 0 13 ≤ 0 then bi (fX12_find (nI t) (nI s) h2) (fun w4 h3 => if w4 = -1 then bv (fX12_amiss 4 (nI t) h3) (fun h6 => kk w4 h6) else kk w4 h3) else ee h2) = ee m1 ∧ FF c0 m0 sd c1 m1)) := by
  have t4 : t < 401 := by have := P.2.2.1; have := X.1.2.1; omega
  have r := tk_row X P P.2.2.1
  obtain ⟨w, c1, m1, e1, e2, h⟩ := tk_must X P (κ := 2) (by decide) (by decide)
  unfold fX5_takeTold
  rw [P.2.2.2.1, ck_of (nI_inb t4 (by decide)), nI_ix (by omega), lt_q, lt_q, show (2 : Int32) = nI 2 from rfl, e1, bi_q, show fX12_must 1 m = fX12_must (nI (kM 2)) m from rfl, e2, bv_q]
  rcases h with ⟨rfl, k2, q1, q2, q3, q4⟩ | ⟨rfl, F⟩
  · have hx : nmR (c.2 106 t) (m1.2 6 t) := by rw [q4.l 6 t rfl]; exact r.2.2.2.2.2.2.2 k2
    have N1 : NmR np nc nl c1 m1 := NmR_w N (fun s i hs _ => by
      match s, hs with
      | 0, _ => exact q3.l 143 i rfl
      | 1, _ => exact q3.l 144 i rfl
      | 2, _ => exact q3.l 145 i rfl) ⟨q4.i 0 20 rfl, fun k => q4.i 9 k rfl, fun k => q4.i 10 k rfl, fun k => q4.l 8 k rfl⟩
    rw [if_neg (by decide), C_find hn h20, bi_q, lt_q, if_pos (show m1.1 0 13 ≤ 0 by rw [q2.2.2.2.2.2.2.1]; decide), M_find N1 h24 hs (by omega) hx, bi_q]
    cases ho : (List.range (cntN np nc nl s)).find? (fun i => decide (c1.2 (143 + s) i = c.2 106 t)) with
    | none =>
      obtain ⟨c2, m2, d1, d2, _, d4, d5, d6, d7⟩ := mk_both X q2 (u := t) (f := 4) P.2.2.1 (by decide) (by decide)
      rw [if_neg (show ¬ (0 : Int32) ≤ oI none by decide), if_pos (show oI none = -1 from rfl), show (4 : Int32) = nI 4 from rfl, d1, d2, bv_q, bv_q]
      exact ⟨0, c2, rfl, .inl ⟨by decide, oI none, m2, rfl, q1, d4, (q3.sub rfl).trans (d6.sub rfl), (q4.sub rfl).trans (d7.sub rfl), ⟨0, hn0, rfl⟩, fun z => absurd z d5⟩⟩
    | some i =>
      obtain ⟨i1, _⟩ := find_lt ho
      have ne : ¬ oI (some i) = (-1 : Int32) := fun z => by
        have := nI_pos' (show i < 2 ^ 31 by omega)
        rw [show nI i = oI (some i) from rfl, z] at this
        exact absurd this (by decide)
      rw [if_pos (show (0 : Int32) ≤ oI (some i) from nI_pos' (by omega)), if_neg ne]
      exact ⟨oI (some i), c1, rfl, .inl ⟨nI_pos' (by omega), oI (some i), m1, rfl, q1, q2, q3.sub rfl, q4.sub rfl, ⟨i, by omega, rfl⟩, fun z => ⟨by rw [← q3.i 142 8 rfl]; exact z, rfl, i, i1, rfl⟩⟩⟩
  · have F' := F
    obtain ⟨f, p, g1, g2, g3, g4, g5⟩ := F'
    rw [if_pos rfl, if_neg (FM_13 g5).2.1]
    exact ⟨-1, c1, rfl, .inr ⟨rfl, m1, rfl, F⟩⟩
/-- a literal as it is told: a letter that is asked for is still the number of a token -/
def ltT (K : Nat) (kd : Nat → Nat) (sd np cd : Nat) (U : Prop) (m : Hp) (i : Nat) (x : Lit) : Prop := x.1.1 ≤ 5 ∧ m.1 29 i = nI x.1.1 ∧ m.1 30 i = b2 x.1.2.1 ∧ m.1 31 i = b2 x.1.2.2.1 ∧ (if x.1.1 = 4 then (U → m.1 32 i = nI x.1.2.2.2 ∧ x.1.2.2.2 < np) else if x.1.1 = 5 then m.1 32 i = nI x.1.2.2.2 ∧ x.1.2.2.2 < K ∧ kd x.1.2.2.2 = 2 else ∃ a, 420 * sd ≤ a ∧ m.1 32 i = nI a ∧ m.1 33 i = nI (a + x.2.1.length) ∧ m.1 34 i = nI (a + x.2.1.length + x.2.2.length) ∧ a + x.2.1.length + x.2.2.length ≤ 420 * sd + cd ∧ cdM m a x.2.1 ∧ cdM m (a + x.2.1.length) x.2.2)
def LWc : Ws := [(142, some 6), (142, some 7), (142, some 8), (142, some 9), (146, none), (129, none), (125, some 11)]
def LWm : Ws := [(0, some 11), (0, some 12), (0, some 15), (0, some 16), (0, some 42), (0, some 49), (0, some 53), (37, none), (35, none), (36, none), (29, none), (30, none), (31, none), (32, none), (33, none), (34, none)]
def frC (cs : Nat) (c c1 : Hp) : Prop := Agr LWc c c1 ∧ ∀ j, j < cs → c1.1 129 j = c.1 129 j
def frM (sd cd ln : Nat) (m m1 : Hp) : Prop := Agr LWm m m1 ∧ (∀ j, j < 420 * sd + cd → m1.1 35 j = m.1 35 j ∧ m1.1 36 j = m.1 36 j) ∧ ∀ i, i < 150 * sd + ln → m1.1 29 i = m.1 29 i ∧ m1.1 30 i = m.1 30 i ∧ m1.1 31 i = m.1 31 i ∧ m1.1 32 i = m.1 32 i ∧ m1.1 33 i = m.1 33 i ∧ m1.1 34 i = m.1 34 i
theorem frC.refl {cs : Nat} {c : Hp} : frC cs c c := ⟨.refl, fun _ _ => rfl⟩
theorem frM.refl {sd cd ln : Nat} {m : Hp} : frM sd cd ln m m := ⟨.refl, fun _ _ => ⟨rfl, rfl⟩, fun _ _ => ⟨rfl, rfl, rfl, rfl, rfl, rfl⟩⟩
theorem frC.trans {cs cs' : Nat} {c c1 c2 : Hp} (a : frC cs c c1) (b : frC cs' c1 c2) (h : cs ≤ cs') : frC cs c c2 := ⟨a.1.trans b.1, fun j hj => by rw [b.2 j (by omega), a.2 j hj]⟩
theorem frM.trans {sd cd cd' ln ln' : Nat} {m m1 m2 : Hp} (a : frM sd cd ln m m1) (b : frM sd cd' ln' m1 m2) (h : cd ≤ cd') (h' : ln ≤ ln') : frM sd cd ln m m2 := ⟨a.1.trans b.1, fun j hj => by
  obtain ⟨b1, b2⟩ := b.2.1 j (by omega)
  rw [b1, b2]; exact a.2.1 j hj, fun i hi => by
  obtain ⟨b1, b2, b3, b4, b5, b6⟩ := b.2.2 i (by omega)
  rw [b1, b2, b3, b4, b5, b6]; exact a.2.2 i hi⟩
theorem frC_a {cs : Nat} {c c1 : Hp} {W : Ws} (a : Agr W c c1) (hs : sbw W LWc = true) (hd : djw [(129, none)] W = true) : frC cs c c1 := ⟨a.sub hs, fun j _ => (a 129 j (djw_wm hd rfl)).1⟩
theorem frM_a {sd cd ln : Nat} {m m1 : Hp} {W : Ws} (a : Agr W m m1) (hs : sbw W LWm = true) (hd : djw [(35, none), (36, none), (29, none), (30, none), (31, none), (32, none), (33, none), (34, none)] W = true) : frM sd cd ln m m1 := by
  have q : ∀ k j, wm [(35, none), (36, none), (29, none), (30, none), (31, none), (32, none), (33, none), (34, none)] k j = true → m1.1 k j = m.1 k j := fun k j w => (a k j (djw_wm hd w)).1
  exact ⟨a.sub hs, fun j _ => ⟨q 35 j rfl, q 36 j rfl⟩, fun i _ => ⟨q 29 i rfl, q 30 i rfl, q 31 i rfl, q 32 i rfl, q 33 i rfl, q 34 i rfl⟩⟩
def litOk (c0 m0 : Hp) (K : Nat) (kd : Nat → Nat) (sd t cs cd ln sl np : Nat) (or : Bool) (c m c1 m1 : Hp) : Prop := ∃ t1 x cd1, LSt c0 m0 K kd sd t1 (cs + (litW x).length) cd1 (ln + 1) c1 m1 ∧ cs + (litW x).length + sl + 1 ≤ t1 ∧ t + 2 ≤ t1 ∧ cd ≤ cd1 ∧ okL x ∧ x.1.2.2.1 = or ∧ x.1.2.2.2 < 401 ∧ cwG c1 cs (litW x) ∧ ((c1.1 142 8 = 0 → c.1 142 8 = 0) ∧ ltT K kd sd np cd1 (c1.1 142 8 = 0) m1 (150 * sd + ln) x) ∧ frC cs c c1 ∧ frM sd cd ln m m1
