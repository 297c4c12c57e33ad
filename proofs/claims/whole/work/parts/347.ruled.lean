theorem C_execute {c h : Hp} {vs : Nat → Int32} {d b : Int32} {cs a : Nat} {W : Cd} {s' : Ex} (hcs : c.1 108 11 = nI cs) (h400 : cs ≤ 400) (hc : cwC c a W) (ha : a + W.length ≤ cs) (hg : wgo vs d b W (0, (fun _ => 0), false) = some s') (ea : Agr SC c h) (hv : ∀ v, v < 4 → h.1 149 v = vs v) (hd : h.1 147 5 = d) (hb : h.1 147 6 = b) : Ok (fX6_execute (nI a) (nI (a + W.length)) h) (fun r => Agr TC h r.2 ∧ r.2.1 147 7 = b2 s'.2.2 ∧ (0 < s'.1 → r.1 = s'.2.1 0)) := by
  have e0 : (if (0 : Int32) < nI a then nI a else 0) = nI a := by
    by_cases a0 : a = 0
    · subst a0; rfl
    · rw [if_pos (show (0 : Int32) < nI a from nI_lt (a := 0) (by omega) (by omega))]
  simp only [fX6_execute, ck_of zb_0, lt_q, e0]
  have w := C_execL (vs := vs) (d := d) (b := b) hcs h400 W a (0, (fun _ => 0), false) s' (wI h 147 7 0) FU hc ha hg (by decide) (show W.length < 20000 by omega) (ea.wI rfl) ⟨fun j hj => absurd hj (Nat.not_lt_zero j), wI_s, fun v hv' => by rw [wI_k (by decide)]; exact hv v hv', by rw [wI_j (by decide)]; exact hd, by rw [wI_j (by decide)]; exact hb⟩
  rw [nI_0] at w
  refine w.mono ?_
  rintro r ⟨a2, r2⟩
  exact ⟨(Agr.refl.wI rfl : Agr TC h (wI h 147 7 0)).trans a2, r2⟩
/-- the rules in the class -/
def ruC (A : Nat → Option Cd) (cs : Nat) (c : Hp) : Prop := c.1 108 11 = nI cs ∧ cs ≤ 400 ∧ ∀ r, r < 3 → match A r with
  | none => c.1 113 r = -1
  | some e => okCd e ∧ ∃ a, a + e.length ≤ cs ∧ c.1 113 r = nI a ∧ c.1 114 r = nI (a + e.length) ∧ cwC c a (e.map ex2w)
def rawR (A : Nat → Option Cd) (r : Nat) (vs : Nat → Int32) : Int32 := match A r with
  | none => if r = 1 then 1 else 0
  | some e => match evE vs e with
    | none => 0
    | some v => v
theorem C_ruled {A : Nat → Option Cd} {c h : Hp} {cs r : Nat} (X : ruC A cs c) (ea : Agr SC c h) (hr : r < 3) (y age sh late : Int32) : Ok (fX6_ruled (nI (22 + r)) y age sh late h) (fun p => p.1 = rawR A r (vsS y age sh late) ∧ Agr EC h p.2) := by
  obtain ⟨x1, x2, x3⟩ := X
  have x := x3 r hr
  have es : nI (22 + r) - 22 = nI r := by rw [show (22 : Int32) = nI 22 from rfl, pk_sub (by omega)]; congr 1; omega
  unfold rawR
  simp only [fX6_ruled, es, lt_q, ck_of (nI_inb (n := r) (N := 3) hr (by decide)), nI_ix (show r < 2 ^ 31 by omega), ea.i 113 _ rfl, ck_of (show inb 0 4 = true from rfl), ck_of (show inb 1 4 = true from rfl), ck_of (show inb 2 4 = true from rfl), ck_of (show inb 3 4 = true from rfl), show ix 0 = 0 from rfl, show ix 1 = 1 from rfl, show ix 2 = 2 from rfl, show ix 3 = 3 from rfl]
  cases hA : A r with
  | none =>
    rw [hA] at x
    simp only at x
    rw [x, if_neg (by decide)]
    by_cases r1 : r = 1
    · subst r1
      rw [if_pos (show nI (22 + 1) = 23 from rfl), ok_some]; exact ⟨rfl, .refl⟩
    · rw [if_neg (show ¬ nI (22 + r) = 23 from fun z => by have := (nI_eq (a := 22 + r) (b := 23) (by omega) (by decide)).mp z; omega), ok_some]
      simp only [if_neg r1]
      exact ⟨trivial, .refl⟩
  | some e =>
    rw [hA] at x
    simp only at x
    obtain ⟨⟨x4, x5⟩, a, x6, x7, x8, x9⟩ := x
    have g4 : Agr EC h (wI (wI (wI (wI h 149 0 y) 149 1 age) 149 2 sh) 149 3 late) := (((Agr.refl.wI rfl).wI rfl).wI rfl).wI rfl
    have e4 : Agr SC c (wI (wI (wI (wI h 149 0 y) 149 1 age) 149 2 sh) 149 3 late) := ea.trans (g4.sub rfl)
    have v4 : ∀ v, v < 4 → (wI (wI (wI (wI h 149 0 y) 149 1 age) 149 2 sh) 149 3 late).1 149 v = vsS y age sh late v := fun v hv => by
      have : v = 0 ∨ v = 1 ∨ v = 2 ∨ v = 3 := by omega
      rcases this with rfl | rfl | rfl | rfl
      · rw [wI_j (by decide), wI_j (by decide), wI_j (by decide), wI_s]; rfl
      · rw [wI_j (by decide), wI_j (by decide), wI_s]; rfl
      · rw [wI_j (by decide), wI_s]; rfl
      · rw [wI_s]; rfl
    rw [x7, if_pos (nI_pos' (show a < 2 ^ 31 by omega)), e4.i 113 _ rfl, e4.i 114 _ rfl, x7, x8, ok_bi]
    generalize wI (wI (wI (wI h 149 0 y) 149 1 age) 149 2 sh) 149 3 late = h4 at *
    obtain ⟨p', br', q1, q2, q3, q4⟩ := ex_sim (vs := vsS y age sh late) (d := h4.1 147 5) (b := h4.1 147 6) (t0 := 0) (by decide) e 0 1 (fun _ => 0) (fun _ => 0) false x4 (by decide) (fun _ j hj => absurd hj (Nat.not_lt_zero j))
    have q4 := q4 rfl
    have ml : (e.map ex2w).length = e.length := List.length_map _
    have w := C_execute (vs := vsS y age sh late) x1 x2 x9 (by rw [ml]; exact x6) q1 e4 v4 rfl rfl
    rw [ml] at w
    refine w.mono ?_
    rintro ⟨v, h5⟩ ⟨a5, b5, r5⟩
    simp only at a5 b5 r5
    have a5' : Agr EC h h5 := g4.trans (a5.sub rfl)
    rw [b5]
    simp only [evE]
    cases hE : evA (vsS y age sh late) e 0 (fun _ => 0) with
    | none =>
      rw [hE] at q4
      simp only at q4
      rw [q4, if_neg (by decide), ok_some]
      exact ⟨rfl, a5'⟩
    | some s =>
      rw [hE] at q4
      simp only at q4
      rw [q4.1, if_pos (show b2 false = 0 from rfl), ok_some]
      refine ⟨?_, a5'⟩
      have := r5 (by omega)
      show v = s.2 0
      rw [this]
      have := q4.2 0 (by decide)
      rwa [Nat.zero_add] at this
theorem keep_held (v : Int32) {n : Nat} (hn : n < 2 ^ 31) (h0 : 0 < n) : (if 0 < (if v < nI n then v else nI n) then (if v < nI n then v else nI n) else 0) = heldS v (nI n) := by
  unfold heldS
  by_cases c1 : v < nI n
  · rw [if_pos c1]
    by_cases c2 : v < 0
    · rw [if_pos c2, if_neg (i_nlt.mpr (Int32.le_of_lt c2))]
    · rw [if_neg c2, if_neg (i_nlt.mpr (Int32.le_of_lt c1))]
      by_cases c3 : (0 : Int32) < v
      · rw [if_pos c3]
      · rw [if_neg c3]
        exact Int32.le_antisymm (i_nlt.mp c2) (i_nlt.mp c3)
  · rw [if_neg c1]
    have g := i_nlt.mp c1
    have pos : (0 : Int32) < nI n := nI_lt (a := 0) h0 hn
    have c2 : ¬ v < 0 := i_nlt.mpr (Int32.le_trans (Int32.le_of_lt pos) g)
    rw [if_pos pos, if_neg c2]
    by_cases c3 : nI n < v
    · rw [if_pos c3]
    · rw [if_neg c3]; exact Int32.le_antisymm g (i_nlt.mp c3)
theorem raw_say {A : Nat → Option Cd} {r n : Nat} {vs : Nat → Int32} (hr : r < 3) (hn : n < 2 ^ 31) (h0 : 0 < n) : heldS (rawR A r vs) (nI n) = sayS A r (if r = 1 then 1 else 0) (nI n) vs := by
  unfold rawR sayS
  have small : ∀ w, w ≤ n → heldS (nI w) (nI n) = nI w := fun w hw => by
    unfold heldS
    rw [if_neg (nI_pos (by omega)), if_neg (nI_nlt hw hn)]
  cases A r with
  | none =>
    simp only
    by_cases r1 : r = 1
    · rw [if_pos r1]; exact small 1 (by omega)
    · rw [if_neg r1]; exact small 0 (by omega)
  | some e =>
    simp only
    cases evE vs e with
    | none => exact small 0 (by omega)
    | some v => rfl
theorem n24 : nI (22 + 2) = 24 := rfl
theorem n999 : nI 999 = 999 := rfl
theorem C_gainIn {A : Nat → Option Cd} {c m h : Hp} {cs : Nat} (X : ruC A cs c) (ea : Agr SC c h) (l y : Nat) (t : Int32) : Ok (fX6_gainIn (nI y) (shI m l) t h) (fun r => r.1 = goS A m l y t ∧ Agr EC h r.2) := by
  simp only [fX6_gainIn, fX11_keepTo, bi_q]
  have w := C_ruled (r := 2) X ea (by decide) (nI y) 0 (shI m l) t
  rw [n24] at w
  rw [ok_bi]
  refine w.mono ?_
  rintro ⟨v, h1⟩ ⟨hv, a1⟩
  simp only at hv a1
  subst hv
  rw [ok_some]
  refine ⟨?_, a1⟩
  have k := keep_held (rawR A 2 (vsS (nI y) 0 (shI m l) t)) (n := 999) (by decide) (by decide)
  rw [raw_say (by decide) (by decide) (by decide)] at k
  exact k
