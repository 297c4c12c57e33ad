/-- the rules: 0 dies, 1 fee, 2 good -/
def vsS (y age sh late : Int32) (i : Nat) : Int32 := if i = 0 then y else if i = 1 then age else if i = 2 then sh else late
def okCd (e : Cd) : Prop := dep e 0 = some 1 ∧ ∀ x, x ∈ e → x.2 < 2 ^ 20
def ruM (A : Nat → Option Cd) (m : Hp) : Prop := ∀ r, r < 3 → match A r with
  | none => m.1 26 (3 * lv m + r) = 0
  | some e => m.1 26 (3 * lv m + r) = 1 ∧ okCd e ∧ ∃ a, a + e.length ≤ 840 ∧ m.1 27 (3 * lv m + r) = nI a ∧ m.1 28 (3 * lv m + r) = nI (a + e.length) ∧ cdM m a e
def sayS (A : Nat → Option Cd) (r : Nat) (wo most : Int32) (vs : Nat → Int32) : Int32 := match A r with
  | none => wo
  | some e => match evE vs e with
    | none => 0
    | some v => heldS v most
theorem M_sees {h : Hp} (y age sh late : Int32) : Ok (fX12_sees y age sh late h) (fun h' => Agr EM h h' ∧ ∀ v, v < 4 → h'.1 38 v = vsS y age sh late v) := by
  simp only [fX12_sees, ck_of (show inb 0 4 = true from rfl), ck_of (show inb 1 4 = true from rfl), ck_of (show inb 2 4 = true from rfl), ck_of (show inb 3 4 = true from rfl), show ix 0 = 0 from rfl, show ix 1 = 1 from rfl, show ix 2 = 2 from rfl, show ix 3 = 3 from rfl, lt_q, ok_some]
  refine ⟨(((Agr.refl.wI rfl).wI rfl).wI rfl).wI rfl, fun v hv => ?_⟩
  have : v = 0 ∨ v = 1 ∨ v = 2 ∨ v = 3 := by omega
  rcases this with rfl | rfl | rfl | rfl
  · rw [wI_j (by decide), wI_j (by decide), wI_j (by decide), wI_s]; rfl
  · rw [wI_j (by decide), wI_j (by decide), wI_s]; rfl
  · rw [wI_j (by decide), wI_s]; rfl
  · rw [wI_s]; rfl
theorem e3l (s r : Nat) : (3 : Int32) * nI s + nI r = nI (3 * s + r) := by
  rw [show (3 : Int32) = nI 3 from rfl, pk_mul, nI_add]
theorem M_says {A : Nat → Option Cd} {m h : Hp} {vs : Nat → Int32} {r : Nat} (hl : lv m < 2 ∧ m.1 0 18 = nI (lv m)) (X : ruM A m) (ea : Agr SM m h) (hr : r < 3) (hv : ∀ v, v < 4 → h.1 38 v = vs v) (wo most : Int32) : Ok (fX12_says (nI r) wo most h) (fun p => p.1 = sayS A r wo most vs ∧ Agr EM h p.2) := by
  have x := X r hr
  unfold sayS
  simp only [fX12_says, ea.i 0 18 rfl, hl.2, e3l, lt_q, ck_of (nI_inb (n := 3 * lv m + r) (N := 6) (by omega) (by decide)), nI_ix (show 3 * lv m + r < 2 ^ 31 by omega), ea.i 26 _ rfl, ea.i 27 _ rfl, ea.i 28 _ rfl]
  cases hA : A r with
  | none =>
    rw [hA] at x
    simp only at x
    rw [if_pos x, ok_some]
    exact ⟨rfl, .refl⟩
  | some e =>
    rw [hA] at x
    simp only at x
    obtain ⟨x1, ⟨x2, x3⟩, a, x4, x5, x6, x7⟩ := x
    rw [if_neg (by rw [x1]; decide), x5, x6, ok_bi]
    refine (M_termOf x7 x4 x2 (fun y hy => Nat.lt_trans (x3 y hy) (by decide)) ea hv).mono ?_
    rintro ⟨v, h2⟩ ⟨a2, _, m2⟩
    simp only at a2 m2
    have a2 : Agr EM h h2 := a2.sub rfl
    simp only [M_held, bi_q]
    cases hE : evE vs e with
    | none =>
      rw [hE] at m2
      simp only at m2
      rw [if_neg (by rw [m2.1]; decide), ok_some]
      exact ⟨rfl, a2⟩
    | some u =>
      rw [hE] at m2
      simp only at m2
      rw [if_pos m2.1, m2.2, ok_some]
      exact ⟨rfl, a2⟩
def agI (m : Hp) (p : Nat) : Int32 := m.1 12 (10 * lv m + p)
def diS (A : Nat → Option Cd) (m : Hp) (p y : Nat) : Int32 := sayS A 0 0 100 (vsS (nI y) (agI m p + nI y) 0 0)
def feS (A : Nat → Option Cd) (m : Hp) (l y : Nat) : Int32 := sayS A 1 1 999 (vsS (nI y) 0 (shI m l) 0)
def goS (A : Nat → Option Cd) (m : Hp) (l y : Nat) (t : Int32) : Int32 := sayS A 2 0 999 (vsS (nI y) 0 (shI m l) t)
theorem M_rule {A : Nat → Option Cd} {m h : Hp} {r : Nat} (hl : lv m < 2 ∧ m.1 0 18 = nI (lv m)) (X : ruM A m) (ea : Agr SM m h) (hr : r < 3) (wo most y age sh late : Int32) : Ok (bv (fX12_sees y age sh late h) (fun h1 => bi (fX12_says (nI r) wo most h1) (fun w3 h2 => some (w3, h2)))) (fun p => p.1 = sayS A r wo most (vsS y age sh late) ∧ Agr EM h p.2) := by
  rw [ok_bv]
  refine (M_sees y age sh late).mono ?_
  rintro h1 ⟨a1, v1⟩
  rw [bi_id]
  refine (M_says hl X (ea.trans (a1.sub rfl)) hr v1 wo most).mono ?_
  rintro p ⟨hp, a2⟩
  exact ⟨hp, a1.trans a2⟩
theorem M_diesBy {A : Nat → Option Cd} {c m h : Hp} (D : RD0 c m) (X : ruM A m) (ea : Agr SM m h) {p y : Nat} (hp : p < nP m) : Ok (fX12_diesBy (nI p) (nI y) h) (fun r => r.1 = diS A m p y ∧ Agr EM h r.2) := by
  have d1 := D.1
  have p10 := D.2.1.1
  have w := M_rule (r := 0) d1 X ea (by decide) 0 100 (nI y) (agI m p + nI y) 0 0
  rw [nI_0] at w
  simp only [fX12_diesBy, ea.i 0 18 rfl, d1.2, e10, ck_of (nI_inb (n := 10 * lv m + p) (N := 20) (by omega) (by decide)), nI_ix (show 10 * lv m + p < 2 ^ 31 by omega), ea.i 12 _ rfl]
  exact w
theorem M_feeOf {A : Nat → Option Cd} {c m h : Hp} (D : RD0 c m) (X : ruM A m) (ea : Agr SM m h) {l y : Nat} (hl : l < nL m) : Ok (fX12_feeOf (nI l) (nI y) h) (fun r => r.1 = feS A m l y ∧ Agr EM h r.2) := by
  have d1 := D.1
  obtain ⟨q1, q2, q3⟩ := M_lt D ea hl
  have w := M_rule (r := 1) d1 X ea (by decide) 1 999 (nI y) 0 (shI m l) 0
  rw [n1] at w
  simp only [fX12_feeOf, q1, ck_of q2, q3, ea.i 20 _ rfl]
  exact w
theorem n2 : nI 2 = 2 := rfl
theorem M_goodOf {A : Nat → Option Cd} {c m h : Hp} (D : RD0 c m) (X : ruM A m) (ea : Agr SM m h) {l y : Nat} (hl : l < nL m) (t : Int32) : Ok (fX12_goodOf (nI l) (nI y) t h) (fun r => r.1 = goS A m l y t ∧ Agr EM h r.2) := by
  have d1 := D.1
  obtain ⟨q1, q2, q3⟩ := M_lt D ea hl
  have w := M_rule (r := 2) d1 X ea (by decide) 0 999 (nI y) 0 (shI m l) t
  rw [n2] at w
  simp only [fX12_goodOf, q1, ck_of q2, q3, ea.i 20 _ rfl]
  exact w
/-- what rules say is within bounds -/
theorem held_b {v : Int32} {n : Nat} (hn : n < 2 ^ 31) : ∃ u, u ≤ n ∧ heldS v (nI n) = nI u := by
  unfold heldS
  by_cases c1 : v < 0
  · rw [if_pos c1]; exact ⟨0, by omega, rfl⟩
  · rw [if_neg c1]
    by_cases c2 : nI n < v
    · rw [if_pos c2]; exact ⟨n, Nat.le_refl _, rfl⟩
    · rw [if_neg c2]
      obtain ⟨u, hu, rfl⟩ := nI_of c1
      refine ⟨u, ?_, rfl⟩
      have := i_nlt.mp c2
      rwa [nI_leI hu hn] at this
theorem say_b {A : Nat → Option Cd} {r w n : Nat} {vs : Nat → Int32} (hn : n < 2 ^ 31) (hw : w ≤ n) : ∃ u, u ≤ n ∧ sayS A r (nI w) (nI n) vs = nI u := by
  unfold sayS
  cases A r with
  | none => exact ⟨w, hw, rfl⟩
  | some e =>
    simp only
    cases evE vs e with
    | none => exact ⟨0, by omega, rfl⟩
    | some v => exact held_b hn
theorem go_b {A : Nat → Option Cd} {m : Hp} {l y : Nat} {t : Int32} : ∃ u, u ≤ 999 ∧ goS A m l y t = nI u := say_b (w := 0) (n := 999) (by decide) (by decide)
theorem di_b {A : Nat → Option Cd} {m : Hp} {p y : Nat} : ∃ u, u ≤ 100 ∧ diS A m p y = nI u := say_b (w := 0) (n := 100) (by decide) (by decide)
