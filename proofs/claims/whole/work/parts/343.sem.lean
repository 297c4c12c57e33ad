/-- the letters' conditions in the model -/
def coM (Ls : Nat → List Lit) (m : Hp) : Prop := ∀ l, l < nL m → ∃ a, a + (Ls l).length ≤ 300 ∧ m.1 23 (10 * lv m + l) = nI a ∧ m.1 24 (10 * lv m + l) = nI (a + (Ls l).length) ∧ lsM m a (Ls l)
def hdS (Ls : Nat → List Lit) (l y : Nat) (d b : Int32) : Bool := match Ls l with
  | [] => true
  | x :: r => hoS (vsS (nI y) 0 0 0) d b (x :: r) false
theorem M_holdsFor {Ls : Nat → List Lit} {c m h : Hp} (D : RD0 c m) (X : coM Ls m) (ea : Agr SM m h) {l y : Nat} (hl : l < nL m) (d b : Int32) : Ok (fX12_holdsFor (nI l) (nI y) d b h) (fun p => p.1 = b2 (hdS Ls l y d b) ∧ Agr EM h p.2) := by
  have d1 := D.1
  have s1 := D.2.2.2.2.1.1
  obtain ⟨a, x1, x2, x3, x4⟩ := X l hl
  simp only [fX12_holdsFor, ea.i 0 18 rfl, d1.2, e10, lt_q, ck_of (nI_inb (n := 10 * lv m + l) (N := 20) (by omega) (by decide)), nI_ix (show 10 * lv m + l < 2 ^ 31 by omega), ea.i 23 _ rfl, ea.i 24 _ rfl, x2, x3, ck_of zb_1]
  unfold hdS
  cases hL : Ls l with
  | nil =>
    rw [hL] at x1 x3
    rw [List.length_nil, Nat.add_zero, if_pos rfl, ok_some]
    exact ⟨rfl, .refl⟩
  | cons x r =>
    rw [hL] at x1 x3 x4
    have hne : ¬ nI a = nI (a + (x :: r).length) := fun h => by
      have := (nI_eq (show a < 2 ^ 31 by omega) (show a + (x :: r).length < 2 ^ 31 by omega)).mp h
      rw [List.length_cons] at this; omega
    rw [if_neg hne, ok_bv]
    refine (M_sees (nI y) 0 0 0).mono ?_
    rintro h1 ⟨a1, v1⟩
    have e3 : Agr SM m (wI (wI h1 0 57 d) 0 58 b) := ((ea.trans (a1.sub rfl)).wI rfl).wI rfl
    have a3 : Agr EM h (wI (wI h1 0 57 d) 0 58 b) := (a1.wI rfl).wI rfl
    simp only [fX12_holdsRule, lt_q, ck_of (nI_inb (n := 10 * lv m + l) (N := 20) (by omega) (by decide)), nI_ix (show 10 * lv m + l < 2 ^ 31 by omega), e3.i 23 _ rfl, x2]
    rw [ok_bi]
    have w := M_holdsL (vs := vsS (nI y) 0 0 0) (d := d) (b := b) (r := 10 * lv m + l) (by omega) x1 x3 (x :: r) a false (wI (wI h1 0 57 d) 0 58 b) FU rfl x4 (show (x :: r).length < 20000 by omega) e3 (fun v hv => by rw [wI_k (by decide), wI_k (by decide)]; exact v1 v hv) (by rw [wI_j (by decide), wI_s]) wI_s
    rw [b2_f] at w
    refine w.mono ?_
    rintro p ⟨hp, a4⟩
    rw [hp, ck_of (b2_zb _), ok_some]
    exact ⟨rfl, a3.trans (a4.sub rfl)⟩
def semS (A : Nat → Option Cd) (Ls : Nat → List Lit) (m : Hp) : Sem := (hdS Ls, diS A m, feS A m, goS A m)
theorem M_sem {A : Nat → Option Cd} {Ls : Nat → List Lit} {c m : Hp} (D : RD0 c m) (X : ruM A m) (Y : coM Ls m) : XM (semS A Ls m) m := fun _ e => ⟨fun _ _ d b hl _ => M_holdsFor D Y e hl d b, fun _ _ hp _ => M_diesBy D X e hp, fun _ _ hl _ => M_feeOf D X e hl, fun _ _ t hl _ => M_goodOf D X e hl t⟩
theorem sem_GB {A : Nat → Option Cd} {Ls : Nat → List Lit} {m : Hp} : GB (semS A Ls m) := fun _ _ _ => go_b
/-- which letters a condition asks for -/
def akF (x : Lit) (a : Nat) : Nat := if x.1.1 = 5 then a ||| 2 ^ x.1.2.2.2 else a
def akS (ls : List Lit) : Nat := ls.foldl (fun a x => akF x a) 0
theorem M_asksL {m : Hp} {r e : Nat} {l : Int32} {h : Hp} (hr : r < 20) (he : e ≤ 300) (h24 : m.1 24 r = nI e) (ea : Agr SM m h) (hx : (10 : Int32) * (m.1 0 18) + l = nI r) : ∀ (ls : List Lit) (i a : Nat) (f : Nat), i + ls.length = e → lsM m i ls → ls.length < f → a < 2 ^ 10 → Ok (lX12_asksOf_17 f l (nI a) (nI i) h) (fun p => p = (nI (ls.foldl (fun a x => akF x a) a), h)) := by
  intro ls
  induction ls with
  | nil =>
    intro i a f hi hl hf ha
    obtain ⟨g, rfl⟩ : ∃ g, f = g + 1 := ⟨f - 1, by omega⟩
    rw [List.length_nil] at hi
    rw [lX12_asksOf_17]
    simp only [bX12_asksOf_17, ea.i 0 18 rfl, hx, ck_of (nI_inb (n := r) (N := 20) hr (by decide)), nI_ix (show r < 2 ^ 31 by omega), ea.i 24 _ rfl, h24, if_pos (nI_le (show e ≤ i by omega) (show i < 2 ^ 31 by omega)), ok_some]
    rfl
  | cons x ls ih =>
    intro i a f hi hl hf ha
    obtain ⟨g, rfl⟩ : ∃ g, f = g + 1 := ⟨f - 1, by omega⟩
    rw [List.length_cons] at hi hf
    have L := lsM_h hl
    have T := lsM_t hl
    rw [lX12_asksOf_17, List.foldl_cons]
    simp only [bX12_asksOf_17, bX12_asksOf_56, ea.i 0 18 rfl, hx, ck_of (nI_inb (n := r) (N := 20) hr (by decide)), nI_ix (show r < 2 ^ 31 by omega), ea.i 24 _ rfl, h24, if_neg (nI_ge (show i < e by omega) (show e < 2 ^ 31 by omega)), ck_of (nI_inb (n := i) (N := 300) (by omega) (by decide)), nI_ix (show i < 2 ^ 31 by omega), ea.i 29 _ rfl, ea.i 32 _ rfl, L.2.1, lt_q, nI_1]
    have l5' := L.2.2.2.2
    by_cases c5 : x.1.1 = 5
    · rw [if_pos (by omega)] at l5'
      rw [if_pos (show nI x.1.1 = 5 by rw [c5]; rfl), l5'.1, s1l _ (by omega)]
      have eo : nI a ||| nI (2 ^ x.1.2.2.2) = nI (a ||| 2 ^ x.1.2.2.2) := by
        apply bit_ext
        intro j hj
        rw [bit_or hj, bit_nI hj, bit_nI hj, bit_nI hj, Nat.testBit_or]
      rw [eo]
      have ak : akF x a = a ||| 2 ^ x.1.2.2.2 := by unfold akF; rw [if_pos c5]
      rw [ak]
      exact ih (i + 1) _ g (by omega) T (by omega) (Nat.or_lt_two_pow ha (Nat.pow_lt_pow_right (by decide) l5'.2))
    · rw [if_neg (show ¬ nI x.1.1 = 5 from fun y => c5 ((nI_eq (b := 5) (by have := L.1; omega) (by decide)).mp y))]
      have ak : akF x a = a := by unfold akF; rw [if_neg c5]
      rw [ak]
      exact ih (i + 1) _ g (by omega) T (by omega) ha
theorem M_asksOf {Ls : Nat → List Lit} {c m h : Hp} (D : RD0 c m) (X : coM Ls m) (ea : Agr SM m h) {l : Nat} (hl : l < nL m) : fX12_asksOf (nI l) h = some (nI (akS (Ls l)), h) := by
  have d1 := D.1
  have s1 := D.2.2.2.2.1.1
  obtain ⟨a, x1, x2, x3, x4⟩ := X l hl
  simp only [fX12_asksOf, ea.i 0 18 rfl, d1.2, e10, lt_q, ck_of (nI_inb (n := 10 * lv m + l) (N := 20) (by omega) (by decide)), nI_ix (show 10 * lv m + l < 2 ^ 31 by omega), ea.i 23 _ rfl, x2]
  rw [← ok_eq]
  exact M_asksL (r := 10 * lv m + l) (by omega) x1 x3 ea (by rw [d1.2, e10]) (Ls l) a 0 FU rfl x4 (show (Ls l).length < 20000 by omega) (by decide)
