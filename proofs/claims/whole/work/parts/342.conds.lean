/-- a literal: (sort, turned, or, left), and two codes where it compares -/
abbrev Lit : Type := (Nat × Bool × Bool × Nat) × Cd × Cd
def cmpS (s : Nat) (u v : Int32) : Bool := if s = 0 then decide (u = v) else if s = 1 then !decide (u = v) else if s = 2 then decide (u < v) else decide (u ≤ v)
def rawS (vs : Nat → Int32) (d b : Int32) (x : Lit) : Bool := if x.1.1 = 4 then bit d (nI x.1.2.2.2) else if x.1.1 = 5 then bit b (nI x.1.2.2.2) else match evE vs x.2.1 with
  | none => false
  | some u => match evE vs x.2.2 with
    | none => false
    | some v => cmpS x.1.1 u v
def litS (vs : Nat → Int32) (d b : Int32) (x : Lit) : Bool := rawS vs d b x != x.1.2.1
def hoS (vs : Nat → Int32) (d b : Int32) : List Lit → Bool → Bool
  | [], all => all
  | x :: r, all => if x.1.2.2.1 = true ∧ all = true then true else hoS vs d b r ((x.1.2.2.1 || all) && litS vs d b x)
def ltM (m : Hp) (i : Nat) (x : Lit) : Prop := x.1.1 ≤ 5 ∧ m.1 29 i = nI x.1.1 ∧ m.1 30 i = b2 x.1.2.1 ∧ m.1 31 i = b2 x.1.2.2.1 ∧ (if 4 ≤ x.1.1 then m.1 32 i = nI x.1.2.2.2 ∧ x.1.2.2.2 < 10 else ∃ a, m.1 32 i = nI a ∧ m.1 33 i = nI (a + x.2.1.length) ∧ m.1 34 i = nI (a + x.2.1.length + x.2.2.length) ∧ a + x.2.1.length + x.2.2.length ≤ 840 ∧ cdM m a x.2.1 ∧ cdM m (a + x.2.1.length) x.2.2 ∧ okCd x.2.1 ∧ okCd x.2.2)
def lsM (m : Hp) (a : Nat) (ls : List Lit) : Prop := ∀ i (h : i < ls.length), ltM m (a + i) ls[i]
theorem lsM_h {m : Hp} {a : Nat} {x : Lit} {ls : List Lit} (h : lsM m a (x :: ls)) : ltM m a x := h 0 (by simp)
theorem lsM_t {m : Hp} {a : Nat} {x : Lit} {ls : List Lit} (h : lsM m a (x :: ls)) : lsM m (a + 1) ls := fun i hi => by
  have := h (i + 1) (by simp; omega)
  rw [show a + (i + 1) = a + 1 + i by omega] at this
  simpa using this
theorem xor_e (a b : Bool) : (if b2 a = b2 b then (0 : Int32) else 1) = b2 (a != b) := by cases a <;> cases b <;> rfl
theorem M_isTrue {m h : Hp} {vs : Nat → Int32} {d b : Int32} {i : Nat} {x : Lit} (hi : i < 300) (L : ltM m i x) (ea : Agr SM m h) (hv : ∀ v, v < 4 → h.1 38 v = vs v) (hd : h.1 0 57 = d) (hb : h.1 0 58 = b) : Ok (fX12_isTrue (nI i) h) (fun p => p.1 = b2 (litS vs d b x) ∧ Agr TM h p.2 ∧ ∀ v, v < 4 → p.2.1 38 v = vs v) := by
  obtain ⟨l1, l2, l3, l4, l5⟩ := L
  have end1 : ∀ (r : Bool) (g : Hp), g.1 30 i = b2 x.1.2.1 → (if b2 r = g.1 30 i then ck (zb 0) (some ((0 : Int32), g)) else ck (zb 1) (some (1, g))) = some (b2 (r != x.1.2.1), g) := fun r g hg => by
    rw [hg, ck_of zb_0, ck_of zb_1, ← xor_e]
    split <;> rfl
  have h30 : h.1 30 i = b2 x.1.2.1 := (ea.i 30 _ rfl).trans l3
  have nk : ∀ c : Nat, c < 6 → (nI x.1.1 = nI c ↔ x.1.1 = c) := fun c hc => nI_eq (by omega) (by omega)
  simp only [fX12_isTrue, bX12_isTrue_32, bX12_isTrue_79, ck_of (nI_inb (n := i) (N := 300) hi (by decide)), nI_ix (show i < 2 ^ 31 by omega), ea.i 29 _ rfl, ea.i 32 _ rfl, ea.i 33 _ rfl, l2, hd, hb, bit_eq1]
  by_cases c4 : x.1.1 = 4
  · rw [if_pos (by omega)] at l5
    rw [if_pos (show nI x.1.1 = 4 from (nk 4 (by decide)).mpr c4), l5.1]
    have lr : litS vs d b x = (bit d (nI x.1.2.2.2) != x.1.2.1) := by unfold litS rawS; rw [if_pos c4]
    rw [lr]
    cases hb' : bit d (nI x.1.2.2.2)
    · rw [if_neg (by decide)]
      have := end1 false h h30
      rw [b2_f] at this
      rw [this, ok_some]; exact ⟨rfl, .refl, hv⟩
    · rw [if_pos rfl]
      have := end1 true h h30
      rw [b2_t] at this
      rw [this, ok_some]; exact ⟨rfl, .refl, hv⟩
  · rw [if_neg (show ¬ nI x.1.1 = 4 from fun y => c4 ((nk 4 (by decide)).mp y))]
    by_cases c5 : x.1.1 = 5
    · rw [if_pos (by omega)] at l5
      rw [if_pos (show nI x.1.1 = 5 from (nk 5 (by decide)).mpr c5), l5.1]
      have lr : litS vs d b x = (bit b (nI x.1.2.2.2) != x.1.2.1) := by unfold litS rawS; rw [if_neg c4, if_pos c5]
      rw [lr]
      cases hb' : bit b (nI x.1.2.2.2)
      · rw [if_neg (by decide)]
        have := end1 false h h30
        rw [b2_f] at this
        rw [this, ok_some]; exact ⟨rfl, .refl, hv⟩
      · rw [if_pos rfl]
        have := end1 true h h30
        rw [b2_t] at this
        rw [this, ok_some]; exact ⟨rfl, .refl, hv⟩
    · rw [if_neg (show ¬ nI x.1.1 = 5 from fun y => c5 ((nk 5 (by decide)).mp y))]
      rw [if_neg (by omega)] at l5
      obtain ⟨a, a1, a2, a3, a4, a5, a6, a7, a8⟩ := l5
      rw [a1, a2, ok_bi]
      refine (M_termOf a5 (by omega) a7.1 (fun y hy => Nat.lt_trans (a7.2 y hy) (by decide)) ea hv).mono ?_
      rintro ⟨u, h1⟩ ⟨g1, v1, m1⟩
      simp only at g1 v1 m1
      have e1 : Agr SM m h1 := ea.trans (g1.sub rfl)
      simp only [lt_q, e1.i 33 _ rfl, e1.i 34 _ rfl, a2, a3]
      rw [ok_bi]
      refine (M_termOf a6 (by omega) a8.1 (fun y hy => Nat.lt_trans (a8.2 y hy) (by decide)) e1 v1).mono ?_
      rintro ⟨w, h2⟩ ⟨g2, v2, m2⟩
      simp only at g2 v2 m2
      have e2 : Agr SM m h2 := e1.trans (g2.sub rfl)
      have h30' : h2.1 30 i = b2 x.1.2.1 := (e2.i 30 _ rfl).trans l3
      have h29' : h2.1 29 i = nI x.1.1 := (e2.i 29 _ rfl).trans l2
      have ck3 := nI_inb (n := i) (N := 300) hi (by decide)
      have ii : ix (nI i) = i := nI_ix (by omega)
      have fin : ∀ r : Bool, bX12_isTrue_249 (nI i) (b2 r) h2 = some (b2 (r != x.1.2.1), h2) := fun r => by
        unfold bX12_isTrue_249
        rw [ck_of ck3, ii]; exact end1 r h2 h30'
      have f233 : ∀ (br r : Bool), bX12_isTrue_233 (nI i) (b2 br) (b2 r) h2 = some (b2 ((r && !br) != x.1.2.1), h2) := fun br r => by
        simp only [bX12_isTrue_233, bX12_isTrue_248, lt_q]
        have t := fin true
        have f := fin false
        rw [b2_t] at t
        rw [b2_f] at f
        cases r <;> cases br <;> simp only [b2_t, b2_f, i10, ↓reduceIte, t, f, Bool.false_and, Bool.true_and, Bool.not_true, Bool.not_false]
      have f150 : ∀ br : Bool, bX12_isTrue_150 (nI i) u w (b2 br) h2 = some (b2 ((cmpS x.1.1 u w && !br) != x.1.2.1), h2) := fun br => by
        simp only [bX12_isTrue_150, lt_q, ck_of ck3, ii, h29']
        have t := f233 br true
        have f := f233 br false
        rw [b2_t] at t
        rw [b2_f] at f
        unfold cmpS
        by_cases k0 : x.1.1 = 0
        · rw [if_pos (show nI x.1.1 = 0 from (nk 0 (by decide)).mpr k0), if_pos k0]
          by_cases c : u = w
          · rw [if_pos c, t, decide_eq_true c]
          · rw [if_neg c, f, decide_eq_false c]
        · rw [if_neg (show ¬ nI x.1.1 = 0 from fun y => k0 ((nk 0 (by decide)).mp y)), if_neg k0]
          by_cases k1 : x.1.1 = 1
          · rw [if_pos (show nI x.1.1 = 1 from (nk 1 (by decide)).mpr k1), if_pos k1]
            by_cases c : u = w
            · rw [if_pos c, f, decide_eq_true c]; rfl
            · rw [if_neg c, t, decide_eq_false c]; rfl
          · rw [if_neg (show ¬ nI x.1.1 = 1 from fun y => k1 ((nk 1 (by decide)).mp y)), if_neg k1]
            by_cases k2 : x.1.1 = 2
            · rw [if_pos (show nI x.1.1 = 2 from (nk 2 (by decide)).mpr k2), if_pos k2]
              by_cases c : u < w
              · rw [if_neg (i_nle.mpr c), t, decide_eq_true c]
              · rw [if_pos (i_nlt.mp c), f, decide_eq_false c]
            · rw [if_neg (show ¬ nI x.1.1 = 2 from fun y => k2 ((nk 2 (by decide)).mp y)), if_neg k2]
              by_cases c : u ≤ w
              · rw [if_neg (i_nlt.mpr c), t, decide_eq_true c]
              · rw [if_pos (i_nle.mp c), f, decide_eq_false c]
      have t150 := f150 true
      have f150' := f150 false
      rw [b2_t] at t150
      rw [b2_f] at f150'
      have g12 : Agr TM h h2 := g1.trans g2
      unfold litS rawS
      rw [if_neg c4, if_neg c5]
      simp only [bX12_isTrue_145]
      cases hE1 : evE vs x.2.1 with
      | none =>
        rw [hE1] at m1
        simp only at m1
        rw [m1.1, if_neg (by decide), t150, ok_some]
        simp only [Bool.not_true, Bool.and_false]
        exact ⟨trivial, g12, v2⟩
      | some u' =>
        rw [hE1] at m1
        simp only at m1
        rw [m1.1, if_pos rfl]
        cases hE2 : evE vs x.2.2 with
        | none =>
          rw [hE2] at m2
          simp only at m2
          rw [m2.1, if_neg (by decide), t150, ok_some]
          simp only [Bool.not_true, Bool.and_false]
          exact ⟨trivial, g12, v2⟩
        | some w' =>
          rw [hE2] at m2
          simp only at m2
          rw [m2.1, if_pos rfl, f150', ok_some]
          simp only [Bool.not_false, Bool.and_true, m1.2, m2.2]
          exact ⟨trivial, g12, v2⟩
theorem M_holdsL {m : Hp} {vs : Nat → Int32} {d b : Int32} {r e : Nat} (hr : r < 20) (he : e ≤ 300) (h24 : m.1 24 r = nI e) : ∀ (ls : List Lit) (i : Nat) (all : Bool) (h : Hp) (f : Nat), i + ls.length = e → lsM m i ls → ls.length < f → Agr SM m h → (∀ v, v < 4 → h.1 38 v = vs v) → h.1 0 57 = d → h.1 0 58 = b →
    Ok (lX12_holdsRule_9 f (nI r) (b2 all) (nI i) h) (fun p => p.1 = b2 (hoS vs d b ls all) ∧ Agr TM h p.2) := by
  intro ls
  induction ls with
  | nil =>
    intro i all h f hi hl hf ea hv hd hb
    obtain ⟨g, rfl⟩ : ∃ g, f = g + 1 := ⟨f - 1, by omega⟩
    rw [List.length_nil] at hi
    rw [lX12_holdsRule_9]
    simp only [bX12_holdsRule_9, ck_of (nI_inb (n := r) (N := 20) hr (by decide)), nI_ix (show r < 2 ^ 31 by omega), ea.i 24 _ rfl, h24, if_pos (nI_le (show e ≤ i by omega) (show i < 2 ^ 31 by omega)), ck_of (b2_zb all), ok_some, hoS]
    exact ⟨trivial, .refl⟩
  | cons x ls ih =>
    intro i all h f hi hl hf ea hv hd hb
    obtain ⟨g, rfl⟩ : ∃ g, f = g + 1 := ⟨f - 1, by omega⟩
    rw [List.length_cons] at hi hf
    have L := lsM_h hl
    have T := lsM_t hl
    have h31 : h.1 31 i = b2 x.1.2.2.1 := (ea.i 31 _ rfl).trans L.2.2.2.1
    rw [lX12_holdsRule_9, hoS]
    simp only [bX12_holdsRule_9, bX12_holdsRule_34, bX12_holdsRule_45, bX12_holdsRule_61, bX12_holdsRule_62, ck_of (nI_inb (n := r) (N := 20) hr (by decide)), nI_ix (show r < 2 ^ 31 by omega), ea.i 24 _ rfl, h24, if_neg (nI_ge (show i < e by omega) (show e < 2 ^ 31 by omega)), ck_of (nI_inb (n := i) (N := 300) (by omega) (by decide)), nI_ix (show i < 2 ^ 31 by omega), h31, lt_q, nI_1, ck_of zb_1]
    have run : ∀ o : Bool, o = x.1.2.2.1 ∨ True → Ok (bi (fX12_isTrue (nI i) h) (fun w2 h1 => (if w2 = 0 then lX12_holdsRule_9 g (nI r) 0 (nI (i + 1)) h1 else lX12_holdsRule_9 g (nI r) 1 (nI (i + 1)) h1))) (fun p => p.1 = b2 (hoS vs d b ls (litS vs d b x)) ∧ Agr TM h p.2) := by
      intro _ _
      rw [ok_bi]
      refine (M_isTrue (show i < 300 by omega) L ea hv hd hb).mono ?_
      rintro ⟨w, h1⟩ ⟨hw, a1, v1⟩
      simp only at hw a1 v1
      subst hw
      have nx := ih (i + 1) (litS vs d b x) h1 g (by omega) T (by omega) (ea.trans (a1.sub rfl)) v1 ((a1.i 0 57 rfl).trans hd) ((a1.i 0 58 rfl).trans hb)
      cases hlit : litS vs d b x
      · rw [hlit, b2_f] at nx
        simp only [b2_f, ↓reduceIte]
        exact nx.mono fun p ⟨p1, p2⟩ => ⟨p1, a1.trans p2⟩
      · rw [hlit, b2_t] at nx
        simp only [b2_t, i10, ↓reduceIte]
        exact nx.mono fun p ⟨p1, p2⟩ => ⟨p1, a1.trans p2⟩
    have no : Ok (lX12_holdsRule_9 g (nI r) 0 (nI (i + 1)) h) (fun p => p.1 = b2 (hoS vs d b ls false) ∧ Agr TM h p.2) := by
      have nx := ih (i + 1) false h g (by omega) T (by omega) ea hv hd hb
      rw [b2_f] at nx
      exact nx
    cases ho : x.1.2.2.1
    · cases all
      · simp only [b2_f, ↓reduceIte, Bool.false_or, Bool.false_and, show ((false : Bool) = true) = False from eq_false (by decide), false_and]
        exact no
      · simp only [b2_t, b2_f, i10, ↓reduceIte, Bool.false_or, Bool.true_and, show ((false : Bool) = true) = False from eq_false (by decide), false_and]
        exact run true (.inr trivial)
    · cases all
      · simp only [b2_t, b2_f, i10, ↓reduceIte, Bool.true_or, Bool.true_and, show ((false : Bool) = true) = False from eq_false (by decide), and_false]
        exact run true (.inr trivial)
      · simp only [b2_t, i10, ↓reduceIte, and_self, ok_some]
        exact ⟨trivial, .refl⟩
