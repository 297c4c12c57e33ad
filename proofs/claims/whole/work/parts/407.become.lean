/-- the book becomes the draft -/
def BKW : Ws := [(108, none), (109, none), (110, none), (112, none), (113, none), (114, none), (115, none), (116, none), (117, none), (118, none), (119, none), (120, none), (121, none), (122, none), (123, none), (124, none)]
theorem BKW_l {l j : Nat} (h : l < 10) : wm BKW (115 + l) j = true := by
  match l, h with
  | 0, _ => rfl
  | 1, _ => rfl
  | 2, _ => rfl
  | 3, _ => rfl
  | 4, _ => rfl
  | 5, _ => rfl
  | 6, _ => rfl
  | 7, _ => rfl
  | 8, _ => rfl
  | 9, _ => rfl
theorem cp_agr {W : Ws} {h h1 : Hp} {u o a b n : Nat} (A : Agr W h h1) (hw : ∀ j, wm W o j = true) : Agr W h (cpI h1 u o a b n) := fun k j w => by
  by_cases e : k = o
  · subst e; rw [hw j] at w; cases w
  · obtain ⟨x1, x2⟩ := A k j w
    exact ⟨by rw [cpI_k e]; exact x1, x2⟩
def lt8 (h : Hp) (o u : Nat) : Hp := wI (wI (wI (wI (wI (wI (wI (wI h o 0 (h.1 u 0)) o 1 (h.1 u 1)) o 2 (h.1 u 2)) o 3 (h.1 u 3)) o 4 (h.1 u 4)) o 5 (h.1 u 5)) o 6 (h.1 u 6)) o 7 (h.1 u 7)
theorem C_lt8 {h : Hp} {o u : Nat} (hn : u ≠ o) : fX4_become o u h = some (lt8 h o u) := by
  unfold fX4_become lt8
  simp only [lt_q, wI_k hn]
theorem lt8_s {h : Hp} {o u j : Nat} (hj : j < 8) : (lt8 h o u).1 o j = h.1 u j := by
  unfold lt8
  simp only [wI_r]
  obtain rfl | rfl | rfl | rfl | rfl | rfl | rfl | rfl : j = 0 ∨ j = 1 ∨ j = 2 ∨ j = 3 ∨ j = 4 ∨ j = 5 ∨ j = 6 ∨ j = 7 := by omega
  all_goals simp
theorem lt8_k {h : Hp} {o u k j : Nat} (hk : k ≠ o) : (lt8 h o u).1 k j = h.1 k j ∧ (lt8 h o u).2 k j = h.2 k j := by
  unfold lt8
  exact ⟨by simp only [wI_k hk], rfl⟩
theorem C_bec {c : Hp} {nl : Nat} (hn : nl ≤ 10) : ∀ (d l : Nat) (h : Hp) (f : Nat), nl - l ≤ d → l ≤ nl → h.1 108 9 = nI nl → d < f → ∃ h1, lX0_become_123 f (nI l) h = some h1 ∧ Agr BKW h h1 ∧ (∀ k j, k < 115 → h1.1 k j = h.1 k j) ∧ (∀ l', l' < l → ∀ j, h1.1 (115 + l') j = h.1 (115 + l') j) ∧ ∀ l', l ≤ l' → l' < nl → ∀ j, j < 8 → h1.1 (115 + l') j = h.1 (132 + l') j := by
  intro d
  induction d with
  | zero =>
    intro l h f hd hl h9 hf
    obtain ⟨g, rfl⟩ : ∃ g, f = g + 1 := ⟨f - 1, by omega⟩
    obtain rfl : l = nl := by omega
    refine ⟨h, ?_, .refl, fun _ _ _ => rfl, fun _ _ _ => rfl, fun l' h1 h2 => absurd h2 (by omega)⟩
    rw [lX0_become_123]
    unfold bX0_become_123
    rw [h9, if_pos (nI_le (Nat.le_refl _) (by omega))]
  | succ d ih =>
    intro l h f hd hl h9 hf
    obtain ⟨g, rfl⟩ : ∃ g, f = g + 1 := ⟨f - 1, by omega⟩
    by_cases e : l = nl
    · subst e
      refine ⟨h, ?_, .refl, fun _ _ _ => rfl, fun _ _ _ => rfl, fun l' h1 h2 => absurd h2 (by omega)⟩
      rw [lX0_become_123]
      unfold bX0_become_123
      rw [h9, if_pos (nI_le (Nat.le_refl _) (by omega))]
    · have l1 : l < nl := by omega
      have A0 : Agr BKW h (lt8 h (115 + l) (132 + l)) := fun k j w => lt8_k (by
        rintro rfl
        rw [BKW_l (by omega)] at w
        cases w)
      obtain ⟨h1, e1, e2, e3, e4, e5⟩ := ih (l + 1) (lt8 h (115 + l) (132 + l)) g (by omega) (by omega) (by rw [(lt8_k (by omega)).1]; exact h9) (by omega)
      refine ⟨h1, ?_, A0.trans e2, fun k j hk => by rw [e3 k j hk, (lt8_k (by omega)).1], fun l' hl' j => by rw [e4 l' (by omega), (lt8_k (by omega)).1], fun l' h1' h2' j hj => ?_⟩
      · rw [lX0_become_123, ← e1]
        unfold bX0_become_123
        rw [h9, if_neg (nI_ge l1 (by omega)), ck_of (nI_inb (show l < 10 by omega) (by decide)), ck_of (nI_inb (show l < 10 by omega) (by decide)), nI_ix (by omega), C_lt8 (by omega), bv_q, nI_1, lt_q]
      · by_cases el : l' = l
        · subst el
          rw [e4 l' (by omega), lt8_s hj]
        · rw [e5 l' (by omega) h2' j hj, (lt8_k (by omega)).1]
theorem C_become {c : Hp} {nl : Nat} (hn : nl ≤ 10) (h9 : c.1 125 9 = nI nl) : ∃ c1, fX0_become c = some c1 ∧ Agr BKW c c1 ∧ (∀ j, 6 ≤ j → j ≤ 11 → c1.1 108 j = c.1 125 j) ∧ (∀ i, i < 10 → c1.1 109 i = c.1 126 i) ∧ (∀ i, i < 4 → c1.1 110 i = c.1 127 i) ∧ (∀ i, i < 400 → c1.1 112 i = c.1 129 i) ∧ (∀ i, i < 3 → c1.1 113 i = c.1 130 i ∧ c1.1 114 i = c.1 131 i) ∧ ∀ l, l < nl → ∀ j, j < 8 → c1.1 (115 + l) j = c.1 (132 + l) j := by
  let h6 := wI (wI (wI (wI (wI (wI c 108 6 (c.1 125 6)) 108 7 (c.1 125 7)) 108 8 (c.1 125 8)) 108 9 (c.1 125 9)) 108 10 (c.1 125 10)) 108 11 (c.1 125 11)
  let h11 := cpI (cpI (cpI (cpI (cpI h6 126 109 0 0 10) 127 110 0 0 4) 129 112 0 0 400) 130 113 0 0 3) 131 114 0 0 3
  have A6 : Agr BKW c h6 := (((((Agr.refl.wI rfl).wI rfl).wI rfl).wI rfl).wI rfl).wI rfl
  have A11 : Agr BKW c h11 := cp_agr (cp_agr (cp_agr (cp_agr (cp_agr A6 fun _ => rfl) fun _ => rfl) fun _ => rfl) fun _ => rfl) fun _ => rfl
  have g8 : ∀ j, h11.1 108 j = h6.1 108 j := fun j => by
    show (cpI (cpI (cpI (cpI (cpI h6 126 109 0 0 10) 127 110 0 0 4) 129 112 0 0 400) 130 113 0 0 3) 131 114 0 0 3).1 108 j = _
    rw [cpI_k (by decide), cpI_k (by decide), cpI_k (by decide), cpI_k (by decide), cpI_k (by decide)]
  obtain ⟨c1, e1, e2, e3, e4, e5⟩ := C_bec (c := c) hn nl 0 h11 FU (by omega) (by omega) (by rw [g8]; exact h9) (show nl < 20000 by omega)
  refine ⟨c1, ?_, A11.trans e2, fun j j1 j2 => ?_, fun i hi => ?_, fun i hi => ?_, fun i hi => ?_, fun i hi => ⟨?_, ?_⟩, fun l hl j hj => ?_⟩
  · unfold fX0_become
    simp only [lt_q, wI_k (show (125 : Nat) ≠ 108 by decide), show ix 0 = 0 from rfl, show ix 10 = 10 from rfl, show ix 4 = 4 from rfl, show ix 400 = 400 from rfl, show ix 3 = 3 from rfl, ck_of (show cpb 0 0 10 10 10 = true from rfl), ck_of (show cpb 0 0 4 4 4 = true from rfl), ck_of (show cpb 0 0 400 400 400 = true from rfl), ck_of (show cpb 0 0 3 3 3 = true from rfl)]
    exact e1
  · rw [e3 108 j (by decide), g8]
    obtain rfl | rfl | rfl | rfl | rfl | rfl : j = 6 ∨ j = 7 ∨ j = 8 ∨ j = 9 ∨ j = 10 ∨ j = 11 := by omega
    all_goals rfl
  · rw [e3 109 i (by decide)]
    show (cpI (cpI (cpI (cpI (cpI h6 126 109 0 0 10) 127 110 0 0 4) 129 112 0 0 400) 130 113 0 0 3) 131 114 0 0 3).1 109 i = _
    rw [cpI_k (by decide), cpI_k (by decide), cpI_k (by decide), cpI_k (by decide), cpI_in hi]
    rfl
  · rw [e3 110 i (by decide)]
    show (cpI (cpI (cpI (cpI (cpI h6 126 109 0 0 10) 127 110 0 0 4) 129 112 0 0 400) 130 113 0 0 3) 131 114 0 0 3).1 110 i = _
    rw [cpI_k (by decide), cpI_k (by decide), cpI_k (by decide), cpI_in hi, cpI_k (by decide)]
    rfl
  · rw [e3 112 i (by decide)]
    show (cpI (cpI (cpI (cpI (cpI h6 126 109 0 0 10) 127 110 0 0 4) 129 112 0 0 400) 130 113 0 0 3) 131 114 0 0 3).1 112 i = _
    rw [cpI_k (by decide), cpI_k (by decide), cpI_in hi, cpI_k (by decide), cpI_k (by decide)]
    rfl
  · rw [e3 113 i (by decide)]
    show (cpI (cpI (cpI (cpI (cpI h6 126 109 0 0 10) 127 110 0 0 4) 129 112 0 0 400) 130 113 0 0 3) 131 114 0 0 3).1 113 i = _
    rw [cpI_k (by decide), cpI_in hi, cpI_k (by decide), cpI_k (by decide), cpI_k (by decide)]
    rfl
  · rw [e3 114 i (by decide)]
    show (cpI (cpI (cpI (cpI (cpI h6 126 109 0 0 10) 127 110 0 0 4) 129 112 0 0 400) 130 113 0 0 3) 131 114 0 0 3).1 114 i = _
    rw [cpI_in hi, cpI_k (by decide), cpI_k (by decide), cpI_k (by decide), cpI_k (by decide)]
    rfl
  · rw [e5 l (by omega) hl j hj]
    exact A11.i (132 + l) j (by
      have : l < 10 := by omega
      match l, this with
      | 0, _ => rfl
      | 1, _ => rfl
      | 2, _ => rfl
      | 3, _ => rfl
      | 4, _ => rfl
      | 5, _ => rfl
      | 6, _ => rfl
      | 7, _ => rfl
      | 8, _ => rfl
      | 9, _ => rfl)
