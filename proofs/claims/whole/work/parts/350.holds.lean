/-- the letters' conditions in the class -/
def coC (Ls : Nat → List Lit) (cs : Nat) (c m : Hp) : Prop := c.1 108 11 = nI cs ∧ cs ≤ 400 ∧ ∀ l, l < nL m → match Ls l with
  | [] => ∃ a, a ≤ 400 ∧ c.1 (115 + l) 5 = nI a ∧ c.1 (115 + l) 6 = nI a
  | x :: r => (∀ y, y ∈ x :: r → okL y) ∧ ∃ a, a + (litW x ++ cndW r false).length ≤ cs ∧ 0 < (litW x ++ cndW r false).length ∧ c.1 (115 + l) 5 = nI a ∧ c.1 (115 + l) 6 = nI (a + (litW x ++ cndW r false).length) ∧ cwC c a (litW x ++ cndW r false)
theorem hoS_1 {vs : Nat → Int32} {d b : Int32} {x : Lit} {r : List Lit} (ho : x.1.2.2.1 = true) : hoS vs d b (x :: r) false = hoS vs d b r (litS vs d b x) := by
  rw [hoS, if_neg (fun z => absurd z.2 (by decide)), ho, Bool.true_or, Bool.true_and]
theorem C_holds {Ls : Nat → List Lit} {cs : Nat} {c m h : Hp} (D : RD0 c m) (X : coC Ls cs c m) (hf : ∀ l x r, l < nL m → Ls l = x :: r → x.1.2.2.1 = true) (ea : Agr SC c h) {l y : Nat} (hl : l < nL m) (d b : Int32) : Ok (fX6_holds (115 + l) (nI y) d b h) (fun p => p.1 = b2 (hdS Ls l y d b) ∧ Agr EC h p.2) := by
  have s1 := D.2.2.2.2.1.1
  obtain ⟨x1, x2, x3⟩ := X
  have q5 : ∀ j, h.1 (115 + l) j = c.1 (115 + l) j := fun j => SC_l ea (by omega)
  have x := x3 l hl
  unfold hdS
  simp only [fX6_holds, q5, lt_q, ck_of (show inb 0 4 = true from rfl), ck_of (show inb 1 4 = true from rfl), ck_of (show inb 2 4 = true from rfl), ck_of (show inb 3 4 = true from rfl), show ix 0 = 0 from rfl, show ix 1 = 1 from rfl, show ix 2 = 2 from rfl, show ix 3 = 3 from rfl]
  cases hL : Ls l with
  | nil =>
    rw [hL] at x
    simp only at x
    obtain ⟨a, ha, y1, y2⟩ := x
    rw [y1, y2, if_neg (nI_nlt (Nat.le_refl a) (by omega)), ck_of zb_1, ok_some]
    exact ⟨rfl, .refl⟩
  | cons x0 r =>
    rw [hL] at x
    simp only at x
    obtain ⟨hk, a, y1, y2, y3, y4, y5⟩ := x
    have ho := hf l x0 r hl hL
    have g6 : Agr EC h (wI (wI (wI (wI (wI (wI h 149 0 (nI y)) 149 1 0) 149 2 0) 149 3 0) 147 5 d) 147 6 b) := (((((Agr.refl.wI rfl).wI rfl).wI rfl).wI rfl).wI rfl).wI rfl
    have e6 : Agr SC c (wI (wI (wI (wI (wI (wI h 149 0 (nI y)) 149 1 0) 149 2 0) 149 3 0) 147 5 d) 147 6 b) := ea.trans (g6.sub rfl)
    have v6 : ∀ v, v < 4 → (wI (wI (wI (wI (wI (wI h 149 0 (nI y)) 149 1 0) 149 2 0) 149 3 0) 147 5 d) 147 6 b).1 149 v = vsS (nI y) 0 0 0 v := fun v hv => by
      have : v = 0 ∨ v = 1 ∨ v = 2 ∨ v = 3 := by omega
      rcases this with rfl | rfl | rfl | rfl
      · rw [wI_k (by decide), wI_k (by decide), wI_j (by decide), wI_j (by decide), wI_j (by decide), wI_s]; rfl
      · rw [wI_k (by decide), wI_k (by decide), wI_j (by decide), wI_j (by decide), wI_s]; rfl
      · rw [wI_k (by decide), wI_k (by decide), wI_j (by decide), wI_s]; rfl
      · rw [wI_k (by decide), wI_k (by decide), wI_s]; rfl
    have d6 : (wI (wI (wI (wI (wI (wI h 149 0 (nI y)) 149 1 0) 149 2 0) 149 3 0) 147 5 d) 147 6 b).1 147 5 = d := by rw [wI_j (by decide), wI_s]
    have b6 : (wI (wI (wI (wI (wI (wI h 149 0 (nI y)) 149 1 0) 149 2 0) 149 3 0) 147 5 d) 147 6 b).1 147 6 = b := wI_s
    have q6 : ∀ j, (wI (wI (wI (wI (wI (wI h 149 0 (nI y)) 149 1 0) 149 2 0) 149 3 0) 147 5 d) 147 6 b).1 (115 + l) j = c.1 (115 + l) j := fun j => SC_l e6 (by omega)
    rw [y3, y4, if_pos (nI_lt (by omega) (by omega)), q6, q6, y3, y4, ok_bi]
    generalize wI (wI (wI (wI (wI (wI h 149 0 (nI y)) 149 1 0) 149 2 0) 149 3 0) 147 5 d) 147 6 b = h6 at *
    obtain ⟨p1, w1, w2, _⟩ := lit_sim (vs := vsS (nI y) 0 0 0) (d := d) (b := b) (t0 := 0) (by decide) (hk x0 List.mem_cons_self) (fun _ => 0)
    obtain ⟨p2, w3, w4⟩ := cond_sim (vs := vsS (nI y) 0 0 0) (d := d) (b := b) r false false (litS (vsS (nI y) 0 0 0) d b x0) p1 (fun z hz => hk z (List.mem_cons_of_mem _ hz)) (fun _ => rfl) (fun z => by cases z) w2
    have hg : wgo (vsS (nI y) 0 0 0) d b (litW x0 ++ cndW r false) (0, (fun _ => 0), false) = some (1, p2, false) := by
      rw [wgo_app, w1, Option.bind_some]; exact w3
    refine (C_execute x1 x2 y5 y1 hg e6 v6 d6 b6).mono ?_
    rintro ⟨v, h7⟩ ⟨a7, _, r7⟩
    simp only at a7 r7
    have hv := (r7 (by decide)).trans w4
    rw [Bool.false_or, ← hoS_1 ho] at hv
    have a7' : Agr EC h h7 := g6.trans (a7.sub rfl)
    rw [hv]
    cases hh : hoS (vsS (nI y) 0 0 0) d b (x0 :: r) false
    · rw [if_pos (show b2 false = 0 from rfl), ck_of zb_0, ok_some]
      refine ⟨?_, a7'⟩
      show (0 : Int32) = b2 (hoS (vsS (nI y) 0 0 0) d b (x0 :: r) false)
      rw [hh]; rfl
    · rw [if_neg (show ¬ b2 true = 0 by decide), ck_of zb_1, ok_some]
      refine ⟨?_, a7'⟩
      show (1 : Int32) = b2 (hoS (vsS (nI y) 0 0 0) d b (x0 :: r) false)
      rw [hh]; rfl
