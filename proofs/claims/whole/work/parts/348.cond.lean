theorem wgo_app {vs : Nat → Int32} {d b : Int32} : ∀ (V W : Cd) (s : Ex), wgo vs d b (V ++ W) s = (wgo vs d b V s).bind (fun s => wgo vs d b W s)
  | [], W, s => rfl
  | x :: V, W, s => by
    rw [List.cons_append, wgo, wgo]
    by_cases h : wok x.1 s.1 = true
    · rw [if_pos h, if_pos h, wgo_app V W]
    · rw [if_neg h, if_neg h]; rfl
/-- a literal's code in the class -/
def rawW (x : Lit) : Cd := if x.1.1 = 4 then [(28, x.1.2.2.2)] else if x.1.1 = 5 then [(29, x.1.2.2.2)] else x.2.1.map ex2w ++ (x.2.2.map ex2w ++ [(9 + x.1.1, 0)])
def litW (x : Lit) : Cd := rawW x ++ (if x.1.2.1 = true then [(27, 0)] else [])
def okL (x : Lit) : Prop := x.1.1 ≤ 5 ∧ (x.1.1 < 4 → okCd x.2.1 ∧ okCd x.2.2)
theorem bit_v (d : Int32) (x : Nat) : (d >>> (nI x &&& 31)) &&& 1 = b2 (bit d (nI x)) := by
  cases h : bit d (nI x)
  · exact bit_f.mp h
  · exact bit_t.mp h
theorem raw_sim {vs : Nat → Int32} {d b : Int32} {t0 : Nat} (ht0 : t0 ≤ 3) {x : Lit} (hx : okL x) (p : Nat → Int32) : ∃ p', wgo vs d b (rawW x) (t0, p, false) = some (t0 + 1, p', false) ∧ p' t0 = b2 (rawS vs d b x) ∧ ∀ j, j < t0 → p' j = p j := by
  unfold rawW rawS
  by_cases c4 : x.1.1 = 4
  · rw [if_pos c4, if_pos c4]
    refine ⟨upN p t0 (b2 (bit d (nI x.1.2.2.2))), ?_, upN_s, fun j hj => upN_n (by omega)⟩
    have hok : wok 28 t0 = true := by unfold wok; rw [if_pos (by omega), decide_eq_true_iff]; omega
    rw [wgo, if_pos hok, wgo]
    unfold wst vlS
    rw [if_pos (by simp), if_neg (by simp), if_pos rfl, bit_v]
  · rw [if_neg c4, if_neg c4]
    by_cases c5 : x.1.1 = 5
    · rw [if_pos c5, if_pos c5]
      refine ⟨upN p t0 (b2 (bit b (nI x.1.2.2.2))), ?_, upN_s, fun j hj => upN_n (by omega)⟩
      have hok : wok 29 t0 = true := by unfold wok; rw [if_pos (by omega), decide_eq_true_iff]; omega
      rw [wgo, if_pos hok, wgo]
      unfold wst vlS
      rw [if_pos (by simp), if_neg (by simp), if_neg (by simp), if_pos rfl, bit_v]
    · rw [if_neg c5, if_neg c5]
      have hx4 : x.1.1 < 4 := by have := hx.1; omega
      obtain ⟨o1, o2⟩ := hx.2 hx4
      obtain ⟨p1, b1, h1, k1, _, m1⟩ := ex_sim (vs := vs) (d := d) (b := b) (t0 := t0) (by omega) x.2.1 0 1 (fun _ => 0) p false o1.1 (by decide) (fun _ j hj => absurd hj (Nat.not_lt_zero j))
      obtain ⟨p2, b2', h2, k2, t2, m2⟩ := ex_sim (vs := vs) (d := d) (b := b) (t0 := t0 + 1) (by omega) x.2.2 0 1 (fun _ => 0) p1 b1 o2.1 (by decide) (fun _ j hj => absurd hj (Nat.not_lt_zero j))
      have m1 := m1 rfl
      rw [Nat.add_zero] at h1 h2
      rw [wgo_app, h1, Option.bind_some, wgo_app, h2, Option.bind_some]
      have hok : wok (9 + x.1.1) (t0 + 1 + 1) = true := by unfold wok; rw [if_neg (by omega), if_neg (by omega), if_pos (by omega), decide_eq_true_iff]; omega
      have hst : wst vs d b (9 + x.1.1, 0) (t0 + 1 + 1, p2, b2') = (t0 + 1, upN p2 t0 (b2 (!b2' && cmpS x.1.1 (p2 t0) (p2 (t0 + 1)))), false) := by
        unfold wst
        rw [if_neg (show ¬ (9 + x.1.1 = 3 ∨ (28 ≤ 9 + x.1.1 ∧ 9 + x.1.1 ≤ 33)) by omega), if_neg (show ¬ 9 + x.1.1 = 27 by omega), if_pos (show 9 ≤ 9 + x.1.1 ∧ 9 + x.1.1 ≤ 12 by omega)]
        simp only [show t0 + 1 + 1 - 1 = t0 + 1 by omega, show t0 + 1 + 1 - 2 = t0 by omega, show 9 + x.1.1 - 9 = x.1.1 by omega]
      rw [wgo, if_pos hok, hst, wgo]
      refine ⟨_, rfl, ?_, fun j hj => by rw [upN_n (by omega), k2 j (by omega), k1 j (by omega)]⟩
      rw [upN_s]
      congr 1
      unfold evE
      cases hE1 : evA vs x.2.1 0 (fun _ => 0) with
      | none =>
        rw [hE1] at m1
        simp only at m1
        rw [t2 m1]; rfl
      | some s1 =>
        rw [hE1] at m1
        simp only at m1
        have m2 := m2 m1.1
        cases hE2 : evA vs x.2.2 0 (fun _ => 0) with
        | none =>
          rw [hE2] at m2
          simp only at m2
          rw [m2]; rfl
        | some s2 =>
          rw [hE2] at m2
          simp only at m2
          have u1 := m1.2 0 (by decide)
          have u2 := m2.2 0 (by decide)
          rw [Nat.add_zero] at u1 u2
          rw [m2.1, k2 t0 (by omega), u1, u2]; rfl
theorem lit_sim {vs : Nat → Int32} {d b : Int32} {t0 : Nat} (ht0 : t0 ≤ 3) {x : Lit} (hx : okL x) (p : Nat → Int32) : ∃ p', wgo vs d b (litW x) (t0, p, false) = some (t0 + 1, p', false) ∧ p' t0 = b2 (litS vs d b x) ∧ ∀ j, j < t0 → p' j = p j := by
  obtain ⟨p1, h1, h2, h3⟩ := raw_sim (vs := vs) (d := d) (b := b) ht0 hx p
  unfold litW litS
  rw [wgo_app, h1, Option.bind_some]
  cases hn : x.1.2.1
  · rw [if_neg (by decide)]
    exact ⟨p1, rfl, by rw [h2]; simp, h3⟩
  · rw [if_pos rfl]
    have hok : wok 27 (t0 + 1) = true := by unfold wok; rw [if_neg (by omega), if_pos rfl, decide_eq_true_iff]; omega
    have hst : wst vs d b (27, 0) (t0 + 1, p1, false) = (t0 + 1, upN p1 t0 (1 - p1 t0), false) := by
      unfold wst
      rw [if_neg (by simp), if_pos rfl]
      simp only [show t0 + 1 - 1 = t0 by omega]
    rw [wgo, if_pos hok, hst, wgo]
    refine ⟨_, rfl, ?_, fun j hj => by rw [upN_n (by omega), h3 j hj]⟩
    rw [upN_s, h2]
    cases rawS vs d b x <;> rfl
