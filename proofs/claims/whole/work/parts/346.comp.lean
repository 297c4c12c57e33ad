/-- an expression's code in the class -/
def ex2w (x : Nat × Nat) : Nat × Nat := if x.1 = 0 then (3, x.2) else if x.1 = 1 then (30 + x.2, 0) else (x.1 + 3, 0)
theorem ex_sim {vs : Nat → Int32} {d b : Int32} {t0 : Nat} (ht0 : t0 ≤ 4) : ∀ (e : Cd) (k k' : Nat) (q p : Nat → Int32) (br : Bool), dep e k = some k' → k ≤ 60 → (br = false → ∀ j, j < k → p (t0 + j) = q j) →
    ∃ p' br', wgo vs d b (e.map ex2w) (t0 + k, p, br) = some (t0 + k', p', br') ∧ (∀ j, j < t0 → p' j = p j) ∧ (br = true → br' = true) ∧ (br = false → match evA vs e k q with
      | none => br' = true
      | some s => br' = false ∧ ∀ j, j < k' → p' (t0 + j) = s.2 j) := by
  intro e
  induction e with
  | nil =>
    intro k k' q p br hd hk hp
    rw [dep] at hd
    cases hd
    refine ⟨p, br, rfl, fun _ _ => rfl, id, fun hb => ?_⟩
    rw [evA]
    exact ⟨hb, hp hb⟩
  | cons x e ih =>
    intro k k' q p br hd hk hp
    rw [dep] at hd
    rw [List.map_cons, wgo, evA]
    by_cases k2 : x.1 < 2
    · rw [if_pos k2] at hd
      by_cases kd : k < 60 ∧ (x.1 = 1 → x.2 < 4)
      · rw [if_pos kd] at hd
        have push : ∀ (w : Nat × Nat) (v : Int32), (w.1 = 3 ∨ (28 ≤ w.1 ∧ w.1 ≤ 33)) → vlS vs d b w.1 w.2 = v → ∃ p' br', (if wok w.1 (t0 + k, p, br).1 = true then wgo vs d b (e.map ex2w) (wst vs d b w (t0 + k, p, br)) else none) = some (t0 + k', p', br') ∧ (∀ j, j < t0 → p' j = p j) ∧ (br = true → br' = true) ∧ (br = false → match evA vs e (k + 1) (upN q k v) with
            | none => br' = true
            | some s => br' = false ∧ ∀ j, j < k' → p' (t0 + j) = s.2 j) := by
          intro w v hw hv
          have hok : wok w.1 (t0 + k) = true := by unfold wok; rw [if_pos hw, decide_eq_true_iff]; omega
          have hst : wst vs d b w (t0 + k, p, br) = (t0 + (k + 1), upN p (t0 + k) v, br) := by unfold wst; rw [if_pos hw, hv]; rfl
          rw [show (t0 + k, p, br).1 = t0 + k from rfl, if_pos hok, hst]
          obtain ⟨p', br', h1, h2, h3, h4⟩ := ih (k + 1) k' (upN q k v) (upN p (t0 + k) v) br hd (by omega) (fun hb j hj => by
            by_cases ej : j = k
            · subst ej; rw [upN_s, upN_s]
            · rw [upN_n (by omega), upN_n ej]; exact hp hb j (by omega))
          exact ⟨p', br', h1, fun j hj => by rw [h2 j hj, upN_n (by omega)], h3, h4⟩
        by_cases k0 : x.1 = 0
        · rw [if_pos k0]
          have hx : ex2w x = (3, x.2) := by unfold ex2w; rw [if_pos k0]
          rw [hx]
          exact push (3, x.2) (nI x.2) (.inl rfl) (by unfold vlS; rw [if_pos rfl])
        · have k1 : x.1 = 1 := by omega
          have v4 := kd.2 k1
          rw [if_neg k0, if_pos k1]
          have hx : ex2w x = (30 + x.2, 0) := by unfold ex2w; rw [if_neg k0, if_pos k1]
          rw [hx]
          refine push (30 + x.2, 0) (vs x.2) (.inr ⟨by show 28 ≤ 30 + x.2; omega, by show 30 + x.2 ≤ 33; omega⟩) ?_
          show vlS vs d b (30 + x.2) 0 = _
          unfold vlS
          rw [if_neg (by omega), if_neg (by omega), if_neg (by omega), show 30 + x.2 - 30 = x.2 by omega]
      · rw [if_neg kd] at hd; cases hd
    · rw [if_neg k2] at hd
      by_cases kd : x.1 ≤ 5 ∧ 2 ≤ k
      · rw [if_pos kd] at hd
        obtain ⟨k5, t2⟩ := kd
        rw [if_neg (show ¬ x.1 = 0 by omega), if_neg (show ¬ x.1 = 1 by omega)]
        have hx : ex2w x = (x.1 + 3, 0) := by unfold ex2w; rw [if_neg (by omega), if_neg (by omega)]
        rw [hx]
        have hok : wok (x.1 + 3) (t0 + k) = true := by unfold wok; rw [if_neg (by omega), if_neg (by omega), if_pos (by omega), decide_eq_true_iff]; omega
        have hst : wst vs d b (x.1 + 3, 0) (t0 + k, p, br) = (t0 + (k - 1), upN p (t0 + (k - 2)) (jnS (x.1 + 3) (p (t0 + (k - 2))) (p (t0 + (k - 1)))), jbS (x.1 + 3) br (p (t0 + (k - 1)))) := by
          unfold wst
          rw [if_neg (show ¬ (x.1 + 3 = 3 ∨ (28 ≤ x.1 + 3 ∧ x.1 + 3 ≤ 33)) by omega), if_neg (show ¬ x.1 + 3 = 27 by omega), if_neg (show ¬ (9 ≤ x.1 + 3 ∧ x.1 + 3 ≤ 12) by omega)]
          simp only [show t0 + k - 1 = t0 + (k - 1) by omega, show t0 + k - 2 = t0 + (k - 2) by omega]
        rw [show ((x.1 + 3, 0) : Nat × Nat).1 = x.1 + 3 from rfl, show (t0 + k, p, br).1 = t0 + k from rfl, if_pos hok, hst]
        by_cases hbr : jbS (x.1 + 3) br (p (t0 + (k - 1))) = true
        · obtain ⟨p', br', h1, h2, h3, h4⟩ := ih (k - 1) k' q (upN p (t0 + (k - 2)) (jnS (x.1 + 3) (p (t0 + (k - 2))) (p (t0 + (k - 1))))) true hd (by omega) (fun h => absurd h (by decide))
          rw [hbr]
          refine ⟨p', br', h1, fun j hj => by rw [h2 j hj, upN_n (by omega)], fun _ => h3 rfl, fun hb => ?_⟩
          have z : x.1 = 5 ∧ q (k - 1) = 0 := by
            unfold jbS at hbr
            rw [hb] at hbr
            by_cases c8 : x.1 + 3 = 5 ∨ x.1 + 3 = 6 ∨ x.1 + 3 = 7 ∨ x.1 + 3 = 25 ∨ x.1 + 3 = 26
            · rw [if_pos c8] at hbr; cases hbr
            · rw [if_neg c8, Bool.false_or, decide_eq_true_iff, hp hb (k - 1) (by omega)] at hbr
              exact ⟨by omega, hbr⟩
          rw [if_pos z]
          exact h3 rfl
        · have hbr : jbS (x.1 + 3) br (p (t0 + (k - 1))) = false := by simpa using hbr
          have hb : br = false := by
            unfold jbS at hbr
            split at hbr
            · exact hbr
            · rw [Bool.or_eq_false_iff] at hbr; exact hbr.1
          have q1 := hp hb (k - 1) (by omega)
          have q2 := hp hb (k - 2) (by omega)
          have nz' : ¬ (x.1 = 5 ∧ q (k - 1) = 0) := fun ⟨z1, z2⟩ => by
            unfold jbS at hbr
            rw [if_neg (by omega), q1, z2] at hbr
            simp at hbr
          rw [if_neg nz', hbr]
          have ej : jnS (x.1 + 3) (p (t0 + (k - 2))) (p (t0 + (k - 1))) = opV x.1 (q (k - 2)) (q (k - 1)) := by
            rw [q1, q2]
            unfold jnS opV
            have hc : x.1 = 2 ∨ x.1 = 3 ∨ x.1 = 4 ∨ x.1 = 5 := by omega
            rcases hc with h | h | h | h
            · simp [h]
            · simp [h]
            · simp [h]
            · have : ¬ q (k - 1) = 0 := fun z => nz' ⟨h, z⟩
              simp [h, this]
          rw [ej]
          obtain ⟨p', br', h1, h2, h3, h4⟩ := ih (k - 1) k' (upN q (k - 2) (opV x.1 (q (k - 2)) (q (k - 1)))) (upN p (t0 + (k - 2)) (opV x.1 (q (k - 2)) (q (k - 1)))) false hd (by omega) (fun _ j hj => by
            by_cases ej : j = k - 2
            · subst ej; rw [upN_s, upN_s]
            · rw [upN_n (by omega), upN_n ej]; exact hp hb j (by omega))
          exact ⟨p', br', h1, fun j hj => by rw [h2 j hj, upN_n (by omega)], fun h => absurd (hb.symm.trans h) (by decide), fun _ => h4 rfl⟩
      · rw [if_neg kd] at hd; cases hd
