/-- the code behind a condition's first literal: an 'or' waits -/
def cndW : List Lit → Bool → Cd
  | [], ow => if ow = true then [(25, 0)] else []
  | x :: r, ow => if x.1.2.2.1 = true then (if ow = true then [(25, 0)] else []) ++ (litW x ++ cndW r true) else litW x ++ ([(26, 0)] ++ cndW r ow)
theorem or_b (a b : Bool) : b2 a ||| b2 b = b2 (a || b) := by cases a <;> cases b <;> decide
theorem and_b (a b : Bool) : b2 a &&& b2 b = b2 (a && b) := by cases a <;> cases b <;> decide
theorem w25 {vs : Nat → Int32} {d b : Int32} {p : Nat → Int32} {u v : Bool} (h0 : p 0 = b2 u) (h1 : p 1 = b2 v) : wgo vs d b [(25, 0)] (2, p, false) = some (1, upN p 0 (b2 (u || v)), false) := by
  have hok : wok 25 2 = true := by decide
  have hst : wst vs d b (25, 0) (2, p, false) = (1, upN p 0 (b2 (u || v)), false) := by
    unfold wst
    rw [if_neg (by simp), if_neg (by simp), if_neg (by simp)]
    show (1, upN p 0 (jnS 25 (p 0) (p 1)), jbS 25 false (p 1)) = _
    rw [h0, h1]
    unfold jnS jbS
    simp [or_b]
  rw [wgo, if_pos hok, hst, wgo]
theorem w26 {vs : Nat → Int32} {d b : Int32} {p : Nat → Int32} {u v : Bool} {t0 : Nat} (h64 : t0 ≤ 3) (h0 : p t0 = b2 u) (h1 : p (t0 + 1) = b2 v) : wgo vs d b [(26, 0)] (t0 + 1 + 1, p, false) = some (t0 + 1, upN p t0 (b2 (u && v)), false) := by
  have hok : wok 26 (t0 + 1 + 1) = true := by unfold wok; rw [if_neg (by omega), if_neg (by omega), if_pos (by omega), decide_eq_true_iff]; omega
  have hst : wst vs d b (26, 0) (t0 + 1 + 1, p, false) = (t0 + 1, upN p t0 (b2 (u && v)), false) := by
    unfold wst
    rw [if_neg (by simp), if_neg (by simp), if_neg (by simp)]
    simp only [show t0 + 1 + 1 - 1 = t0 + 1 by omega, show t0 + 1 + 1 - 2 = t0 by omega]
    rw [h0, h1]
    unfold jnS jbS
    simp [and_b]
  rw [wgo, if_pos hok, hst, wgo]
theorem cond_sim {vs : Nat → Int32} {d b : Int32} : ∀ (ls : List Lit) (ow prev all : Bool) (p : Nat → Int32), (∀ x, x ∈ ls → okL x) → (ow = false → prev = false) → (ow = true → p 0 = b2 prev) → p (if ow = true then 1 else 0) = b2 all →
    ∃ p', wgo vs d b (cndW ls ow) ((if ow = true then 2 else 1), p, false) = some (1, p', false) ∧ p' 0 = b2 (prev || hoS vs d b ls all) := by
  intro ls
  induction ls with
  | nil =>
    intro ow prev all p hk h1 h2 h3
    rw [cndW, hoS]
    cases ow
    · rw [h1 rfl]
      exact ⟨p, rfl, by rw [Bool.false_or]; exact h3⟩
    · rw [if_pos rfl, if_pos rfl, w25 (h2 rfl) h3]
      exact ⟨_, rfl, upN_s⟩
  | cons x r ih =>
    intro ow prev all p hk h1 h2 h3
    have hx := hk x List.mem_cons_self
    have hr : ∀ y, y ∈ r → okL y := fun y hy => hk y (List.mem_cons_of_mem _ hy)
    rw [cndW, hoS]
    cases ho : x.1.2.2.1
    · rw [if_neg (by decide), if_neg (show ¬ ((false : Bool) = true ∧ all = true) from fun z => absurd z.1 (by decide)), Bool.false_or]
      cases ow
      · rw [if_neg (by decide)] at h3 ⊢
        obtain ⟨p1, q1, q2, q3⟩ := lit_sim (vs := vs) (d := d) (b := b) (t0 := 1) (by decide) hx p
        rw [wgo_app, q1, Option.bind_some, wgo_app, w26 (t0 := 0) (u := all) (v := litS vs d b x) (by decide) (by rw [q3 0 (by decide)]; exact h3) q2, Option.bind_some]
        have := ih false prev (all && litS vs d b x) (upN p1 0 (b2 (all && litS vs d b x))) hr h1 (fun z => by cases z) upN_s
        exact this
      · rw [if_pos rfl] at h3 ⊢
        obtain ⟨p1, q1, q2, q3⟩ := lit_sim (vs := vs) (d := d) (b := b) (t0 := 2) (by decide) hx p
        rw [wgo_app, q1, Option.bind_some, wgo_app, w26 (t0 := 1) (u := all) (v := litS vs d b x) (by decide) (by rw [q3 1 (by decide)]; exact h3) q2, Option.bind_some]
        have := ih true prev (all && litS vs d b x) (upN p1 1 (b2 (all && litS vs d b x))) hr h1 (fun _ => by rw [upN_n (by decide), q3 0 (by decide)]; exact h2 rfl) upN_s
        exact this
    · rw [if_pos rfl, Bool.true_or, Bool.true_and]
      have tail : ∀ (u : Bool) (p0 : Nat → Int32), p0 0 = b2 u → ∃ p', wgo vs d b (litW x ++ cndW r true) (1, p0, false) = some (1, p', false) ∧ p' 0 = b2 (u || hoS vs d b r (litS vs d b x)) := fun u p0 hu => by
        obtain ⟨p1, q1, q2, q3⟩ := lit_sim (vs := vs) (d := d) (b := b) (t0 := 1) (by decide) hx p0
        rw [wgo_app, q1, Option.bind_some]
        exact ih true u (litS vs d b x) p1 hr (fun z => by cases z) (fun _ => by rw [q3 0 (by decide)]; exact hu) q2
      cases ow
      · rw [if_neg (by decide)] at h3 ⊢
        rw [if_neg (by decide), List.nil_append]
        obtain ⟨p', t1, t2⟩ := tail all p h3
        refine ⟨p', t1, ?_⟩
        rw [t2, h1 rfl]
        cases all <;> simp
      · rw [if_pos rfl] at h3 ⊢
        rw [if_pos rfl, wgo_app, w25 (h2 rfl) h3, Option.bind_some]
        obtain ⟨p', t1, t2⟩ := tail (prev || all) (upN p 0 (b2 (prev || all))) upN_s
        refine ⟨p', t1, ?_⟩
        rw [t2]
        cases prev <;> cases all <;> simp
