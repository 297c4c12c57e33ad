/-- the class's code: operation + 256 operand -/
def cwC (c : Hp) (a : Nat) (W : Cd) : Prop := ∀ i (h : i < W.length), c.1 112 (a + i) = nI (W[i].1 + 256 * W[i].2) ∧ W[i].1 < 256 ∧ W[i].2 < 2 ^ 20
theorem cwC_h {c : Hp} {a : Nat} {x : Nat × Nat} {W : Cd} (h : cwC c a (x :: W)) : c.1 112 a = nI (x.1 + 256 * x.2) ∧ x.1 < 256 ∧ x.2 < 2 ^ 20 := h 0 (by simp)
theorem cwC_t {c : Hp} {a : Nat} {x : Nat × Nat} {W : Cd} (h : cwC c a (x :: W)) : cwC c (a + 1) W := fun i hi => by
  have := h (i + 1) (by simp; omega)
  rw [show a + (i + 1) = a + 1 + i by omega] at this
  simpa using this
theorem w_op {o x : Nat} (ho : o < 256) (hx : x < 2 ^ 20) : nI (o + 256 * x) &&& 255 = nI o := by
  rw [pk_andN (by omega) 8 rfl]
  congr 1; omega
theorem w_ar {o x : Nat} (ho : o < 256) (hx : x < 2 ^ 20) : nI (o + 256 * x) >>> ((8 : Int32) &&& 31) = nI x := by
  rw [pk_shrN (by omega) _ 8 (by decide)]
  congr 1; omega
def jnS (o : Nat) (a b : Int32) : Int32 := if o = 5 then a + b else if o = 6 then a - b else if o = 7 then a * b else if o = 25 then a ||| b else if o = 26 then a &&& b else if b = 0 then 0 else a / b
def jbS (o : Nat) (br : Bool) (b : Int32) : Bool := if o = 5 ∨ o = 6 ∨ o = 7 ∨ o = 25 ∨ o = 26 then br else br || decide (b = 0)
def vlS (vs : Nat → Int32) (d b : Int32) (o x : Nat) : Int32 := if o = 3 then nI x else if o = 28 then (d >>> (nI x &&& 31)) &&& 1 else if o = 29 then (b >>> (nI x &&& 31)) &&& 1 else vs (o - 30)
def wok (o t : Nat) : Bool := if o = 3 ∨ (28 ≤ o ∧ o ≤ 33) then decide (t < 64) else if o = 27 then decide (1 ≤ t ∧ t ≤ 64) else if (5 ≤ o ∧ o ≤ 12) ∨ o = 25 ∨ o = 26 then decide (2 ≤ t ∧ t ≤ 64) else false
abbrev Ex : Type := Nat × (Nat → Int32) × Bool
def wst (vs : Nat → Int32) (d b : Int32) (x : Nat × Nat) (s : Ex) : Ex := if x.1 = 3 ∨ (28 ≤ x.1 ∧ x.1 ≤ 33) then (s.1 + 1, upN s.2.1 s.1 (vlS vs d b x.1 x.2), s.2.2) else if x.1 = 27 then (s.1, upN s.2.1 (s.1 - 1) (1 - s.2.1 (s.1 - 1)), s.2.2) else if 9 ≤ x.1 ∧ x.1 ≤ 12 then (s.1 - 1, upN s.2.1 (s.1 - 2) (b2 (!s.2.2 && cmpS (x.1 - 9) (s.2.1 (s.1 - 2)) (s.2.1 (s.1 - 1)))), false) else (s.1 - 1, upN s.2.1 (s.1 - 2) (jnS x.1 (s.2.1 (s.1 - 2)) (s.2.1 (s.1 - 1))), jbS x.1 s.2.2 (s.2.1 (s.1 - 1)))
def wgo (vs : Nat → Int32) (d b : Int32) : Cd → Ex → Option Ex
  | [], s => some s
  | x :: W, s => if wok x.1 s.1 = true then wgo vs d b W (wst vs d b x s) else none
def TC : Ws := [(148, none), (147, some 7)]
/-- the class holds this state -/
def EXC (vs : Nat → Int32) (d b : Int32) (s : Ex) (h : Hp) : Prop := (∀ j, j < s.1 → h.1 148 j = s.2.1 j) ∧ h.1 147 7 = b2 s.2.2 ∧ (∀ v, v < 4 → h.1 149 v = vs v) ∧ h.1 147 5 = d ∧ h.1 147 6 = b
theorem C_joined {o : Nat} {a b : Int32} {br : Bool} {h : Hp} (ho : o < 256) (hb : h.1 147 7 = b2 br) : Ok (fX6_joined (nI o) a b h) (fun r => r.1 = jnS o a b ∧ Agr [(147, some 7)] h r.2 ∧ r.2.1 147 7 = b2 (jbS o br b)) := by
  have nk : ∀ c : Nat, c < 256 → (nI o = nI c ↔ o = c) := fun c hc => nI_eq (by omega) (by omega)
  have k5 : (nI o = 5) ↔ o = 5 := nk 5 (by decide)
  have k6 : (nI o = 6) ↔ o = 6 := nk 6 (by decide)
  have k7 : (nI o = 7) ↔ o = 7 := nk 7 (by decide)
  have k25 : (nI o = 25) ↔ o = 25 := nk 25 (by decide)
  have k26 : (nI o = 26) ↔ o = 26 := nk 26 (by decide)
  simp only [fX6_joined, bX6_joined_84, bX6_joined_89, k5, k6, k7, k25, k26]
  unfold jnS jbS
  by_cases c5 : o = 5
  · rw [if_pos c5, if_pos c5, if_pos (.inl c5), ok_some]; exact ⟨rfl, .refl, hb⟩
  · by_cases c6 : o = 6
    · rw [if_neg c5, if_pos c6, if_neg c5, if_pos c6, if_pos (.inr (.inl c6)), ok_some]; exact ⟨rfl, .refl, hb⟩
    · by_cases c7 : o = 7
      · rw [if_neg c5, if_neg c6, if_pos c7, if_neg c5, if_neg c6, if_pos c7, if_pos (.inr (.inr (.inl c7))), ok_some]; exact ⟨rfl, .refl, hb⟩
      · by_cases c25 : o = 25
        · rw [if_neg c5, if_neg c6, if_neg c7, if_pos c25, if_neg c5, if_neg c6, if_neg c7, if_pos c25, if_pos (.inr (.inr (.inr (.inl c25)))), ok_some]; exact ⟨rfl, .refl, hb⟩
        · by_cases c26 : o = 26
          · rw [if_neg c5, if_neg c6, if_neg c7, if_neg c25, if_pos c26, if_neg c5, if_neg c6, if_neg c7, if_neg c25, if_pos c26, if_pos (.inr (.inr (.inr (.inr c26)))), ok_some]; exact ⟨rfl, .refl, hb⟩
          · have nn : ¬ (o = 5 ∨ o = 6 ∨ o = 7 ∨ o = 25 ∨ o = 26) := by omega
            rw [if_neg c5, if_neg c6, if_neg c7, if_neg c25, if_neg c26, if_neg c5, if_neg c6, if_neg c7, if_neg c25, if_neg c26, if_neg nn, hb]
            simp only [lt_q, ck_of zb_1, ck_of zb_0, b2_0]
            have end1 : ∀ (v : Int32), Ok (if b = 0 then some ((0 : Int32), wI h 147 7 v) else ck (nz b) (some (a / b, wI h 147 7 v))) (fun r => r.1 = (if b = 0 then 0 else a / b) ∧ r.2 = wI h 147 7 v) := fun v => by
              by_cases b0 : b = 0
              · rw [if_pos b0, if_pos b0, ok_some]; exact ⟨rfl, rfl⟩
              · rw [if_neg b0, if_neg b0, ck_of (show nz b = true from decide_eq_true b0), ok_some]; exact ⟨rfl, rfl⟩
            have fin : ∀ (u : Bool), u = (br || decide (b = 0)) → Ok (if b = 0 then some ((0 : Int32), wI h 147 7 (b2 u)) else ck (nz b) (some (a / b, wI h 147 7 (b2 u)))) (fun r => r.1 = (if b = 0 then 0 else a / b) ∧ Agr [(147, some 7)] h r.2 ∧ r.2.1 147 7 = b2 (br || decide (b = 0))) := fun u hu => by
              refine (end1 (b2 u)).mono ?_
              rintro r ⟨r1, r2⟩
              rw [r2]
              exact ⟨r1, Agr.refl.wI rfl, by rw [wI_s, hu]⟩
            cases br
            · rw [if_pos rfl]
              by_cases b0 : b = 0
              · have := fin true (by rw [decide_eq_true b0]; rfl)
                rw [b2_t] at this
                rw [if_pos b0]; exact this
              · have := fin false (by rw [decide_eq_false b0]; rfl)
                rw [b2_f] at this
                rw [if_neg b0]; exact this
            · rw [if_neg (by decide)]
              have := fin true rfl
              rw [b2_t] at this
              exact this
