/-- expressions -/
theorem ex_all {c0 m0 cS mS : Hp} {K sd cs cd t0 sl : Nat} {kd pl : Nat → Nat} (X : CTX c0 m0 K kd pl sd) : ∀ n, n < 19000 → exU c0 m0 K kd sd cs cd t0 sl cS mS n ∧ exV c0 m0 K kd sd cs cd t0 sl cS mS n
  | 0, _ => by
    refine ⟨fun t st e i c m fc fm f12 E _ _ _ _ hn _ _ _ => ?_, fun t st e i c m fc fm f12 E _ _ _ _ hn _ _ _ => ?_⟩
    · have := E.1.2.2.1; have := X.1.2.1; omega
    · have := E.1.2.2.1; have := X.1.2.1; omega
  | n + 1, h => by
    obtain ⟨a, b⟩ := ex_all X n (by omega)
    exact ⟨ex_U X (by omega) a b, ex_V X (by omega) a b⟩
/-- the state in which code is laid down -/
def LSt (c0 m0 : Hp) (K : Nat) (kd : Nat → Nat) (sd t cs cd ln : Nat) (c m : Hp) : Prop := PB c0 m0 K kd sd t c m ∧ m.1 0 12 = 0 ∧ c.1 125 11 = nI cs ∧ m.1 0 49 = nI (420 * sd + cd) ∧ m.1 0 42 = nI (150 * sd + ln) ∧ cd ≤ cs
theorem expr_both {c0 m0 c m : Hp} {K sd t cs cd ln : Nat} {kd pl : Nat → Nat} (sl : Nat) (X : CTX c0 m0 K kd pl sd) (L : LSt c0 m0 K kd sd t cs cd ln c m) (hc : cs + sl + 1 ≤ t) : R2 c0 m0 sd (fX5_expression c) (fX12_expression m) (fun c1 m1 => ∃ t1 e, LSt c0 m0 K kd sd t1 (cs + e.length) (cd + e.length) ln c1 m1 ∧ cs + sl + e.length + 1 ≤ t1 ∧ t < t1 ∧ okCd e ∧ cwG c1 cs (e.map ex2w) ∧ cdM m1 (420 * sd + cd) e ∧ (Agr XWc c c1 ∧ ∀ j, j < cs → c1.1 129 j = c.1 129 j) ∧ (Agr XWm m m1 ∧ ∀ j, j < 420 * sd + cd → m1.1 35 j = m.1 35 j ∧ m1.1 36 j = m.1 36 j)) := by
  obtain ⟨L1, L2, L3, L4, L5, L6⟩ := L
  have M : Agr [(0, some 53)] m (wI m 0 53 0) := Agr.refl.wI rfl
  have E : EX c0 m0 K kd sd cs cd t [] [] c m c (wI m 0 53 0) := ⟨PB_w L1 (W := []) .refl rfl rfl (AgrM.ag rfl M) ⟨M.i 0 11 rfl, M.i 0 13 rfl, M.i 0 15 rfl, M.i 0 16 rfl⟩, ⟨rfl, by decide⟩, trivial, trivial, L3, by rw [M.i 0 49 rfl]; exact L4, wI_s, by rw [M.i 0 12 rfl, L2]; rfl, cwG_n, cdM_n, fun x hx => (by cases hx), L6, ⟨.refl, fun _ _ => rfl⟩, M.sub rfl, fun j _ => ⟨M.i 35 j rfl, M.i 36 j rfl⟩⟩
  unfold fX5_expression fX12_expression
  simp only [lt_q, M.i 0 12 rfl, L2]
  have e12 : lX12_expression_12 FU 0 1 (wI m 0 53 0) = lX12_expression_23 (lX12_expression_12 19999) FU 0 (wI m 0 53 0) := by
    rw [show lX12_expression_12 FU = lX12_expression_12 (19999 + 1) from rfl, lX12_expression_12]
    unfold bX12_expression_12
    rw [if_neg (by decide), if_pos (by rw [M.i 0 13 rfl]; exact L1.2.2.2.2.2.2.1)]
  rw [e12]
  have := (ex_all (cS := c) (mS := m) (cs := cs) (cd := cd) (t0 := t) (sl := sl) X 401 (by decide)).1 t [] [] 0 c (wI m 0 53 0) FU FU 19999 E (Nat.le_refl t) (by show cs + sl + 0 + 0 + 1 ≤ t; omega) rfl (by omega) (by omega) (by decide) (by decide) (by decide)
  refine R2.mono this ?_
  rintro c1 m1 ⟨t1, e, E1, h1, h2, h3⟩
  obtain ⟨E1, ⟨_, _⟩, _, _, E6, E7, _, E9, E10, E11, E12, E13, ⟨E14, E15⟩, E16, E17⟩ := E1
  exact ⟨t1, e, ⟨E1, E9, E6, by rw [E7, Nat.add_assoc], by rw [E16.i 0 42 rfl]; exact L5, by omega⟩, h1, h3, ⟨h2, E12⟩, E10, E11, ⟨E14, E15⟩, E16, E17⟩
