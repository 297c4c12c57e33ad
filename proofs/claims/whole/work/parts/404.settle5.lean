/-- settle and findsRead -/
theorem settle_both {c0 m0 cB mB : Hp} {K sd t np nc nb nl cs cd ln : Nat} {kd pl : Nat → Nat} {A : Nat → Option Cd} {Ls : Nat → List Lit} {as bs : Nat → Nat} (X : CTX c0 m0 K kd pl sd) (T : TSt c0 m0 K kd sd t np nc nb nl cs cd ln A Ls as bs cB mB) : ∃ c1 m1, fX5_settle cB = some c1 ∧ fX12_findsRead mB = some m1 ∧ SJ c0 m0 K kd sd t nl (fnd nl cB) Ls as bs cB mB nl c1 m1 := by
  have s2 := X.2.2
  have P := T.1.1
  have t4 : t < 401 := by have := P.2.2.1; have := X.1.2.1; omega
  have hl3 := T.2.2.2.2.1
  have U := T.2.2.2.2.2.1
  obtain ⟨c1, m1, e1, e2, e3⟩ := settle_loop X T nl 0 cB mB FU (by omega) (Nat.zero_le _) ⟨P, .refl, .refl, fun _ _ _ _ _ _ => rfl, fun _ _ => rfl, fun z => ⟨z, fun _ _ _ _ _ _ h => h, fun l' hl' => absurd hl' (by omega)⟩⟩ (show nl < 20000 by have := T.2.1.2.2.2.1; omega)
  have n1 : ¬ cB.1 142 8 = 1 ∧ ¬ cB.1 142 8 = 2 := by
    rcases P.2.2.2.2.2.2.2 with ⟨q1, _⟩ | ⟨f, p, f3, f5, _, q1, _⟩
    · rw [q1]; exact ⟨by decide, by decide⟩
    · rw [q1]
      exact ⟨fun z => by have := nI_inj (b := 1) (by omega) (by decide) z; omega, fun z => by have := nI_inj (b := 2) (by omega) (by decide) z; omega⟩
  refine ⟨c1, m1, ?_, ?_, e3⟩
  · unfold fX5_settle
    rw [if_neg n1.1, if_neg n1.2, lt_q]
    exact e1
  · have := e2 (19999 - ln + 1)
    rw [U.1, Nat.sub_zero, Nat.add_zero, show 19999 - ln + 1 + ln = FU by show _ = 20000; omega] at this
    unfold fX12_findsRead
    have e19 : mB.1 0 19 = nI sd := by rw [P.2.1.i 0 19 rfl]; exact X.2.1
    have e150 : (150 : Int32) * nI sd = nI (150 * sd) := by
      obtain rfl | rfl : sd = 0 ∨ sd = 1 := by omega
      all_goals rfl
    rw [e19, e150, lt_q]
    show lX12_findsRead_9 FU (nI (150 * sd + 0)) mB = some m1
    rw [this, lX12_findsRead_9]
    unfold bX12_findsRead_9
    rw [e3.2.2.1.i 0 42 rfl, T.1.2.2.2.2.1, if_pos (nI_le (Nat.le_refl _) (by omega))]
