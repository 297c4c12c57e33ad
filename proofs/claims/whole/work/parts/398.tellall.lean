/-- all is told -/
def AllOk (c0 m0 : Hp) (K : Nat) (kd : Nat → Nat) (sd : Nat) (c m : Hp) : Prop := ∃ t np nc nb nl cs cd ln A Ls as bs, TSt c0 m0 K kd sd t np nc nb nl cs cd ln A Ls as bs c m
theorem tell_all {c0 m0 : Hp} {K sd : Nat} {kd pl : Nat → Nat} (X : CTX c0 m0 K kd pl sd) : ∀ (n t i np nc nb nl cs cd ln : Nat) (A : Nat → Option Cd) (Ls : Nat → List Lit) (as bs : Nat → Nat) (c m : Hp) (fc fm : Nat), 401 - t ≤ n → TSt c0 m0 K kd sd t np nc nb nl cs cd ln A Ls as bs c m → i ≤ t → n + 1 < fc → n + 1 < fm → ∃ c1 m1, lX5_tellAll_4 fc 1 (nI i) c = some c1 ∧ lX12_read_182 fm m = bX12_read_204 m1 ∧ (AllOk c0 m0 K kd sd c1 m1 ∨ FF c0 m0 sd c1 m1) := by
  intro n
  induction n with
  | zero =>
    intro t i np nc nb nl cs cd ln A Ls as bs c m fc fm hn T
    have := T.1.1.2.2.1; have := X.1.2.1; omega
  | succ n ih =>
    intro t i np nc nb nl cs cd ln A Ls as bs c m fc fm hn T hi h1 h2
    obtain ⟨gc, rfl⟩ : ∃ g, fc = g + 1 := ⟨fc - 1, by omega⟩
    obtain ⟨gm, rfl⟩ : ∃ g, fm = g + 1 := ⟨fm - 1, by omega⟩
    have P := T.1.1
    have t4 : t < 401 := by have := P.2.2.1; have := X.1.2.1; omega
    have k34 : kd t < 34 := by have := (tk_row X P P.2.2.1).1; omega
    rw [lX5_tellAll_4, lX12_read_182]
    unfold bX5_tellAll_4 bX12_read_182
    rw [if_neg (show ¬ (400 : Int32) < nI i from nI_nlt (a := 400) (by omega) (by decide)), if_neg (show ¬ (1 : Int32) = 0 by decide), if_pos P.2.2.2.2.2.2.1, show fX12_is 0 m = fX12_is (nI (kM 0)) m from rfl, M_is X P (by decide), bi_q, P.2.2.2.2.1]
    by_cases k0 : kd t = 0
    · rw [decide_eq_true k0, if_neg (show ¬ b2 true = 0 by decide), if_pos (by rw [k0]; rfl)]
      exact ⟨c, m, rfl, rfl, .inl ⟨t, np, nc, nb, nl, cs, cd, ln, A, Ls, as, bs, T⟩⟩
    · rw [decide_eq_false k0, if_pos (show b2 false = 0 from rfl), if_neg (show ¬ nI (kd t) = 0 from fun z => k0 (nI_inj (b := 0) (by omega) (by decide) z))]
      obtain ⟨v, c1, m1, e1, e2, h⟩ := tell_both X T
      rw [e1, e2, bi_q, bv_q, lt_q, nI_1, lt_q]
      rcases h with ⟨rfl, t1, np1, nc1, nb1, nl1, cs1, cd1, ln1, A1, Ls1, as1, bs1, lt1, T1⟩ | ⟨rfl, F⟩
      · exact ih t1 (i + 1) np1 nc1 nb1 nl1 cs1 cd1 ln1 A1 Ls1 as1 bs1 c1 m1 gc gm (by omega) T1 (by omega) (by omega) (by omega)
      · obtain ⟨g1, rfl⟩ : ∃ g, gc = g + 1 := ⟨gc - 1, by omega⟩
        obtain ⟨g2, rfl⟩ : ∃ g, gm = g + 1 := ⟨gm - 1, by omega⟩
        refine ⟨c1, m1, ?_, ?_, .inr F⟩
        · rw [lX5_tellAll_4]
          unfold bX5_tellAll_4
          rw [if_pos (show (0 : Int32) = 0 from rfl), ite_self]
        · obtain ⟨f, p, _, _, _, _, G⟩ := F
          rw [lX12_read_182]
          unfold bX12_read_182
          rw [if_neg (FM_13 G).1]
