/-- one thing is told -/
theorem R2_wc {c0 m0 : Hp} {sd : Nat} {oc : Option (Int32 × Hp)} {om : Option Hp} {S : Hp → Hp → Prop} (h : R2 c0 m0 sd oc om S) : R2 c0 m0 sd (bi oc (fun w h => ck (zb w) (some (w, h)))) om S := by
  obtain ⟨v, c1, m1, e1, e2, h⟩ := h
  refine ⟨v, c1, m1, ?_, e2, h⟩
  rw [e1, bi_q]
  rcases h with ⟨rfl, _⟩ | ⟨rfl, _⟩
  · exact ck_of zb_1
  · exact ck_of zb_0
theorem out_both {c0 m0 c m : Hp} {K sd t : Nat} {kd pl : Nat → Nat} {S : Hp → Hp → Prop} (X : CTX c0 m0 K kd pl sd) (P : PB c0 m0 K kd sd t c m) : R2 c0 m0 sd (bi (fX5_stop 1 c) (fun w h => ck (zb w) (some (w, h)))) (bv (fX12_fail 1 m) (fun h => some h)) S := by
  obtain ⟨c1, m1, e1, e2, ⟨f, p, g1, g2, g3, g4, g5⟩, _⟩ := st_both X P (f := 1) (.inl rfl)
  rw [show (1 : Int32) = nI 1 from rfl, e1, e2, bi_q, bv_q, ck_of zb_0]
  exact ⟨0, c1, m1, rfl, rfl, .inr ⟨rfl, f, p, g1, g2, g3, g4, g5⟩⟩
theorem kM_out : ∀ k, k < 34 → (k < 16 ∨ 24 < k ∨ k = 20) → ((nI (kM k)).toInt < 20 ∨ 27 < (nI (kM k)).toInt) := by decide +kernel
theorem kC_out : ∀ k, k < 34 → (k < 16 ∨ 24 < k) → ((nI k).toInt < 16 ∨ 24 < (nI k).toInt) := by decide +kernel
theorem tell_both {c0 m0 c m : Hp} {K sd t np nc nb nl cs cd ln : Nat} {kd pl : Nat → Nat} {A : Nat → Option Cd} {Ls : Nat → List Lit} {as bs : Nat → Nat} (X : CTX c0 m0 K kd pl sd) (T : TSt c0 m0 K kd sd t np nc nb nl cs cd ln A Ls as bs c m) : R2 c0 m0 sd (fX5_tell c) (fX12_tell m) (TellOk c0 m0 K kd sd t) := by
  have P := T.1.1
  have rr := tk_row X P P.2.2.1
  have s2 := X.2.2
  have t4 : t < 403 := by have := P.2.2.1; have := X.1.2.1; omega
  have k34 : kd t < 34 := by have := rr.1; omega
  have c7 := P.2.2.2.2.1
  have m3 : m.1 3 t = nI (kM (kd t)) := rr.2.2.2.1
  have m19 : m.1 0 19 = nI sd := by rw [P.2.1.i 0 19 rfl]; exact X.2.1
  have m11 := P.2.2.2.2.2.1
  unfold fX5_tell fX12_tell
  simp only [c7, m11, ck_of (nI_inb t4 (by decide)), nI_ix (show t < 2147483648 by omega), m3, m19, ck_of (nI_inb s2 (by decide)), nI_ix (show sd < 2147483648 by omega)]
  by_cases o : kd t < 16 ∨ 24 < kd t ∨ kd t = 20
  · rw [if_pos (kM_out _ k34 o)]
    by_cases o2 : kd t = 20
    · rw [o2]
      rw [if_neg (by decide), if_neg (by decide), if_neg (by decide), if_neg (by decide), if_neg (by decide), if_pos (by decide)]
      exact out_both X P
    · rw [if_pos (kC_out _ k34 (by omega))]
      exact out_both X P
  · obtain k | k | k | k | k | k | k | k : kd t = 16 ∨ kd t = 17 ∨ kd t = 18 ∨ kd t = 19 ∨ kd t = 21 ∨ kd t = 22 ∨ kd t = 23 ∨ kd t = 24 := by omega
    · rw [k]
      rw [if_neg (by decide), if_pos (by decide), if_neg (by decide), if_pos (by decide)]
      exact R2_wc (tell_person X T k)
    · rw [k]
      rw [if_neg (by decide), if_neg (by decide), if_pos (by decide), if_neg (by decide), if_neg (by decide), if_pos (by decide)]
      exact R2_wc (tell_clerk X T k)
    · rw [k]
      rw [if_neg (by decide), if_neg (by decide), if_neg (by decide), if_pos (by decide), if_neg (by decide), if_neg (by decide), if_neg (by decide), if_pos (by decide)]
      exact R2_wc (tell_barred X T k)
    · rw [k]
      rw [if_neg (by decide), if_neg (by decide), if_neg (by decide), if_neg (by decide), if_pos (by decide), if_neg (by decide), if_neg (by decide), if_neg (by decide), if_neg (by decide), if_pos (by decide)]
      exact R2_wc (tell_letter X T k)
    · rw [k]
      rw [if_neg (by decide), if_neg (by decide), if_neg (by decide), if_neg (by decide), if_neg (by decide), if_neg (by decide), if_pos (by decide), if_neg (by decide), if_neg (by decide), if_neg (by decide), if_neg (by decide), if_neg (by decide), if_pos (by decide)]
      exact R2_wc (tell_proof X T k)
    · rw [k]
      have v : (3 : Int32) * nI sd + nI (kM 22) - 25 = nI (3 * sd + 0) := by obtain rfl | rfl : sd = 0 ∨ sd = 1 := by omega
                                                                             all_goals rfl
      rw [if_neg (by decide), if_neg (by decide), if_neg (by decide), if_neg (by decide), if_neg (by decide), if_neg (by decide), if_neg (by decide), if_pos (by decide), if_neg (by decide), if_neg (by decide), if_neg (by decide), if_neg (by decide), if_neg (by decide), if_neg (by decide), if_pos (by decide), v, lt_q]
      exact R2_wc (tell_rule (r := 0) X T (by decide) k)
    · rw [k]
      have v : (3 : Int32) * nI sd + nI (kM 23) - 25 = nI (3 * sd + 1) := by obtain rfl | rfl : sd = 0 ∨ sd = 1 := by omega
                                                                             all_goals rfl
      rw [if_neg (by decide), if_neg (by decide), if_neg (by decide), if_neg (by decide), if_neg (by decide), if_neg (by decide), if_neg (by decide), if_neg (by decide), if_pos (by decide), if_neg (by decide), if_neg (by decide), if_neg (by decide), if_neg (by decide), if_neg (by decide), if_neg (by decide), if_neg (by decide), if_pos (by decide), v, lt_q]
      exact R2_wc (tell_rule (r := 1) X T (by decide) k)
    · rw [k]
      have v : (3 : Int32) * nI sd + nI (kM 24) - 25 = nI (3 * sd + 2) := by obtain rfl | rfl : sd = 0 ∨ sd = 1 := by omega
                                                                             all_goals rfl
      rw [if_neg (by decide), if_neg (by decide), if_neg (by decide), if_neg (by decide), if_neg (by decide), if_neg (by decide), if_neg (by decide), if_neg (by decide), if_neg (by decide), if_pos (by decide), if_neg (by decide), if_neg (by decide), if_neg (by decide), if_neg (by decide), if_neg (by decide), if_neg (by decide), if_neg (by decide), if_neg (by decide), if_pos (by decide), v, lt_q]
      exact R2_wc (tell_rule (r := 2) X T (by decide) k)
