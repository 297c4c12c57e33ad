/-- expressions: behind a unit -/
theorem M_is4 {c0 m0 c m : Hp} {K sd t : Nat} {kd pl : Nat → Nat} (X : CTX c0 m0 K kd pl sd) (P : PB c0 m0 K kd sd t c m) : fX12_is 8 m = some (b2 (decide (kd t = 5)), m) ∧ fX12_is 9 m = some (b2 (decide (kd t = 6)), m) ∧ fX12_is 10 m = some (b2 (decide (kd t = 7)), m) ∧ fX12_is 15 m = some (b2 (decide (kd t = 8)), m) := ⟨M_is X P (κ := 5) (by decide), M_is X P (κ := 6) (by decide), M_is X P (κ := 7) (by decide), M_is X P (κ := 8) (by decide)⟩
theorem ex_V {c0 m0 cS mS : Hp} {K sd cs cd t0 sl n : Nat} {kd pl : Nat → Nat} (X : CTX c0 m0 K kd pl sd) (n4 : n < 19000) (IU : exU c0 m0 K kd sd cs cd t0 sl cS mS n) (IV : exV c0 m0 K kd sd cs cd t0 sl cS mS n) : exV c0 m0 K kd sd cs cd t0 sl cS mS (n + 1) := by
  intro t st e i c m fc fm f12 E ht hc hd hi hn h1 h2 h3
  obtain ⟨gc, rfl⟩ : ∃ g, fc = g + 1 := ⟨fc - 1, by omega⟩
  obtain ⟨gm, rfl⟩ : ∃ g, fm = g + 1 := ⟨fm - 1, by omega⟩
  have P := E.1
  have t4 : t < 401 := by have := P.2.2.1; have := X.1.2.1; omega
  have s2 := X.2.2
  have r := tk_row X P P.2.2.1
  have k34 : kd t < 34 := by have := r.1; omega
  have E' := E
  obtain ⟨E1, ⟨E2, E3⟩, E4, E5, E6, E7, E8, E9, E10, E11, E12, E13, E14, E15⟩ := E'
  have l20 := okS_20 E2 E3
  have ol := (okS_len E2).2
  obtain ⟨c3, c2, _⟩ := clo_34 _ k34
  -- how close the sign binds
  obtain ⟨k, hk, hk2⟩ : ∃ k, (k = 1 ∨ k = 2) ∧ ((clo (kd t) = 0 ∧ k = 1) ∨ clo (kd t) = k) := by
    have : clo (kd t) = 0 ∨ clo (kd t) = 1 ∨ clo (kd t) = 2 := by omega
    rcases this with h | h | h
    · exact ⟨1, .inl rfl, .inl ⟨h, rfl⟩⟩
    · exact ⟨1, .inl rfl, .inr h⟩
    · exact ⟨2, .inr rfl, .inr h⟩
  have hk1 : 1 ≤ k := by omega
  have hkk : (if (1 : Int32) < nI (clo (kd t)) then nI (clo (kd t)) else 1) = nI k := by
    rcases hk2 with ⟨z, rfl⟩ | z
    · rw [z]; rfl
    · rw [z]; rcases hk with rfl | rfl <;> rfl
  obtain ⟨cc, ec, C⟩ := C_pop (r9 := lX5_expression_9 gc) (x2 := nI (nst st)) (x3 := 0) (x4 := nI i) (x5 := nI (kd t)) hk1 (by omega) st (cs + e.length) FU c E2 l20 (show st.length < 20000 by omega) E6 (by omega) E4
  obtain ⟨mm, em, M, AM⟩ := M_pop (sd := sd) hk st (420 * sd + cd + e.length) FU m E2 l20 (show st.length < 20000 by omega) E7 (by omega) E8 E5 (by omega) (by omega)
  have EP := EX_pop E hk1 C M AM
  obtain ⟨pp1, pp2, pp3, pp4⟩ := pop_p hk1 E2
  have dp : dep (e ++ popE k st) 0 = some (ops (popR k st) + 1) := by
    rw [dep_app, hd]
    exact dep_pop hk1 E2
  have le : (e ++ popE k st).length = e.length + (popE k st).length := List.length_append
  have l20' := okS_20 EP.2.1.1 EP.2.1.2
  rw [lX5_expression_9, lX12_expression_96]
  simp only [bX5_expression_9, bX5_expression_69, if_neg (show ¬ (400 : Int32) < nI i from nI_nlt (a := 400) (by omega) (by decide)), lt_q, ↓reduceIte, P.2.2.2.2.1, C_clo k34, bi_q, hkk, ec]
  unfold bX5_expression_179
  rw [C_clo k34, bi_q]
  obtain ⟨i8, i9, i10', i15⟩ := M_is4 X P
  unfold bX12_expression_96
  rw [show fX12_is 7 m = fX12_is (nI (kM 15)) m from rfl, M_is X P (by decide), bi_q]
  by_cases kc : clo (kd t) = 0
  · have kk1 : k = 1 := by
      rcases hk2 with ⟨_, z⟩ | z
      · exact z
      · omega
    subst kk1
    have n5 : ¬ kd t = 5 := fun z => by rw [z] at kc; exact absurd kc (by decide)
    have n6 : ¬ kd t = 6 := fun z => by rw [z] at kc; exact absurd kc (by decide)
    have n7 : ¬ kd t = 7 := fun z => by rw [z] at kc; exact absurd kc (by decide)
    have n8 : ¬ kd t = 8 := fun z => by rw [z] at kc; exact absurd kc (by decide)
    have em0 : fX12_comesOut 0 m = some mm := em
    rw [kc, if_pos (show nI 0 ≤ (0 : Int32) by decide)]
    unfold bX5_expression_209
    by_cases kz : kd t = 15 ∧ 0 < nst st
    · -- a bracket closes
      obtain ⟨k15, ns⟩ := kz
      obtain ⟨r', q1, q2, q3, q4⟩ := pop_14 E2 ns
      rw [q1] at EP
      have EC := EX_close EP
      rw [decide_eq_true k15, if_neg (show ¬ b2 true = 0 by decide), if_pos (show nI (kd t) = (15 : Int32) by rw [k15]; rfl), if_neg (show ¬ nI (nst st) ≤ (0 : Int32) from nI_nle ns (by omega)), q1, List.length_cons, if_neg (show ¬ nI (r'.length + 1) ≤ (0 : Int32) from nI_nle (by omega) (by rw [q1, List.length_cons] at l20'; omega)), E9, if_neg (show ¬ nI (nst st) ≤ (0 : Int32) from nI_nle ns (by omega)), em0, bv_q, lt_q, lt_q, EP.2.2.2.2.2.2.1, List.length_cons, nI_pred, lt_q, wI_j (show (12 : Nat) ≠ 53 by decide), EP.2.2.2.2.2.2.2.1, nst, if_pos rfl, nI_pred, lt_q, q3, show nI (nst r' + 1) + (-1) = nI (nst r') from by rw [← Int32.sub_eq_add_neg]; exact nI_pred _, show nI (r'.length + 1) + (-1) = nI r'.length from by rw [← Int32.sub_eq_add_neg]; exact nI_pred _]
      unfold bX5_expression_251
      obtain ⟨v, c1, m1, e1, e2, h⟩ := tk_goes2 X EC.1 rfl (by omega)
      rw [e1, e2, bi_q, bv_q]
      rw [q1] at dp
      rw [ops, if_pos rfl, Nat.add_zero] at dp
      have l20r := okS_20 EC.2.1.1 EC.2.1.2
      rcases h with ⟨rfl, b1, b2, b3, b4⟩ | ⟨rfl, ⟨f, p, g1, g2, g3, g4, g5⟩, b2⟩
      · rw [if_neg (by decide), lt_q, nI_1]
        exact IV (t + 1) r' (e ++ popE 1 st) (i + 1) c1 m1 gc gm f12 (EX_nx EC b2 b3 b4) (by omega) (by rw [le]; omega) dp (by omega) (by omega) (by omega) (by omega) (by omega)
      · rw [if_pos rfl, ck_of zb_0]
        refine R2_F g1 g2 g3 g4 rfl ?_
        obtain ⟨g, rfl⟩ : ∃ g, gm = g + 1 := ⟨gm - 1, by omega⟩
        have o' := (okS_len EC.2.1.1).2
        exact D_96 (b := 420 * sd + cd + (e ++ popE 1 st).length) g5 EC.2.1.1 l20r (by rw [b2.i 0 49 rfl]; exact EC.2.2.2.2.2.1) (by omega) (by rw [le]; omega) s2 (by rw [b2.i 0 53 rfl]; exact EC.2.2.2.2.2.2.1) (skM_w EC.2.2.2.1 fun j _ => b2.i 37 j rfl) g 0
    · -- the end
      have mend : bX12_expression_145 (lX12_expression_12 f12) 0 m = (if m.1 0 12 ≤ 0 then bX12_expression_204 m else bv (fX12_fail 1 m) (fun h6 => bX12_expression_204 h6)) := by
        unfold bX12_expression_145 bX12_expression_186
        rw [i8, decide_eq_false n5, bi_q, if_pos (show b2 false = 0 from rfl), i9, decide_eq_false n6, bi_q, if_pos (show b2 false = 0 from rfl), i10', decide_eq_false n7, bi_q, if_pos (show b2 false = 0 from rfl), i15, decide_eq_false n8, bi_q, if_pos (show b2 false = 0 from rfl), lt_q, if_pos rfl]
      have cend : (if nI (kd t) = (15 : Int32) then (if nI (nst st) ≤ (0 : Int32) then bX5_expression_233 (nI (nst st)) cc else (if nI (popR 1 st).length ≤ (0 : Int32) then bX5_expression_233 (nI (nst st)) cc else lt (nI (nst st) + (-1)) (fun v1 => lt (nI (popR 1 st).length + (-1)) (fun v2 => bX5_expression_251 (lX5_expression_9 gc) v2 v1 0 (nI i) (nI (kd t)) cc)))) else bX5_expression_233 (nI (nst st)) cc) = bX5_expression_233 (nI (nst st)) cc := by
        by_cases k15 : kd t = 15
        · have n0 : nst st = 0 := by
            rcases Nat.eq_zero_or_pos (nst st) with h | h
            · exact h
            · exact absurd ⟨k15, h⟩ kz
          rw [if_pos (show nI (kd t) = (15 : Int32) by rw [k15]; rfl), n0, if_pos (show nI 0 ≤ (0 : Int32) by decide)]
        · rw [if_neg (show ¬ nI (kd t) = (15 : Int32) from fun z => k15 (nI_inj (b := 15) (by omega) (by decide) z))]
      have mm96 : (if b2 (decide (kd t = 15)) = 0 then bX12_expression_145 (lX12_expression_12 f12) 0 m else (if m.1 0 12 ≤ 0 then bX12_expression_145 (lX12_expression_12 f12) 0 m else bv (fX12_comesOut 0 m) (fun h3 => lt (wI h3 0 53 (h3.1 0 53 - 1)) (fun h4 => lt (wI h4 0 12 (h4.1 0 12 - 1)) (fun h5 => bv (fX12_goesOn h5) (fun h6 => lX12_expression_96 (lX12_expression_12 f12) gm 0 h6)))))) = bX12_expression_145 (lX12_expression_12 f12) 0 m := by
        by_cases k15 : kd t = 15
        · have n0 : nst st = 0 := by
            rcases Nat.eq_zero_or_pos (nst st) with h | h
            · exact h
            · exact absurd ⟨k15, h⟩ kz
          rw [decide_eq_true k15, if_neg (show ¬ b2 true = 0 by decide), E9, n0, if_pos (show nI 0 ≤ (0 : Int32) by decide)]
        · rw [decide_eq_false k15, if_pos (show b2 false = 0 from rfl)]
      rw [cend, mm96, mend, E9]
      unfold bX5_expression_233 bX12_expression_204
      by_cases n0 : nst st = 0
      · rw [n0, if_pos (show nI 0 = (0 : Int32) from rfl), ck_of zb_1, if_pos (show nI 0 ≤ (0 : Int32) by decide), em0, bv_q]
        have pe := pop_1 E2 n0
        rw [pe] at EP dp
        refine ⟨1, cc, mm, rfl, rfl, .inl ⟨rfl, t, e ++ popE 1 st, EP, ?_, dp, ht⟩⟩
        rw [pe] at pp3
        have : ops [] = 0 := rfl
        rw [le]; omega
      · rw [if_neg (show ¬ nI (nst st) = (0 : Int32) from nI_ne0 (by omega) (by omega)), if_neg (show ¬ nI (nst st) ≤ (0 : Int32) from nI_nle (by omega) (by omega))]
        -- the class stops where it is, and so does the model
        obtain ⟨c1, m1, e1, e2, ⟨f, p, g1, g2, g3, g4, g5⟩, e4⟩ := st_both X (PB_w P (m1 := m) C.1 rfl rfl .refl ⟨rfl, rfl, rfl, rfl⟩) (f := 1) (.inl rfl)
        rw [show (1 : Int32) = nI 1 from rfl, e1, e2, bi_q, if_pos rfl, ck_of zb_0, bv_q, bv_id]
        refine R2_F g1 g2 g3 g4 rfl ?_
        exact D_pop (b := 420 * sd + cd + e.length) g5 E2 l20 (by rw [e4.i 0 49 rfl]; exact E7) (by omega) (by omega) s2 (by rw [e4.i 0 53 rfl]; exact E8) (skM_w E5 fun j _ => e4.i 37 j rfl)
  · -- a sign that joins
    have ck' : clo (kd t) = k := by
      rcases hk2 with ⟨z, _⟩ | z
      · exact absurd z kc
      · exact z
    have kb := c3 (by omega)
    have n14 : ¬ kd t = 14 := by omega
    have n15 : ¬ kd t = 15 := by omega
    rw [if_neg (show ¬ nI (clo (kd t)) ≤ (0 : Int32) from nI_nle (by omega) (by omega)), if_neg (show ¬ (64 : Int32) ≤ nI (popR k st).length from nI_ge (b := 64) (by omega) (by decide)), ck_of (nI_inb (show (popR k st).length < 64 by omega) (by decide)), nI_ix (by omega), lt_q, nI_1, lt_q, lt_q, decide_eq_false n15, if_pos (show b2 false = 0 from rfl)]
    have okp : okS (kd t :: popR k st) = true := by
      rw [okS, EP.2.1.1, Bool.true_and, Bool.or_eq_true, decide_eq_true_iff, decide_eq_true_iff]
      exact .inr ⟨kb.1, kb.2, by rw [ck']; exact pp4⟩
    have EU := EX_push EP okp n14
    have m34 : bX12_expression_145 (lX12_expression_12 f12) 0 m = bv (fX12_goesOn (wI (wI mm 37 (popR k st).length (nI (kM (kd t)))) 0 53 (nI ((popR k st).length + 1)))) (fun h4 => lX12_expression_12 f12 0 1 h4) := by
      have fin : ∀ s0 : Int32, s0 = b2 (decide (k = 2)) → bX12_expression_234 (lX12_expression_12 f12) 0 1 s0 m = bv (fX12_goesOn (wI (wI mm 37 (popR k st).length (nI (kM (kd t)))) 0 53 (nI ((popR k st).length + 1)))) (fun h4 => lX12_expression_12 f12 0 1 h4) := fun s0 hs0 => by
        subst hs0
        unfold bX12_expression_234 fX12_comesOut
        have r3 := (tk_row X EP.1 EP.1.2.2.1).2.2.2.1
        rw [em, bv_q, EP.1.2.2.2.2.2.1, ck_of (nI_inb (show t < 403 by omega) (by decide)), nI_ix (by omega), EP.2.2.2.2.2.2.1, ck_of (nI_inb (show (popR k st).length < 64 by omega) (by decide)), nI_ix (by omega), r3, lt_q, wI_k (show (0 : Nat) ≠ 37 by decide), EP.2.2.2.2.2.2.1, nI_1, lt_q]
      unfold bX12_expression_145 bX12_expression_181 bX12_expression_186 bX12_expression_229
      simp only [i8, i9, i10', i15, bi_q, b2_0, lt_q, i10, ↓reduceIte]
      have cases4 : kd t = 5 ∨ kd t = 6 ∨ kd t = 7 ∨ kd t = 8 := by omega
      rcases cases4 with z | z | z | z
      · rw [z] at ck' ⊢
        have : k = 1 := ck'.symm
        subst this
        simp only [z] at fin
        exact fin 0 rfl
      · rw [z] at ck' ⊢
        have : k = 1 := ck'.symm
        subst this
        simp only [z] at fin
        exact fin 0 rfl
      · rw [z] at ck' ⊢
        have : k = 2 := ck'.symm
        subst this
        simp only [z] at fin
        exact fin 1 rfl
      · rw [z] at ck' ⊢
        have : k = 2 := ck'.symm
        subst this
        simp only [z] at fin
        exact fin 1 rfl
    rw [m34]
    unfold bX5_expression_251
    obtain ⟨v, c1, m1, e1, e2, h⟩ := tk_goes2 X EU.1 rfl (by omega)
    rw [e1, e2, bi_q, bv_q]
    obtain ⟨g, rfl⟩ : ∃ g, f12 = g + 1 := ⟨f12 - 1, by omega⟩
    rcases h with ⟨rfl, b1, b2, b3, b4⟩ | ⟨rfl, ⟨f, p, g1, g2, g3, g4, g5⟩, b2⟩
    · rw [if_neg (by decide), lt_q, nI_1, lX12_expression_12]
      unfold bX12_expression_12
      rw [if_neg (by decide), if_pos b2.2.2.2.2.2.2.1]
      have EN := EX_nx EU b2 b3 b4
      have := IU (t + 1) (kd t :: popR k st) (e ++ popE k st) (i + 1) c1 m1 gc FU g EN (by omega) (by rw [le, ops, if_neg n14]; omega) (by rw [ops, if_neg n14]; exact dp) (by omega) (by omega) (by omega) (show n < 20000 by omega) (by omega)
      rw [List.length_cons, nst, if_neg n14, pp2] at this
      exact this
    · rw [if_pos rfl, ck_of zb_0]
      refine R2_F g1 g2 g3 g4 rfl ?_
      rw [D_12 g5, ok_some]
      exact g5
