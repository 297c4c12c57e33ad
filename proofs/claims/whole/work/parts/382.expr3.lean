/-- expressions: a unit comes -/
theorem R2_F {c0 m0 c1 : Hp} {sd : Nat} {oc : Option (Int32 × Hp)} {om : Option Hp} {S : Hp → Hp → Prop} {f p : Nat} (hp : p ≤ 2000) (g1 : Agr PWc c0 c1) (g2 : c1.1 142 8 = nI f) (g3 : c1.1 142 9 = nI p) (ec : oc = some (0, c1)) (em : Ok om (FM m0 sd f p)) : R2 c0 m0 sd oc om S := by
  obtain ⟨m2, e, F⟩ := em
  exact ⟨0, c1, m2, ec, e, .inr ⟨rfl, f, p, hp, g1, g2, g3, F⟩⟩
def exU (c0 m0 : Hp) (K : Nat) (kd : Nat → Nat) (sd cs cd t0 sl : Nat) (cS mS : Hp) (n : Nat) : Prop := ∀ t st e i c m fc fm f12, EX c0 m0 K kd sd cs cd t st e cS mS c m → t0 ≤ t → cs + sl + e.length + ops st + 1 ≤ t → dep e 0 = some (ops st) → i ≤ t → 401 - t ≤ n → n < fc → n < fm → n < f12 → R2 c0 m0 sd (lX5_expression_9 fc (nI st.length) (nI (nst st)) 1 (nI i) c) (lX12_expression_23 (lX12_expression_12 f12) fm 0 m) (exS c0 m0 K kd sd cs cd t0 sl cS mS)
def exV (c0 m0 : Hp) (K : Nat) (kd : Nat → Nat) (sd cs cd t0 sl : Nat) (cS mS : Hp) (n : Nat) : Prop := ∀ t st e i c m fc fm f12, EX c0 m0 K kd sd cs cd t st e cS mS c m → t0 < t → cs + sl + e.length + ops st + 1 ≤ t → dep e 0 = some (ops st + 1) → i ≤ t → 401 - t ≤ n → n < fc → n < fm → n < f12 → R2 c0 m0 sd (lX5_expression_9 fc (nI st.length) (nI (nst st)) 0 (nI i) c) (lX12_expression_96 (lX12_expression_12 f12) fm 0 m) (exS c0 m0 K kd sd cs cd t0 sl cS mS)
theorem ex_U {c0 m0 cS mS : Hp} {K sd cs cd t0 sl n : Nat} {kd pl : Nat → Nat} (X : CTX c0 m0 K kd pl sd) (n4 : n < 19000) (IU : exU c0 m0 K kd sd cs cd t0 sl cS mS n) (IV : exV c0 m0 K kd sd cs cd t0 sl cS mS n) : exU c0 m0 K kd sd cs cd t0 sl cS mS (n + 1) := by
  intro t st e i c m fc fm f12 E ht hc hd hi hn h1 h2 h3
  obtain ⟨gc, rfl⟩ : ∃ g, fc = g + 1 := ⟨fc - 1, by omega⟩
  obtain ⟨gm, rfl⟩ : ∃ g, fm = g + 1 := ⟨fm - 1, by omega⟩
  have P := E.1
  have t4 : t < 401 := by have := P.2.2.1; have := X.1.2.1; omega
  have s2 := X.2.2
  have r := tk_row X P P.2.2.1
  have k34 : kd t < 34 := by have := r.1; omega
  have E' := E
  obtain ⟨E1, ⟨E2, E3⟩, E4, E5, E6, E7, E8, E9, E10, E11, E12, E13, E14, E15⟩ := E'
  have l20 := okS_20 E2 E3
  have ol := (okS_len E2).2
  rw [lX5_expression_9, lX12_expression_23]
  simp only [bX5_expression_9, if_neg (show ¬ (400 : Int32) < nI i from nI_nlt (a := 400) (by omega) (by decide)), lt_q, i10, ↓reduceIte, P.2.2.2.2.1]
  unfold bX12_expression_23
  rw [show fX12_is 6 m = fX12_is (nI (kM 14)) m from rfl, M_is X P (by decide), bi_q]
  by_cases k14 : kd t = 14
  · rw [decide_eq_true k14, if_neg (show ¬ b2 true = 0 by decide), k14, if_pos (show nI 14 = (14 : Int32) from rfl), E9]
    by_cases n6 : nst st = 6
    · obtain ⟨c1, m1, e1, e2, ⟨f, p, g1, g2, g3, g4, g5⟩, e4⟩ := st_both X P (f := 2) (.inr rfl)
      rw [n6, if_pos (show (6 : Int32) ≤ nI 6 by decide), if_pos (show nI 6 = (6 : Int32) from rfl)]
      unfold bX5_expression_46
      rw [show (2 : Int32) = nI 2 from rfl, e1, bi_q, ck_of zb_0, e2, bv_q]
      refine R2_F g1 g2 g3 g4 rfl ?_
      unfold bX12_expression_46
      rw [lt_q, ok_bv]
      have F1 : FM m0 sd f p (wI m1 0 12 (m1.1 0 12 + 1)) := FM_w g5 (AgrM.refl.wI (pw_0 rfl)) ⟨wI_j (by decide), wI_j (by decide), wI_j (by decide)⟩
      have h53 : (wI m1 0 12 (m1.1 0 12 + 1)).1 0 53 = nI st.length := by rw [wI_j (by decide), e4.i 0 53 rfl]; exact E8
      have dg : Ok (fX12_goesOn (wI m1 0 12 (m1.1 0 12 + 1))) (fun h => FM m0 sd f p h ∧ h.1 0 53 = nI st.length) := by
        obtain ⟨h', eh, Fh⟩ := D_goesOn F1
        refine ⟨h', eh, Fh, ?_⟩
        unfold fX12_goesOn at eh
        rw [D_fail F1, bv_q, lt_q] at eh
        by_cases c : (wI m1 0 12 (m1.1 0 12 + 1)).1 0 11 = 400
        · rw [if_pos c] at eh; rw [← Option.some.inj eh]; exact h53
        · rw [if_neg c] at eh; rw [← Option.some.inj eh, wI_j (by decide)]; exact h53
      refine dg.mono ?_
      rintro h' ⟨Fh, q53⟩
      rw [q53, ck_of (nI_inb (show st.length < 64 by omega) (by decide)), lt_q, lt_q]
      have F2 := FM_w Fh (m1 := wI (wI h' 37 (ix (nI st.length)) 6) 0 53 ((wI h' 37 (ix (nI st.length)) 6).1 0 53 + 1)) ((AgrM.refl.wI (pw_0 rfl)).wI (pw_0 rfl)) ⟨by rw [wI_j (by decide), wI_k (by decide)], by rw [wI_j (by decide), wI_k (by decide)], by rw [wI_j (by decide), wI_k (by decide)]⟩
      obtain ⟨g, rfl⟩ : ∃ g, gm = g + 1 := ⟨gm - 1, by omega⟩
      rw [D_23 F2, ok_some]
      exact F2
    · have n5 : nst st < 6 := by omega
      rw [if_neg (show ¬ (6 : Int32) ≤ nI (nst st) from nI_ge (b := 6) n5 (by decide)), if_pos (show nI st.length < (64 : Int32) from nI_lt (b := 64) (by omega) (by decide)), if_neg (show ¬ nI (nst st) = (6 : Int32) from fun z => by have := nI_inj (b := 6) (by omega) (by decide) z; omega), ck_of (nI_inb (show st.length < 64 by omega) (by decide)), nI_ix (by omega), nI_1, nI_1]
      unfold bX12_expression_46 bX5_expression_251
      rw [E9, nI_1 (nst st), lt_q, show (14 : Int32) = nI 14 from rfl]
      have P' : PB c0 m0 K kd sd t (wI c 146 st.length (nI 14)) (wI m 0 12 (nI (nst st + 1))) := PB_w P (W := [(146, none)]) (Agr.refl.wI rfl) rfl rfl (AgrM.refl.wI (pw_0 rfl)) ⟨wI_j (by decide), wI_j (by decide), wI_j (by decide), wI_j (by decide)⟩
      obtain ⟨v, c1, m1, e1, e2, h⟩ := tk_goes2 X P' k14 (by decide)
      rw [e1, e2, bi_q, bv_q]
      have q53 : m1.1 0 53 = nI st.length := by
        rcases h with ⟨_, _, _, _, a⟩ | ⟨_, _, a⟩
        · rw [a.i 0 53 rfl, wI_j (by decide)]; exact E8
        · rw [a.i 0 53 rfl, wI_j (by decide)]; exact E8
      simp only [q53, ck_of (nI_inb (show st.length < 64 by omega) (by decide)), nI_ix (show st.length < 2 ^ 31 by omega), lt_q, wI_k (show (0 : Nat) ≠ 37 by decide), nI_1]
      rcases h with ⟨rfl, a1, a2, a3, a4⟩ | ⟨rfl, ⟨f, p, g1, g2, g3, g4, g5⟩, a2⟩
      · rw [if_neg (by decide)]
        have EE := EX_open E n5 a2 a3 a4
        have := IU (t + 1) (14 :: st) e (i + 1) c1 _ gc gm f12 EE (by omega) (by rw [ops, if_pos rfl]; omega) (by rw [ops, if_pos rfl]; exact hd) (by omega) (by omega) (by omega) (by omega) (by omega)
        rw [List.length_cons, nst, if_pos rfl] at this
        exact this
      · rw [if_pos rfl, ck_of zb_0]
        refine R2_F g1 g2 g3 g4 rfl ?_
        have F2 := FM_w g5 (m1 := wI (wI m1 37 st.length 6) 0 53 (nI (st.length + 1))) ((AgrM.refl.wI (pw_0 rfl)).wI (pw_0 rfl)) ⟨by rw [wI_j (by decide), wI_k (by decide)], by rw [wI_j (by decide), wI_k (by decide)], by rw [wI_j (by decide), wI_k (by decide)]⟩
        obtain ⟨g, rfl⟩ : ∃ g, gm = g + 1 := ⟨gm - 1, by omega⟩
        rw [D_23 F2, ok_some]
        exact F2
  · rw [decide_eq_false k14, if_pos (show b2 false = 0 from rfl), if_neg (show ¬ nI (kd t) = (14 : Int32) from fun z => k14 (nI_inj (b := 14) (by omega) (by decide) z))]
    unfold bX5_expression_69 fX12_unit
    rw [if_neg (by decide), show fX12_is 2 m = fX12_is (nI (kM 3)) m from rfl, M_is X P (by decide), bi_q]
    -- a unit u, read by both
    have unit : ∀ u : Nat × Nat, u.2 < 2 ^ 20 → (ex2w u).1 = kd t → u.1 < 2 → (u.1 = 1 → u.2 < 4) → 2 ≤ kd t → ∀ s0 : Int32, s0 = nI (ex2w u).2 → ∀ a1 a2 : Int32, a1 = nI u.1 → a2 = nI u.2 → R2 c0 m0 sd (bX5_expression_123 (lX5_expression_9 gc) (nI st.length) (nI (nst st)) (nI i) (nI (kd t)) s0 (nI (kd t)) c) (bv (bv (fX12_emit a1 a2 m) (fun h5 => bv (fX12_goesOn h5) (fun h6 => some h6))) (fun h3 => if h3.1 0 13 ≤ 0 then lX12_expression_96 (lX12_expression_12 f12) FU 0 h3 else some h3)) (exS c0 m0 K kd sd cs cd t0 sl cS mS) := by
      intro u hu hw u2 u4 k2 s0 hs0 a1 a2 ha1 ha2
      subst hs0; subst ha1; subst ha2
      obtain ⟨c1, m1, e1, e2, EE⟩ := EX_unit X E (by omega) u hu (by omega)
      unfold bX5_expression_123 bX5_expression_251
      rw [← hw, e1, e2, bv_q, bv_q, lt_q, bv_id, hw]
      obtain ⟨v, c2, m2, d1, d2, h⟩ := tk_goes2 X EE.1 rfl k2
      rw [d1, d2, bi_q, bv_q]
      rcases h with ⟨rfl, b1, b2, b3, b4⟩ | ⟨rfl, ⟨f, p, g1, g2, g3, g4, g5⟩, b2⟩
      · rw [if_neg (by decide), lt_q, nI_1, if_pos (show m2.1 0 13 ≤ 0 by rw [b2.2.2.2.2.2.2.1]; decide)]
        have E2' := EX_nx EE b2 b3 b4
        refine IV (t + 1) st (e ++ [u]) (i + 1) c2 m2 gc FU f12 E2' (by omega) ?_ ?_ (by omega) (by omega) (by omega) (show n < 20000 by omega) (by omega)
        · rw [List.length_append]; show cs + sl + (e.length + 1) + ops st + 1 ≤ t + 1; omega
        · rw [dep_app, hd]
          show dep [u] (ops st) = _
          rw [dep, if_pos u2, if_pos ⟨by omega, u4⟩]; rfl
      · rw [if_pos rfl, ck_of zb_0, if_neg (FM_13 g5).2.1]
        exact R2_F g1 g2 g3 g4 rfl (ok_some.mpr g5)
    by_cases k3 : kd t = 3
    · obtain ⟨v, v1, v2, v3⟩ := r.2.2.2.2.2.2.1 k3
      rw [decide_eq_true k3, if_neg (show ¬ b2 true = 0 by decide), if_pos (show nI (kd t) = (3 : Int32) by rw [k3]; rfl)]
      unfold bX5_expression_97
      rw [if_pos (show nI (kd t) = (3 : Int32) by rw [k3]; rfl), P.2.2.2.1, ck_of (nI_inb t4 (by decide)), nI_ix (by omega), v2, lN_i, P.2.2.2.2.2.1, ck_of (nI_inb (show t < 403 by omega) (by decide)), nI_ix (by omega), v3]
      exact unit (0, v) (by show v < 2 ^ 20; omega) (by rw [k3]; rfl) (by show 0 < 2; decide) (fun z => absurd z (by show ¬ 0 = 1; decide)) (by omega) _ rfl _ _ rfl rfl
    · rw [decide_eq_false k3, if_pos (show b2 false = 0 from rfl), if_neg (show ¬ nI (kd t) = (3 : Int32) from fun z => k3 (nI_inj (b := 3) (by omega) (by decide) z)), C_within, bi_q, if_pos P.2.2.2.2.2.2.1, P.2.2.2.2.2.1, ck_of (nI_inb (show t < 403 by omega) (by decide)), nI_ix (by omega), r.2.2.2.1]
      have kv : ∀ x, x < 34 → (30 ≤ x → kM x = x + 4) ∧ (x < 30 → kM x < 34) := by decide +kernel
      by_cases kk : 30 ≤ kd t
      · have kx := (kv _ k34).1 kk
        rw [show rng (nI (kd t)) 30 33 = true from (rng_c (a := 30) (n := 33) (by decide) (by decide)).mpr ⟨kd t, kk, by omega, rfl⟩, if_neg (show ¬ b2 true = 0 by decide), kx, if_neg (show ¬ nI (kd t + 4) < (34 : Int32) from nI_nlt (b := 34) (by omega) (by omega)), if_neg (show ¬ (37 : Int32) < nI (kd t + 4) from nI_nlt (a := 37) (by omega) (by decide)), show nI (kd t + 4) - 34 = nI (kd t + 4 - 34) from pk_sub (b := 34) (by omega), ck_of (nI_inb (show t < 403 by omega) (by decide)), ck_of (nI_inb (show t < 403 by omega) (by decide))]
        unfold bX5_expression_97
        rw [if_neg (show ¬ nI (kd t) = (3 : Int32) from fun z => k3 (nI_inj (b := 3) (by omega) (by decide) z))]
        refine unit (1, kd t - 30) (by show kd t - 30 < 2 ^ 20; omega) ?_ (by show 1 < 2; decide) (fun _ => by show kd t - 30 < 4; omega) (by omega) _ rfl _ _ rfl (by show nI (kd t + 4 - 34) = nI (kd t - 30); congr 1)
        show (30 + (kd t - 30)) = kd t
        omega
      · have kx := (kv _ k34).2 (by omega)
        obtain ⟨c1, m1, e1, e2, ⟨f, p, g1, g2, g3, g4, g5⟩, e4⟩ := st_both X P (f := 1) (.inl rfl)
        rw [show rng (nI (kd t)) 30 33 = false from Bool.eq_false_iff.mpr (fun z => by
          obtain ⟨j, j1, j2, j3⟩ := (rng_c (a := 30) (n := 33) (by decide) (by decide)).mp z
          have := nI_inj (by omega) (by omega) j3
          omega), if_pos (show b2 false = 0 from rfl), if_pos (show nI (kM (kd t)) < (34 : Int32) from nI_lt (b := 34) kx (by decide))]
        unfold bX12_unit_88
        rw [show (1 : Int32) = nI 1 from rfl, e1, e2, bi_q, ck_of zb_0, bv_q, bv_q, if_neg (FM_13 g5).2.1]
        exact R2_F g1 g2 g3 g4 rfl (ok_some.mpr g5)
