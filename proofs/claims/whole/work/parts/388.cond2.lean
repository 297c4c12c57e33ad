/-- conditions, both -/
def lsT (K : Nat) (kd : Nat → Nat) (sd np cd : Nat) (U : Prop) (m : Hp) (a : Nat) (ls : List Lit) : Prop := ∀ i (h : i < ls.length), ltT K kd sd np cd U m (a + i) ls[i]
theorem lsT_s {K sd np cd a : Nat} {kd : Nat → Nat} {U : Prop} {m : Hp} {ls : List Lit} {y : Lit} (h : lsT K kd sd np cd U m a ls) (hy : ltT K kd sd np cd U m (a + ls.length) y) : lsT K kd sd np cd U m a (ls ++ [y]) := fun i hi => by
  rw [List.length_append] at hi
  by_cases e : i < ls.length
  · rw [List.getElem_append_left e]; exact h i e
  · have : i = ls.length := by simp at hi; omega
    subst this
    simp only [List.getElem_append_right (Nat.le_refl _), Nat.sub_self, List.getElem_cons_zero]
    exact hy
theorem ltT_f {K sd np np' cd cd' ln i : Nat} {kd : Nat → Nat} {U U' : Prop} {m m1 : Hp} {x : Lit} (h : ltT K kd sd np cd U m i x) (f : frM sd cd ln m m1) (hi : i < 150 * sd + ln) (hc : cd ≤ cd') (hu : U' → U) (hn : np ≤ np') : ltT K kd sd np' cd' U' m1 i x := by
  obtain ⟨h1, h2, h3, h4, h5⟩ := h
  obtain ⟨f1, f2, f3⟩ := f
  obtain ⟨g1, g2, g3, g4, g5, g6⟩ := f3 i hi
  refine ⟨h1, by rw [g1]; exact h2, by rw [g2]; exact h3, by rw [g3]; exact h4, ?_⟩
  by_cases c4 : x.1.1 = 4
  · rw [if_pos c4] at h5 ⊢
    intro u
    obtain ⟨h6, h7⟩ := h5 (hu u)
    exact ⟨by rw [g4]; exact h6, by omega⟩
  · rw [if_neg c4] at h5 ⊢
    by_cases c5 : x.1.1 = 5
    · rw [if_pos c5] at h5 ⊢
      rw [g4]; exact h5
    · rw [if_neg c5] at h5 ⊢
      obtain ⟨a, a1, a2, a3, a4, a5, a6, a7⟩ := h5
      exact ⟨a, a1, by rw [g4]; exact a2, by rw [g5]; exact a3, by rw [g6]; exact a4, by omega, cdM_w a6 fun j hj => f2 j (by omega), cdM_w a7 fun j hj => f2 j (by omega)⟩
theorem lsT_f {K sd np np' cd cd' ln a : Nat} {kd : Nat → Nat} {U U' : Prop} {m m1 : Hp} {ls : List Lit} (h : lsT K kd sd np cd U m a ls) (f : frM sd cd ln m m1) (hi : a + ls.length ≤ 150 * sd + ln) (hc : cd ≤ cd') (hu : U' → U) (hn : np ≤ np') : lsT K kd sd np' cd' U' m1 a ls := fun i hh => ltT_f (h i hh) f (by omega) hc hu hn
def condSt (c0 m0 : Hp) (K : Nat) (kd : Nat → Nat) (sd np cs cd ln t : Nat) (x : Lit) (r : List Lit) (V : Cd) (pend : Nat) (cS mS c m : Hp) : Prop := ∃ cd1, LSt c0 m0 K kd sd t (cs + V.length) cd1 (ln + 1 + r.length) c m ∧ cs + V.length + pend + 1 ≤ t ∧ 3 * (ln + 1 + r.length) ≤ t ∧ cd ≤ cd1 ∧ (∀ y, y ∈ x :: r → okL y ∧ y.1.2.2.2 < 401) ∧ x.1.2.2.1 = true ∧ cwG c cs V ∧ ((c.1 142 8 = 0 → cS.1 142 8 = 0) ∧ lsT K kd sd np cd1 (c.1 142 8 = 0) m (150 * sd + ln) (x :: r)) ∧ frC cs cS c ∧ frM sd cd ln mS m
def M_after (f8 : Nat) (m : Hp) : Option Hp := bi (fX12_is 29 m) (fun w3 h2 => lt w3 (fun v4 => if v4 = 0 then bi (fX12_is 30 h2) (fun w6 h5 => if w6 = 0 then bX12_condition_49 (lX12_condition_8 f8) v4 0 h5 else bX12_condition_44 (lX12_condition_8 f8) v4 h5) else bX12_condition_44 (lX12_condition_8 f8) v4 h2))
theorem D_cond8 {m0 m : Hp} {sd f p : Nat} (F : FM m0 sd f p m) (g : Nat) (a b : Int32) : lX12_condition_8 (g + 1) a b m = some m := by
  rw [lX12_condition_8]
  unfold bX12_condition_8
  rw [if_neg (FM_13 F).1, ite_self]
theorem D_after {m0 m : Hp} {sd f p : Nat} (F : FM m0 sd f p m) (g : Nat) : M_after (g + 1) m = some m := by
  unfold M_after bX12_condition_49
  rw [D_is F, bi_q, lt_q, if_pos rfl, D_is F, bi_q, if_pos rfl, lt_q, if_pos rfl]
  exact D_cond8 F g _ _
theorem M_cond8 {m : Hp} (h13 : m.1 0 13 = 0) (g : Nat) (o : Bool) : lX12_condition_8 (g + 1) (b2 o) 1 m = bv (fX12_literal (b2 o) m) (fun h => M_after g h) := by
  rw [lX12_condition_8]
  unfold bX12_condition_8
  rw [if_neg (by decide), if_pos h13]
  rfl
/-- one more literal -/
theorem cond_more {c0 m0 cS mS c m : Hp} {K sd np nc nl cs cd ln t : Nat} {kd pl : Nat → Nat} {x : Lit} {r : List Lit} {V : Cd} {pend : Nat} {o : Bool} {kc : Hp → Option (Int32 × Hp)} {g : Nat} {S : Hp → Hp → Prop} (X : CTX c0 m0 K kd pl sd) (h24 : np + nc + nl ≤ 24) (hnp : np ≤ 10) (N : NmR np nc nl cS mS) (q6 : cS.1 125 6 = nI np) (H : ∃ cd1, LSt c0 m0 K kd sd t (cs + V.length) cd1 (ln + 1 + r.length) c m ∧ cs + V.length + pend + 1 ≤ t ∧ 3 * (ln + 1 + r.length) + 1 ≤ t ∧ cd ≤ cd1 ∧ (∀ y, y ∈ x :: r → okL y ∧ y.1.2.2.2 < 401) ∧ x.1.2.2.1 = true ∧ cwG c cs V ∧ ((c.1 142 8 = 0 → cS.1 142 8 = 0) ∧ lsT K kd sd np cd1 (c.1 142 8 = 0) m (150 * sd + ln) (x :: r)) ∧ frC cs cS c ∧ frM sd cd ln mS m)
    (K' : ∀ t1 y c1 m1, y.1.2.2.1 = o → condSt c0 m0 K kd sd np cs cd ln t1 x (r ++ [y]) (V ++ litW y) pend cS mS c1 m1 → t < t1 → R2 c0 m0 sd (kc c1) (M_after (g + 1) m1) S) :
    R2 c0 m0 sd (bi (fX5_literal c) (fun w h => if w = 0 then ck (zb 0) (some (0, h)) else kc h)) (bv (fX12_literal (b2 o) m) (fun h => M_after (g + 1) h)) S := by
  obtain ⟨cd1, H1, H2, H3, H4, H5, H6, H7, H8, H9, H10⟩ := H
  refine R2_seq (literal_both (sl := pend) (o := o) X h24 hnp H1 H2 H3 (NmR_f N H9 H10) (by rw [H9.1.i 125 6 rfl]; exact q6)) ?_ ?_
  · rintro c1 m1 ⟨t1, y, cd2, B1, B2, B3, B4, B5, B6, B7, B8, B9, B10, B11⟩
    refine K' t1 y c1 m1 B6 ⟨cd2, ?_, ?_, ?_, by omega, ?_, H6, ?_, ?_, H9.trans B10 (by omega), H10.trans B11 H4 (by omega)⟩ (by omega)
    · rw [List.length_append, List.length_append, ← Nat.add_assoc]
      exact B1
    · rw [List.length_append]; omega
    · rw [List.length_append]; show 3 * (ln + 1 + (r.length + 1)) ≤ t1; omega
    · intro z hz
      rw [← List.cons_append, List.mem_append, List.mem_singleton] at hz
      rcases hz with hz | rfl
      · exact H5 z hz
      · exact ⟨B5, B7⟩
    · exact cwG_app (cwG_w H7 fun j hj => B10.2 j (by omega)) B8
    · refine ⟨fun z => H8.1 (B9.1 z), ?_⟩
      rw [← List.cons_append]
      refine lsT_s (lsT_f H8.2 B11 (by rw [List.length_cons]; omega) B4 B9.1 (Nat.le_refl _)) ?_
      rw [List.length_cons, show 150 * sd + ln + (r.length + 1) = 150 * sd + (ln + 1 + r.length) by omega]
      exact B9.2
  · intro f p m1 F
    rw [D_after F, ok_some]
    exact F
def condOk (t0 : Nat) (c0 m0 : Hp) (K : Nat) (kd : Nat → Nat) (sd np cs cd ln : Nat) (cS mS c1 m1 : Hp) : Prop := ∃ t1 x r, t0 < t1 ∧ condSt c0 m0 K kd sd np cs cd ln t1 x r (litW x ++ cndW r false) 0 cS mS c1 m1
theorem cond_loop {c0 m0 cS mS : Hp} {t0 K sd np nc nl cs cd ln : Nat} {kd pl : Nat → Nat} {x : Lit} (X : CTX c0 m0 K kd pl sd) (h24 : np + nc + nl ≤ 24) (hnp : np ≤ 10) (N : NmR np nc nl cS mS) (q6 : cS.1 125 6 = nI np) : ∀ (n t i : Nat) (r : List Lit) (c m : Hp) (fc f8 : Nat), 401 - t ≤ n → t0 < t → condSt c0 m0 K kd sd np cs cd ln t x r (litW x ++ cndP r false) (if cndO r false = true then 1 else 0) cS mS c m → i ≤ t → n < fc → n < f8 → R2 c0 m0 sd (lX5_condition_13 fc (b2 (cndO r false)) (nI i) c) (M_after f8 m) (condOk t0 c0 m0 K kd sd np cs cd ln cS mS) := by
  intro n
  induction n with
  | zero =>
    intro t i r c m fc f8 hn _ ⟨_, L, _⟩
    have := L.1.2.2.1; have := X.1.2.1; omega
  | succ n ih =>
    intro t i r c m fc f8 hn h0 H hi h1 h2
    obtain ⟨gc, rfl⟩ : ∃ g, fc = g + 1 := ⟨fc - 1, by omega⟩
    obtain ⟨g8, rfl⟩ : ∃ g, f8 = g + 1 := ⟨f8 - 1, by omega⟩
    obtain ⟨g9, rfl⟩ : ∃ g, g8 = g + 1 := ⟨g8 - 1, by omega⟩
    obtain ⟨cd1, H1, H2, H3, H4, H5, H6, H7, H8, H9, H10⟩ := H
    have P := H1.1
    have t4 : t < 401 := by have := P.2.2.1; have := X.1.2.1; omega
    have rr := tk_row X P P.2.2.1
    have k34 : kd t < 34 := by have := rr.1; omega
    have ob : (if cndO r false = true then 1 else 0) ≤ 1 := by split <;> omega
    rw [lX5_condition_13]
    unfold bX5_condition_13 M_after
    rw [if_neg (show ¬ (400 : Int32) < nI i from nI_nlt (a := 400) (by omega) (by decide)), P.2.2.2.2.1, show fX12_is 29 m = fX12_is (nI (kM 25)) m from rfl, M_is X P (by decide), bi_q, lt_q, show fX12_is 30 m = fX12_is (nI (kM 26)) m from rfl, M_is X P (by decide), bi_q]
    by_cases k26 : kd t = 26
    · -- and
      have k25 : ¬ kd t = 25 := by omega
      rw [decide_eq_true k26, decide_eq_false k25, if_pos (show b2 false = 0 from rfl), if_neg (show ¬ b2 true = 0 by decide), if_pos (show nI (kd t) = (26 : Int32) by rw [k26]; rfl)]
      unfold bX5_condition_38 bX12_condition_44 bX12_condition_49
      rw [P.2.2.2.2.1, lt_q, if_neg (show ¬ nI (kd t) = (25 : Int32) from fun z => k25 (nI_inj (b := 25) (by omega) (by decide) z)), lt_q, if_neg (by decide)]
      unfold bX5_condition_60
      refine R2_seq (S := fun c1 m1 => t < 400 ∧ PB c0 m0 K kd sd (t + 1) c1 m1 ∧ Agr W67 c c1 ∧ Agr W11 m m1) (km := fun h2 => lX12_condition_8 (g9 + 1 + 1) (b2 false) 1 h2) (tk_goes X P rfl (by omega)) ?_ ?_
      · rintro c1 m1 ⟨b1, b2', b3, b4⟩
        rw [M_cond8 b2'.2.2.2.2.2.2.1]
        refine cond_more (x := x) (r := r) (V := litW x ++ cndP r false) (pend := (if cndO r false = true then 1 else 0) + 1) (cS := cS) (mS := mS) (cs := cs) (cd := cd) (ln := ln) (t := t + 1) X h24 hnp N q6 ⟨cd1, ⟨b2', by rw [b4.i 0 12 rfl]; exact H1.2.1, by rw [b3.i 125 11 rfl]; exact H1.2.2.1, by rw [b4.i 0 49 rfl]; exact H1.2.2.2.1, by rw [b4.i 0 42 rfl]; exact H1.2.2.2.2.1, H1.2.2.2.2.2⟩, by omega, by omega, H4, H5, H6, cwG_w H7 fun j _ => b3.i 129 j rfl, ⟨fun z => H8.1 (by rw [← b3.i 142 8 rfl]; exact z), lsT_f (ln := ln + 1 + r.length) (cd := cd1) H8.2 (frM_a b4 rfl rfl) (by rw [List.length_cons]; omega) (Nat.le_refl _) (fun z => by rw [← b3.i 142 8 rfl]; exact z) (Nat.le_refl _)⟩, H9.trans (frC_a b3 rfl rfl) (Nat.le_refl _), H10.trans (frM_a b4 rfl rfl) (Nat.le_refl _) (Nat.le_refl _)⟩ ?_
        · intro t1 y c2 m2 hy C2 ht1
          obtain ⟨cd2, C1, C2', C3, C4, C5, C6, C7, C8, C9, C10⟩ := C2
          have t41 : t1 < 401 := by have := C1.1.2.2.1; have := X.1.2.1; omega
          obtain ⟨c3, e1, e2, e3, e4, e5⟩ := C_emit (o := 26) (v := 0) C1.2.2.1 (by omega) (by decide)
          rw [if_pos (show nI (kd t) = (26 : Int32) by rw [k26]; rfl), show (26 : Int32) = nI 26 from rfl, show (0 : Int32) = nI 0 from rfl, e1, bv_q]
          have fl : ∀ h, bX5_condition_90 (lX5_condition_13 gc) (b2 (cndO r false)) (nI i) (nI (kd t)) h = lX5_condition_13 gc (b2 (cndO (r ++ [y]) false)) (nI (i + 1)) h := fun h => by
            unfold bX5_condition_90 bX5_condition_100 bX5_condition_105
            rw [cndO_s, hy, Bool.or_false, if_neg (show ¬ nI (kd t) = (25 : Int32) from fun z => k25 (nI_inj (b := 25) (by omega) (by decide) z))]
            simp only [lt_q, nI_1]
            cases cndO r false <;> rfl
          rw [fl]
          have e6 : cndP (r ++ [y]) false = cndP r false ++ (litW y ++ [(26, 0)]) := by rw [cndP_s, hy, if_neg (by decide)]
          have ev : litW x ++ cndP (r ++ [y]) false = (litW x ++ cndP r false ++ litW y) ++ [(26, 0)] := by rw [e6]; simp only [List.append_assoc]
          have el : (litW x ++ cndP (r ++ [y]) false).length = (litW x ++ cndP r false ++ litW y).length + 1 := by rw [ev, List.length_append]; rfl
          refine ih t1 (i + 1) (r ++ [y]) c3 m2 gc (g9 + 1) (by omega) (by omega) ⟨cd2, ⟨PB_w C1.1 e2 rfl rfl .refl ⟨rfl, rfl, rfl, rfl⟩, C1.2.1, ?_, C1.2.2.2.1, C1.2.2.2.2.1, ?_⟩, ?_, C3, C4, C5, C6, ?_, ⟨fun z => C8.1 (by rw [← e2.i 142 8 rfl]; exact z), by rw [e2.i 142 8 rfl]; exact C8.2⟩, C9.trans (show frC (cs + (litW x ++ cndP r false ++ litW y).length) c2 c3 from ⟨e2.sub rfl, e4⟩) (by omega), C10⟩ (by omega) (by omega) (by omega)
          · rw [e3, el, Nat.add_assoc]
          · have := C1.2.2.2.2.2; rw [el]; omega
          · rw [el, cndO_s, hy, Bool.or_false]; omega
          · rw [ev]
            exact cwG_app (cwG_w C7 e4) e5
      · intro f p m1 F
        rw [D_cond8 F, ok_some]
        exact F
    · rw [decide_eq_false k26, if_neg (show ¬ nI (kd t) = (26 : Int32) from fun z => k26 (nI_inj (b := 26) (by omega) (by decide) z))]
      by_cases k25 : kd t = 25
      · -- or
        rw [decide_eq_true k25, if_neg (show ¬ b2 true = 0 by decide), if_pos (show nI (kd t) = (25 : Int32) by rw [k25]; rfl)]
        unfold bX5_condition_38 bX12_condition_44 bX12_condition_49
        rw [P.2.2.2.2.1, lt_q, if_pos (show nI (kd t) = (25 : Int32) by rw [k25]; rfl), lt_q]
        -- an or that waited comes out
        have em : ∃ c1, (if b2 (cndO r false) = 0 then bX5_condition_60 (lX5_condition_13 gc) (b2 (cndO r false)) (nI i) (nI (kd t)) c else bv (fX5_emit 25 0 c) (fun h2 => bX5_condition_60 (lX5_condition_13 gc) (b2 (cndO r false)) (nI i) (nI (kd t)) h2)) = bX5_condition_60 (lX5_condition_13 gc) (b2 (cndO r false)) (nI i) (nI (kd t)) c1 ∧ Agr W129 c c1 ∧ (∀ j, j < cs + (litW x ++ cndP r false).length → c1.1 129 j = c.1 129 j) ∧ c1.1 125 11 = nI (cs + (litW x ++ cndP r false ++ (if cndO r false = true then [(25, 0)] else [])).length) ∧ cwG c1 cs (litW x ++ cndP r false ++ (if cndO r false = true then [(25, 0)] else [])) := by
          cases hO : cndO r false
          · rw [if_pos (show b2 false = 0 from rfl), if_neg (by decide), List.append_nil]
            exact ⟨c, rfl, .refl, fun _ _ => rfl, H1.2.2.1, H7⟩
          · obtain ⟨c1, e1, e2, e3, e4, e5⟩ := C_emit (o := 25) (v := 0) H1.2.2.1 (by rw [hO] at H2; simp only [↓reduceIte] at H2; omega) (by decide)
            rw [if_neg (show ¬ b2 true = 0 by decide), if_pos rfl, show (25 : Int32) = nI 25 from rfl, show (0 : Int32) = nI 0 from rfl, e1, bv_q]
            exact ⟨c1, rfl, e2, e4, by rw [e3]; congr 1; simp only [List.length_append, List.length_cons, List.length_nil]; omega, cwG_app (cwG_w H7 e4) e5⟩
        obtain ⟨cE, q1, q2, q3, q4, q5⟩ := em
        rw [q1, if_neg (show ¬ (1 : Int32) = 0 by decide)]
        have vl : (litW x ++ cndP r false ++ (if cndO r false = true then [(25, 0)] else [])).length = (litW x ++ cndP r false).length + (if cndO r false = true then 1 else 0) := by
          rw [List.length_append]; congr 1; split <;> rfl
        have PE : PB c0 m0 K kd sd t cE m := PB_w P q2 rfl rfl .refl ⟨rfl, rfl, rfl, rfl⟩
        unfold bX5_condition_60
        refine R2_seq (S := fun c1 m1 => t < 400 ∧ PB c0 m0 K kd sd (t + 1) c1 m1 ∧ Agr W67 cE c1 ∧ Agr W11 m m1) (km := fun h2 => lX12_condition_8 (g9 + 1 + 1) (b2 true) 1 h2) (tk_goes X PE rfl (by omega)) ?_ ?_
        · rintro c1 m1 ⟨b1, b2', b3, b4⟩
          rw [M_cond8 b2'.2.2.2.2.2.2.1]
          refine cond_more (x := x) (r := r) (V := litW x ++ cndP r false ++ (if cndO r false = true then [(25, 0)] else [])) (pend := 1) (cS := cS) (mS := mS) (cs := cs) (cd := cd) (ln := ln) (t := t + 1) X h24 hnp N q6 ⟨cd1, ⟨b2', by rw [b4.i 0 12 rfl]; exact H1.2.1, by rw [b3.i 125 11 rfl]; exact q4, by rw [b4.i 0 49 rfl]; exact H1.2.2.2.1, by rw [b4.i 0 42 rfl]; exact H1.2.2.2.2.1, by have := H1.2.2.2.2.2; omega⟩, by omega, by omega, H4, H5, H6, cwG_w q5 fun j _ => b3.i 129 j rfl, ⟨fun z => H8.1 (by rw [← q2.i 142 8 rfl, ← b3.i 142 8 rfl]; exact z), lsT_f (ln := ln + 1 + r.length) (cd := cd1) H8.2 (frM_a b4 rfl rfl) (by rw [List.length_cons]; omega) (Nat.le_refl _) (fun z => by rw [← q2.i 142 8 rfl, ← b3.i 142 8 rfl]; exact z) (Nat.le_refl _)⟩, (H9.trans (show frC (cs + (litW x ++ cndP r false).length) c cE from ⟨q2.sub rfl, q3⟩) (by omega)).trans (frC_a (cs := cs) b3 rfl rfl) (Nat.le_refl _), H10.trans (frM_a b4 rfl rfl) (Nat.le_refl _) (Nat.le_refl _)⟩ ?_
          · intro t1 y c2 m2 hy C2 ht1
            obtain ⟨cd2, C1, C2', C3, C4, C5, C6, C7, C8, C9, C10⟩ := C2
            rw [if_neg (show ¬ nI (kd t) = (26 : Int32) from fun z => k26 (nI_inj (b := 26) (by omega) (by decide) z))]
            have fl : ∀ h, bX5_condition_90 (lX5_condition_13 gc) (b2 (cndO r false)) (nI i) (nI (kd t)) h = lX5_condition_13 gc (b2 (cndO (r ++ [y]) false)) (nI (i + 1)) h := fun h => by
              unfold bX5_condition_90 bX5_condition_100 bX5_condition_105
              rw [cndO_s, hy, Bool.or_true, if_pos (show nI (kd t) = (25 : Int32) by rw [k25]; rfl)]
              simp only [lt_q, nI_1, ite_self]
              rfl
            rw [fl]
            have ev : litW x ++ cndP (r ++ [y]) false = litW x ++ cndP r false ++ (if cndO r false = true then [(25, 0)] else []) ++ litW y := by rw [cndP_s, hy, if_pos rfl]; simp only [List.append_assoc]
            rw [← ev] at C1 C2' C7
            exact ih t1 (i + 1) (r ++ [y]) c2 m2 gc (g9 + 1) (by omega) (by omega) ⟨cd2, C1, by rw [cndO_s, hy, Bool.or_true, if_pos rfl]; exact C2', C3, C4, C5, C6, C7, C8, C9, C10⟩ (by omega) (by omega) (by omega)
        · intro f p m1 F
          rw [D_cond8 F, ok_some]
          exact F
      · -- the end
        rw [decide_eq_false k25, if_pos (show b2 false = 0 from rfl), if_pos (show b2 false = 0 from rfl), if_neg (show ¬ nI (kd t) = (25 : Int32) from fun z => k25 (nI_inj (b := 25) (by omega) (by decide) z))]
        unfold bX5_condition_112 bX12_condition_49
        have m8 : lX12_condition_8 (g9 + 1 + 1) (b2 false) 0 m = some m := by
          rw [lX12_condition_8]
          unfold bX12_condition_8
          rw [if_pos rfl]
        rw [lt_q, if_pos rfl, m8]
        have ew : litW x ++ cndW r false = litW x ++ cndP r false ++ (if cndO r false = true then [(25, 0)] else []) := by rw [cnd_PW, List.append_assoc]
        cases hO : cndO r false
        · rw [if_pos (show b2 false = 0 from rfl), ck_of zb_1]
          rw [hO] at ew H2
          rw [if_neg (by decide), List.append_nil] at ew
          refine ⟨1, c, m, rfl, rfl, .inl ⟨rfl, t, x, r, h0, ?_⟩⟩
          rw [ew]
          exact ⟨cd1, H1, by simpa using H2, H3, H4, H5, H6, H7, H8, H9, H10⟩
        · rw [hO] at ew H2
          rw [if_pos rfl] at ew H2
          obtain ⟨c1, e1, e2, e3, e4, e5⟩ := C_emit (o := 25) (v := 0) H1.2.2.1 (by omega) (by decide)
          rw [if_neg (show ¬ b2 true = 0 by decide), show (25 : Int32) = nI 25 from rfl, show (0 : Int32) = nI 0 from rfl, e1, bv_q, ck_of zb_1]
          refine ⟨1, c1, m, rfl, rfl, .inl ⟨rfl, t, x, r, h0, ?_⟩⟩
          have el : (litW x ++ cndW r false).length = (litW x ++ cndP r false).length + 1 := by rw [ew, List.length_append]; rfl
          refine ⟨cd1, ⟨PB_w P e2 rfl rfl .refl ⟨rfl, rfl, rfl, rfl⟩, H1.2.1, by rw [e3, el, Nat.add_assoc], H1.2.2.2.1, H1.2.2.2.2.1, by have := H1.2.2.2.2.2; omega⟩, by omega, H3, H4, H5, H6, ?_, ⟨fun z => H8.1 (by rw [← e2.i 142 8 rfl]; exact z), by rw [e2.i 142 8 rfl]; exact H8.2⟩, H9.trans (show frC (cs + (litW x ++ cndP r false).length) c c1 from ⟨e2.sub rfl, e4⟩) (by omega), H10⟩
          rw [ew]
          exact cwG_app (cwG_w H7 e4) e5
theorem cond_both {c0 m0 c m : Hp} {K sd t np nc nl cs cd ln : Nat} {kd pl : Nat → Nat} (X : CTX c0 m0 K kd pl sd) (h24 : np + nc + nl ≤ 24) (hnp : np ≤ 10) (L : LSt c0 m0 K kd sd t cs cd ln c m) (hc : cs + 1 ≤ t) (hl : 3 * ln + 1 ≤ t) (N : NmR np nc nl c m) (q6 : c.1 125 6 = nI np) : R2 c0 m0 sd (fX5_condition c) (lX12_condition_8 FU 1 1 m) (condOk t c0 m0 K kd sd np cs cd ln c m) := by
  have e8 : lX12_condition_8 FU 1 1 m = bv (fX12_literal (b2 true) m) (fun h => M_after 19999 h) := by
    rw [show lX12_condition_8 FU = lX12_condition_8 (19999 + 1) from rfl]
    exact M_cond8 L.1.2.2.2.2.2.2.1 19999 true
  rw [e8]
  unfold fX5_condition
  refine R2_seq (literal_both (sl := 0) (o := true) X h24 hnp L hc hl N q6) ?_ ?_
  · rintro c1 m1 ⟨t1, x, cd1, B1, B2, B3, B4, B5, B6, B7, B8, B9, B10, B11⟩
    rw [lt_q, lt_q]
    refine cond_loop (x := x) X h24 hnp N q6 401 t1 0 [] c1 m1 FU 19999 (by omega) (show t < t1 by omega) ⟨cd1, ?_, ?_, ?_, B4, ?_, B6, ?_, ⟨B9.1, fun i hi => ?_⟩, B10, B11⟩ (by omega) (by decide) (by decide)
    · rw [cndP, List.append_nil]; exact B1
    · rw [cndP, List.append_nil]
      show cs + (litW x).length + (if cndO [] false = true then 1 else 0) + 1 ≤ t1
      rw [show cndO [] false = false from rfl, if_neg (by decide)]
      omega
    · show 3 * (ln + 1 + 0) ≤ t1
      omega
    · intro y hy
      rw [List.mem_singleton] at hy
      subst hy
      exact ⟨B5, B7⟩
    · rw [cndP, List.append_nil]; exact B8
    · have : i = 0 := by simp at hi; omega
      subst this
      exact B9.2
  · intro f p m1 F
    rw [show (19999 : Nat) = 19998 + 1 from rfl, D_after F, ok_some]
    exact F
