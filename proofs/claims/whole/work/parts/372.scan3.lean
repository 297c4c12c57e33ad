/-- both cut the text into the same tokens -/
theorem TkP_up {k κ j nx v : Nat} {w : List Nat} {kd pl : Nat → Nat} {hc hc' hm : Hp} {mv : Int32} {mn pc : Int64} (H : TkP k kd pl hc hm) (R : rowC hc hc' k κ j pc) (h33 : κ ≤ 33) (hj : j ≤ 2000) (hv : v ≤ 9999) (hw : κ = 2 → wkO w) (p3 : κ = 3 → pc = lN v) (p2 : κ = 2 → pc = lN (q32 w)) (m3 : κ = 3 → mv = nI v) (m2 : κ = 2 → mn = lN (q27 w)) : TkP (k + 1) (upT kd k κ) (upT pl k j) hc' (tokM hm k (nI (kM κ)) (nI j) mv mn) := fun i hi => by
  by_cases e : i = k
  · subst e
    obtain ⟨t1, t2, t3, t4, _⟩ := tokM_k (h := hm) (k := i) (a := nI (kM κ)) (p := nI j) (v := mv) (n := mn)
    rw [upT_s, upT_s, t1, t2, t3, t4, R.2.1, R.2.2.1, R.2.2.2.1]
    exact ⟨h33, hj, rfl, rfl, rfl, rfl, fun e => ⟨v, hv, p3 e, m3 e⟩, fun e => ⟨w, hw e, p2 e, m2 e⟩⟩
  · obtain ⟨t1, t2, t3, t4⟩ := tokM_o (h := hm) (a := nI (kM κ)) (p := nI j) (v := mv) (n := mn) e
    obtain ⟨r1, r2, r3⟩ := R.2.2.2.2 i e
    rw [upT_n e, upT_n e, t1, t2, t3, t4, r1, r2, r3]
    exact H i (by omega)
theorem TkP_c {k : Nat} {kd pl : Nat → Nat} {hc hc' hm hm' : Hp} (H : TkP k kd pl hc hm) (ec : ∀ j, j < k → hc'.1 104 j = hc.1 104 j ∧ hc'.1 105 j = hc.1 105 j ∧ hc'.2 106 j = hc.2 106 j) (em : rowsM k hm hm') : TkP k kd pl hc' hm' := fun i hi => by
  obtain ⟨r1, r2, r3⟩ := ec i hi
  obtain ⟨t1, t2, t3, t4⟩ := em i hi
  rw [r1, r2, r3, t1, t2, t3, t4]
  exact H i hi
theorem C_scanEnd {N k : Nat} {tx : Nat → Nat} {h : Hp} (T : TXc N tx h) (hN : N ≤ 2000) (hk : h.1 103 4 = nI k) (k4 : k ≤ 400) : fX9_scanOne (nI N) h = some (nI (N + 1), wI (wL (wI h 105 k (nI N)) 106 k 0) 104 k (nI 0)) := by
  have a : Agr TSc h (wL (wI h 105 k (nI N)) 106 k 0) := (Agr.refl.wI rfl).wL rfl
  have T2 := TXc_a a T
  have hk2 : (wL (wI h 105 k (nI N)) 106 k 0).1 103 4 = nI k := by rw [wL_i, wI_k (by decide), hk]
  simp only [fX9_scanOne, bX9_scanOne_79, bX9_scanOne_138, hk, ck_of (nI_inb (show k < 401 by omega) (by decide)), nI_ix (show k < 2 ^ 31 by omega), lt_q, wI_k (show (103 : Nat) ≠ 105 by decide), C_byteAt T2 hN (show N < 2 ^ 31 by omega), if_neg (show ¬ N < N by omega), bi_q, C_within, show rng (-1) 97 122 = false from by decide, show rng (-1) 48 57 = false from by decide, b2_f, ↓reduceIte, nI_1, C_byteAt T2 hN (show N + 1 < 2 ^ 31 by omega), if_neg (show ¬ N + 1 < N by omega), if_neg (show ¬ (-1 : Int32) = 61 by decide), fX9_signKind, hk2, wI_k (show (103 : Nat) ≠ 104 by decide), wI_s, if_neg (show ¬ (0 : Int32) = 9 by decide), if_neg (show ¬ (0 : Int32) = 10 by decide), if_neg (show ¬ (0 : Int32) = 12 by decide)]
  rfl
theorem C_scanStep {k κ j nx : Nat} {h h' : Hp} {pc : Int64} {r7 : Int32 → Hp → Option Hp} {x : Int32} (hs : fX9_scanOne x h = some (nI nx, h')) (R : rowC h h' k κ j pc) (hk : h.1 103 4 = nI k) (k4 : k ≤ 400) (h33 : κ ≤ 33) : bX9_scan_42 r7 x h = if 1 < κ then r7 (nI nx) (wI h' 103 4 (nI (k + 1))) else some (wI h' 103 4 (nI (k + 1))) := by
  have e : h'.1 103 4 = nI k := by rw [R.1.i 103 4 rfl, hk]
  simp only [bX9_scan_42, hs, bi_q, lt_q, e, nI_1, wI_s, nI_pred, ck_of (nI_inb (show k < 401 by omega) (by decide)), nI_ix (show k < 2 ^ 31 by omega), wI_k (show (104 : Nat) ≠ 103 by decide), R.2.1]
  by_cases c : 1 < κ
  · rw [if_pos c, if_pos (show (1 : Int32) < nI κ from nI_lt (a := 1) c (by omega))]
  · rw [if_neg c, if_neg (show ¬ (1 : Int32) < nI κ from nI_nlt (a := 1) (by omega) (by decide))]
theorem C_scanFull {k : Nat} {h : Hp} (hk : h.1 103 4 = nI k) (k4 : k = 401) (i : Int32) (f : Nat) : lX9_scan_7 (f + 1) i h = some h := by
  rw [lX9_scan_7]
  simp only [bX9_scan_7, hk, if_pos (show (400 : Int32) < nI k from nI_lt (a := 400) (by omega) (by omega))]
def ScR (hc hm : Hp) (oc om : Option Hp) : Prop := ∃ hc' hm' K kd pl, oc = some hc' ∧ om = some hm' ∧ TkR K kd pl hc' hm' ∧ Agr TSc hc hc' ∧ Agr TSm hm hm'
theorem scan_both {N : Nat} {tx : Nat → Nat} (hN : N ≤ 2000) (B : ∀ i, i < N → tx i < 256) : ∀ (d i k : Nat) (hc hm : Hp) (kd pl : Nat → Nat) (fc fm : Nat), N - i ≤ d → i ≤ N → k ≤ 401 → TXc N tx hc → TXm N tx hm → KWc hc → KWm hm → hc.1 103 4 = nI k → hm.1 0 10 = nI k → TkP k kd pl hc hm → (∀ j, j < k → 2 ≤ kd j) → 401 - k < fc → N - i + 1 < fm → ScR hc hm (lX9_scan_7 fc (nI i) hc) (lX12_cut_7 fm (nI i) hm) := by
  intro d
  induction d with
  | zero =>
    intro i k hc hm kd pl fc fm hd hi hk4 Tc Tm Wc Wm kc km H h2 ffc ffm
    obtain ⟨gc, rfl⟩ : ∃ g, fc = g + 1 := ⟨fc - 1, by omega⟩
    obtain ⟨gm, rfl⟩ : ∃ g, fm = g + 1 := ⟨fm - 1, by omega⟩
    by_cases k4 : k = 401
    · exact ⟨hc, hm, 401, kd, pl, C_scanFull kc k4 _ _, M_full km k4 _ _, ⟨by decide, by decide, by rw [← k4]; exact H, fun j hj => h2 j (by omega), fun h => absurd h (by decide)⟩, .refl, .refl⟩
    · have e : i = N := by omega
      subst e
      have R : rowC hc (wI (wL (wI hc 105 k (nI i)) 106 k 0) 104 k (nI 0)) k 0 i 0 := rowC_s
      have st := C_scanStep (r7 := lX9_scan_7 gc) (C_scanEnd Tc hN kc (by omega)) R kc (by omega) (by decide)
      rw [if_neg (by decide)] at st
      have sk : Ok (lX9_scan_7 (gc + 1) (nI i) hc) (fun h => h = wI (wI (wL (wI hc 105 k (nI i)) 106 k 0) 104 k (nI 0)) 103 4 (nI (k + 1))) := by
        rw [lX9_scan_7]
        simp only [bX9_scan_7, kc, if_neg (show ¬ (400 : Int32) < nI k from nI_nlt (a := 400) (by omega) (by decide))]
        refine C_skip (n := 0) Tc hN B hi ⟨fun j hj => absurd hj (by omega), fun x => absurd x.1 (by omega)⟩ ?_
        rw [Nat.add_zero, st, ok_some]
      refine ⟨_, _, k + 1, upT kd k 0, upT pl k i, ok_eq.mp sk, M_end Tm hN km (by omega) gm, ⟨by omega, by omega, ?_, fun j hj => by rw [upT_n (by omega)]; exact h2 j (by omega), fun _ => by rw [Nat.add_sub_cancel, upT_s]; omega⟩, (R.1.sub rfl).wI rfl, tokM_agr⟩
      exact TkP_c (TkP_up (v := 0) (w := []) (nx := 0) H R (by decide) (by omega) (by decide) (fun e => absurd e (by decide)) (fun e => absurd e (by decide)) (fun e => absurd e (by decide)) (fun e => absurd e (by decide)) (fun e => absurd e (by decide))) (fun j hj => ⟨wI_k (by decide), wI_k (by decide), rfl⟩) (fun j hj => ⟨rfl, rfl, rfl, rfl⟩)
  | succ d ih =>
    intro i k hc hm kd pl fc fm hd hi hk4 Tc Tm Wc Wm kc km H h2 ffc ffm
    by_cases k4 : k = 401
    · obtain ⟨gc, rfl⟩ : ∃ g, fc = g + 1 := ⟨fc - 1, by omega⟩
      obtain ⟨gm, rfl⟩ : ∃ g, fm = g + 1 := ⟨fm - 1, by omega⟩
      exact ⟨hc, hm, 401, kd, pl, C_scanFull kc k4 _ _, M_full km k4 _ _, ⟨by decide, by decide, by rw [← k4]; exact H, fun j hj => h2 j (by omega), fun h => absurd h (by decide)⟩, .refl, .refl⟩
    · obtain ⟨gc, rfl⟩ : ∃ g, fc = g + 1 := ⟨fc - 1, by omega⟩
      obtain ⟨n, Rn⟩ := run_ex (N := N) (tx := tx) (p := blkP) (N - i) i (Nat.le_refl _)
      have hle := run_le Rn hi
      obtain ⟨gm, rfl⟩ : ∃ g, fm = g + 1 + n := ⟨fm - n - 1, by omega⟩
      rw [M_skip Tm hN B km (by omega) n i (gm + 1) Rn.1]
      have cl : ∀ o, bX9_scan_42 (lX9_scan_7 gc) (nI (i + n)) hc = some o → lX9_scan_7 (gc + 1) (nI i) hc = some o := fun o ho => by
        refine ok_eq.mp ?_
        rw [lX9_scan_7]
        simp only [bX9_scan_7, kc, if_neg (show ¬ (400 : Int32) < nI k from nI_nlt (a := 400) (by omega) (by decide))]
        refine C_skip Tc hN B hi Rn ?_
        rw [ho, ok_some]
      by_cases c : i + n < N
      · obtain ⟨κ, nx, v, w, t1, t2, t3, t4, t5, t6, tc, tm⟩ := tok_at hN B c (Bool.eq_false_iff.mpr (fun x => Rn.2 ⟨c, x⟩))
        obtain ⟨⟨x, h'⟩, es, ex, pc, R, p3, p2⟩ := tc hc k Tc Wc kc (by omega)
        simp only at ex R
        subst ex
        have st := C_scanStep (r7 := lX9_scan_7 gc) es R kc (by omega) t2
        have ac : Agr TSc hc (wI h' 103 4 (nI (k + 1))) := (R.1.sub rfl).wI rfl
        have rel : ∀ mv mn, (κ = 3 → mv = nI v) → (κ = 2 → mn = lN (q27 w)) → TkP (k + 1) (upT kd k κ) (upT pl k (i + n)) (wI h' 103 4 (nI (k + 1))) (tokM hm k (nI (kM κ)) (nI (i + n)) mv mn) := fun mv mn m3 m2 => TkP_c (TkP_up (nx := nx) H R t2 (by omega) t5 t6 p3 p2 m3 m2) (fun j hj => ⟨wI_k (by decide), wI_k (by decide), rfl⟩) (fun j hj => ⟨rfl, rfl, rfl, rfl⟩)
        by_cases c1 : 1 < κ
        · rw [if_pos c1] at st
          have : Ok (lX12_cut_7 (gm + 1) (nI (i + n)) hm) (fun hm' => ∃ hc' K kd pl, lX9_scan_7 (gc + 1) (nI i) hc = some hc' ∧ TkR K kd pl hc' hm' ∧ Agr TSc hc hc' ∧ Agr TSm hm hm') := by
            rw [lX12_cut_7]
            refine tm hm k _ _ Tm Wm km (by omega) fun mv mn m3 m2 => ?_
            obtain ⟨hc2, hm2, K, kd2, pl2, q1, q2, q3, q4, q5⟩ := ih nx (k + 1) (wI h' 103 4 (nI (k + 1))) (tokM hm k (nI (kM κ)) (nI (i + n)) mv mn) (upT kd k κ) (upT pl k (i + n)) gc gm (by omega) (by omega) (by omega) (TXc_a ac Tc) (TXm_a tokM_agr Tm) (KWc_a ac Wc) (KWm_a tokM_agr Wm) wI_s tokM_k.2.2.2.2 (rel mv mn m3 m2) (fun j hj => by
              by_cases e : j = k
              · subst e; rw [upT_s]; omega
              · rw [upT_n e]; exact h2 j (by omega)) (by omega) (by omega)
            exact ⟨hm2, q2, hc2, K, kd2, pl2, cl _ (st.trans q1), q3, ac.trans q4, tokM_agr.trans q5⟩
          obtain ⟨hm', q1, hc', K, kd', pl', q2, q3, q4, q5⟩ := this
          exact ⟨hc', hm', K, kd', pl', q2, q1, q3, q4, q5⟩
        · rw [if_neg c1] at st
          have k1 : κ = 1 := by omega
          have : Ok (lX12_cut_7 (gm + 1) (nI (i + n)) hm) (fun hm' => TkR (k + 1) (upT kd k κ) (upT pl k (i + n)) (wI h' 103 4 (nI (k + 1))) hm' ∧ Agr TSm hm hm') := by
            rw [lX12_cut_7]
            refine tm hm k _ _ Tm Wm km (by omega) fun mv mn m3 m2 => ?_
            refine (M_rest hN B (N - nx) nx (k + 1) _ gm (Nat.le_refl _) t4 (by omega) (TXm_a tokM_agr Tm) (KWm_a tokM_agr Wm) tokM_k.2.2.2.2 (by omega)).mono ?_
            rintro hm' ⟨a, r⟩
            refine ⟨⟨by omega, by omega, TkP_c (rel mv mn m3 m2) (fun j hj => ⟨rfl, rfl, rfl⟩) r, fun j hj => ?_, fun _ => ?_⟩, tokM_agr.trans a⟩
            · rw [upT_n (by omega)]; exact h2 j (by omega)
            · rw [Nat.add_sub_cancel, upT_s]; omega
          obtain ⟨hm', q1, q2, q3⟩ := this
          exact ⟨_, hm', k + 1, _, _, cl _ st, q1, q2, ac, q3⟩
      · have e : i + n = N := by omega
        rw [e]
        rw [e] at cl
        have R : rowC hc (wI (wL (wI hc 105 k (nI N)) 106 k 0) 104 k (nI 0)) k 0 N 0 := rowC_s
        have st := C_scanStep (r7 := lX9_scan_7 gc) (C_scanEnd Tc hN kc (by omega)) R kc (by omega) (by decide)
        rw [if_neg (by decide)] at st
        refine ⟨_, _, k + 1, upT kd k 0, upT pl k N, cl _ st, M_end Tm hN km (by omega) gm, ⟨by omega, by omega, ?_, fun j hj => by rw [upT_n (by omega)]; exact h2 j (by omega), fun _ => by rw [Nat.add_sub_cancel, upT_s]; omega⟩, (R.1.sub rfl).wI rfl, tokM_agr⟩
        exact TkP_c (TkP_up (v := 0) (w := []) (nx := 0) H R (by decide) (by omega) (by decide) (fun e => absurd e (by decide)) (fun e => absurd e (by decide)) (fun e => absurd e (by decide)) (fun e => absurd e (by decide)) (fun e => absurd e (by decide))) (fun j hj => ⟨wI_k (by decide), wI_k (by decide), rfl⟩) (fun j hj => ⟨rfl, rfl, rfl, rfl⟩)
theorem scan_all {N : Nat} {tx : Nat → Nat} {hc hm : Hp} (hN : N ≤ 2000) (B : ∀ i, i < N → tx i < 256) (Tc : TXc N tx hc) (Tm : TXm N tx hm) (Wc : KWc hc) (Wm : KWm hm) : ScR hc hm (fX9_scan hc) (fX12_cut hm) := by
  unfold fX9_scan fX12_cut
  rw [lt_q, lt_q, lt_q, lt_q]
  have ac : Agr TSc hc (wI hc 103 4 0) := Agr.refl.wI rfl
  have am : Agr TSm hm (wI hm 0 10 0) := Agr.refl.wI rfl
  obtain ⟨hc', hm', K, kd, pl, q1, q2, q3, q4, q5⟩ := scan_both hN B N 0 0 (wI hc 103 4 0) (wI hm 0 10 0) (fun _ => 0) (fun _ => 0) FU FU (by omega) (by omega) (by omega) (TXc_a ac Tc) (TXm_a am Tm) (KWc_a ac Wc) (KWm_a am Wm) wI_s wI_s (fun j hj => absurd hj (by omega)) (fun j hj => absurd hj (by omega)) (by decide) (show N - 0 + 1 < 20000 by omega)
  exact ⟨hc', hm', K, kd, pl, q1, q2, q3, ac.trans q4, am.trans q5⟩
