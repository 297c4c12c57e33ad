/-- tokens, both -/
def TKc : Ws := [(104, none), (105, none), (106, none)]
def TSc : Ws := [(104, none), (105, none), (106, none), (103, some 4)]
def TSm : Ws := [(3, none), (4, none), (5, none), (6, none), (0, some 10)]
theorem TXc_a {N : Nat} {tx : Nat → Nat} {h h' : Hp} (e : Agr TSc h h') (T : TXc N tx h) : TXc N tx h' := ⟨by rw [e.i 101 1 rfl]; exact T.1, fun i hi => by rw [e.i 102 i rfl]; exact T.2 i hi⟩
theorem TXm_a {N : Nat} {tx : Nat → Nat} {h h' : Hp} (e : Agr TSm h h') (T : TXm N tx h) : TXm N tx h' := ⟨by rw [e.i 0 4 rfl]; exact T.1, fun i hi => by rw [e.i 2 i rfl]; exact T.2 i hi⟩
theorem KWc_a {h h' : Hp} (e : Agr TSc h h') (T : KWc h) : KWc h' := fun i hi => by rw [e.l 107 i rfl]; exact T i hi
theorem KWm_a {h h' : Hp} (e : Agr TSm h h') (T : KWm h) : KWm h' := fun i hi => by rw [e.l 7 i rfl]; exact T i hi
theorem tokM_agr {h : Hp} {k : Nat} {a p v : Int32} {n : Int64} : Agr TSm h (tokM h k a p v n) := ((((Agr.refl.wI rfl).wI rfl).wI rfl).wL rfl).wI rfl
theorem tokM_k {h : Hp} {k : Nat} {a p v : Int32} {n : Int64} : (tokM h k a p v n).1 3 k = a ∧ (tokM h k a p v n).1 4 k = p ∧ (tokM h k a p v n).1 5 k = v ∧ (tokM h k a p v n).2 6 k = n ∧ (tokM h k a p v n).1 0 10 = nI (k + 1) := by
  unfold tokM
  simp [wI, wL]
theorem tokM_o {h : Hp} {k j : Nat} {a p v : Int32} {n : Int64} (hj : j ≠ k) : (tokM h k a p v n).1 3 j = h.1 3 j ∧ (tokM h k a p v n).1 4 j = h.1 4 j ∧ (tokM h k a p v n).1 5 j = h.1 5 j ∧ (tokM h k a p v n).2 6 j = h.2 6 j := by
  unfold tokM
  simp [wI, wL, hj]
def rowC (h h' : Hp) (k κ j : Nat) (pc : Int64) : Prop := Agr TKc h h' ∧ h'.1 104 k = nI κ ∧ h'.1 105 k = nI j ∧ h'.2 106 k = pc ∧ ∀ k', k' ≠ k → h'.1 104 k' = h.1 104 k' ∧ h'.1 105 k' = h.1 105 k' ∧ h'.2 106 k' = h.2 106 k'
theorem KD_ex (w : List Nat) : ∃ k, KD w k := by
  by_cases h : ∃ i, i < 18 ∧ kw i = w
  · obtain ⟨i, hi, e⟩ := h
    exact ⟨16 + i, .inl ⟨i, hi, e, rfl⟩⟩
  · exact ⟨2, .inr ⟨rfl, fun i hi e => h ⟨i, hi, e⟩⟩⟩
theorem KD_33 {w : List Nat} {k : Nat} (h : KD w k) : 2 ≤ k ∧ k ≤ 33 ∧ k ≠ 3 := by
  rcases h with ⟨i, hi, _, rfl⟩ | ⟨rfl, _⟩ <;> omega
theorem rowC_w {h : Hp} {k κ j : Nat} {pc : Int64} : rowC h (wL (wI (wL (wI h 105 k (nI j)) 106 k 0) 104 k (nI κ)) 106 k pc) k κ j pc := by
  refine ⟨(((Agr.refl.wI rfl).wL rfl).wI rfl).wL rfl, ?_, ?_, ?_, fun k' hk' => ?_⟩
  · simp [wI, wL]
  · simp [wI, wL]
  · simp [wL]
  · simp [wI, wL, hk']
theorem rowC_s {h : Hp} {k κ j : Nat} : rowC h (wI (wL (wI h 105 k (nI j)) 106 k 0) 104 k (nI κ)) k κ j 0 := by
  refine ⟨((Agr.refl.wI rfl).wL rfl).wI rfl, ?_, ?_, ?_, fun k' hk' => ?_⟩
  · simp [wI, wL]
  · simp [wI, wL]
  · simp [wI, wL]
  · simp [wI, wL, hk']
theorem sK_ok : ∀ x, x < 256 → ∀ f : Bool, 1 ≤ sK x f ∧ sK x f ≤ 15 ∧ sK x f ≠ 2 ∧ sK x f ≠ 3 ∧ (adv (sK x f) = 1 ∨ adv (sK x f) = 2) ∧ (adv (sK x f) = 2 → f = true) := by decide +kernel
def tkC (N : Nat) (tx : Nat → Nat) (j κ nx v : Nat) (w : List Nat) : Prop := ∀ h k, TXc N tx h → KWc h → h.1 103 4 = nI k → k ≤ 400 → Ok (fX9_scanOne (nI j) h) (fun p => p.1 = nI nx ∧ ∃ pc, rowC h p.2 k κ j pc ∧ (κ = 3 → pc = lN v) ∧ (κ = 2 → pc = lN (q32 w)))
def tkM (N : Nat) (tx : Nat → Nat) (j κ nx v : Nat) (w : List Nat) : Prop := ∀ (h : Hp) (k : Nat) (r7 : Int32 → Hp → Option Hp) (Q : Hp → Prop), TXm N tx h → KWm h → h.1 0 10 = nI k → k ≤ 400 → (∀ mv mn, (κ = 3 → mv = nI v) → (κ = 2 → mn = lN (q27 w)) → Ok (r7 (nI nx) (tokM h k (nI (kM κ)) (nI j) mv mn)) Q) → Ok (bX12_cut_7 r7 (nI j) h) Q
theorem ltr_b : ∀ x, x < 256 → ltrP x = true → blkP x = false ∧ dgtP x = false := by decide +kernel
theorem dgt_b : ∀ x, x < 256 → dgtP x = true → blkP x = false ∧ ltrP x = false := by decide +kernel
theorem blk_e : ∀ x, x < 256 → blkP x = false → ¬ x = 9 ∧ ¬ x = 10 ∧ ¬ x = 13 ∧ ¬ x = 32 := by decide +kernel
theorem tok_at {N j : Nat} {tx : Nat → Nat} (hN : N ≤ 2000) (B : ∀ i, i < N → tx i < 256) (hj : j < N) (hb : blkP (tx j) = false) : ∃ κ nx v w, 1 ≤ κ ∧ κ ≤ 33 ∧ j < nx ∧ nx ≤ N ∧ v ≤ 9999 ∧ (κ = 2 → wkO w) ∧ tkC N tx j κ nx v w ∧ tkM N tx j κ nx v w := by
  have bj := B j hj
  obtain ⟨b9, b10, b13, b32⟩ := blk_e _ bj hb
  have e9 : ¬ nI (tx j) = (9 : Int32) := fun e => b9 ((nI_eq (b := 9) (by omega) (by decide)).mp e)
  have e10 : ¬ nI (tx j) = (10 : Int32) := fun e => b10 ((nI_eq (b := 10) (by omega) (by decide)).mp e)
  have e13 : ¬ nI (tx j) = (13 : Int32) := fun e => b13 ((nI_eq (b := 13) (by omega) (by decide)).mp e)
  have e32 : ¬ nI (tx j) = (32 : Int32) := fun e => b32 ((nI_eq (b := 32) (by omega) (by decide)).mp e)
  have cs : ∀ h k, TXc N tx h → KWc h → h.1 103 4 = nI k → k ≤ 400 → TXc N tx (wL (wI h 105 k (nI j)) 106 k 0) ∧ KWc (wL (wI h 105 k (nI j)) 106 k 0) ∧ (wL (wI h 105 k (nI j)) 106 k 0).1 103 4 = nI k := fun h k T W hk _ => by
    have a : Agr TSc h (wL (wI h 105 k (nI j)) 106 k 0) := (Agr.refl.wI rfl).wL rfl
    refine ⟨TXc_a a T, KWc_a a W, ?_⟩
    rw [wL_i, wI_k (by decide), hk]
  cases hl : ltrP (tx j)
  · cases hd : dgtP (tx j)
    · -- a sign
      have key : ∃ f : Bool, (f = true ↔ (j + 1 < N ∧ tx (j + 1) = 61)) := ⟨decide (j + 1 < N ∧ tx (j + 1) = 61), by simp⟩
      obtain ⟨f, hf⟩ := key
      obtain ⟨s1, s2, s3, s4, s5, s6⟩ := sK_ok (tx j) bj f
      refine ⟨sK (tx j) f, j + adv (sK (tx j) f), 0, [], s1, by omega, by omega, ?_, by omega, fun e => absurd e s3, ?_, ?_⟩
      · rcases s5 with s5 | s5
        · omega
        · have := (hf.mp (s6 s5)).1
          omega
      · intro h k T W hk k4
        obtain ⟨T2, W2, hk2⟩ := cs h k T W hk k4
        have nx : (if (if j + 1 < N then nI (tx (j + 1)) else -1) = (61 : Int32) then true else false) = f := by
          cases f
          · have : ¬ (j + 1 < N ∧ tx (j + 1) = 61) := fun x => by cases hf.mpr x
            by_cases c : j + 1 < N
            · rw [if_pos c, if_neg (show ¬ nI (tx (j + 1)) = (61 : Int32) from fun e => this ⟨c, (nI_eq (b := 61) (by have := B _ c; omega) (by decide)).mp e⟩)]
            · rw [if_neg c, if_neg (by decide)]
          · obtain ⟨c, e⟩ := hf.mp rfl
            rw [if_pos c, e, if_pos (show nI 61 = (61 : Int32) from rfl)]
        have go : ∀ x : Int32, x = b2 f → Ok (bX9_scanOne_79 (nI j) (nI (tx j)) x (wL (wI h 105 k (nI j)) 106 k 0)) (fun p => p.1 = nI (j + adv (sK (tx j) f)) ∧ ∃ pc, rowC h p.2 k (sK (tx j) f) j pc ∧ (sK (tx j) f = 3 → pc = lN 0) ∧ (sK (tx j) f = 2 → pc = lN (q32 []))) := fun x hx => by
          subst hx
          have fin : ∀ a, a = adv (sK (tx j) f) → ((nI j + nI a, wI (wL (wI h 105 k (nI j)) 106 k 0) 104 k (nI (sK (tx j) f))) : Int32 × Hp).1 = nI (j + adv (sK (tx j) f)) ∧ ∃ pc, rowC h (wI (wL (wI h 105 k (nI j)) 106 k 0) 104 k (nI (sK (tx j) f))) k (sK (tx j) f) j pc ∧ (sK (tx j) f = 3 → pc = lN 0) ∧ (sK (tx j) f = 2 → pc = lN (q32 [])) := fun a ha => by
            subst ha
            exact ⟨nI_add _ _, 0, rowC_s, fun e => absurd e s4, fun e => absurd e s3⟩
          simp only [bX9_scanOne_79, bX9_scanOne_138, C_signKind bj, bi_q, lt_q, hk2, ck_of (nI_inb (show k < 401 by omega) (by decide)), nI_ix (show k < 2 ^ 31 by omega), wI_s, wI_k (show (103 : Nat) ≠ 104 by decide)]
          have ev9 : nI (sK (tx j) f) = (9 : Int32) ↔ sK (tx j) f = 9 := nI_eq (b := 9) (by omega) (by decide)
          have ev10 : nI (sK (tx j) f) = (10 : Int32) ↔ sK (tx j) f = 10 := nI_eq (b := 10) (by omega) (by decide)
          have ev12 : nI (sK (tx j) f) = (12 : Int32) ↔ sK (tx j) f = 12 := nI_eq (b := 12) (by omega) (by decide)
          by_cases d1 : sK (tx j) f = 9
          · rw [if_pos (ev9.mpr d1), ok_some]
            exact fin 2 (by unfold adv; rw [if_pos d1])
          · rw [if_neg (fun x => d1 (ev9.mp x))]
            by_cases d2 : sK (tx j) f = 10
            · rw [if_pos (ev10.mpr d2), ok_some]
              exact fin 2 (by unfold adv; rw [if_neg d1, if_pos d2])
            · rw [if_neg (fun x => d2 (ev10.mp x))]
              by_cases d3 : sK (tx j) f = 12
              · rw [if_pos (ev12.mpr d3), ok_some]
                exact fin 2 (by unfold adv; rw [if_neg d1, if_neg d2, if_pos d3])
              · rw [if_neg (fun x => d3 (ev12.mp x)), ok_some]
                exact fin 1 (by unfold adv; rw [if_neg d1, if_neg d2, if_neg d3])
        simp only [fX9_scanOne, hk, ck_of (nI_inb (show k < 401 by omega) (by decide)), nI_ix (show k < 2 ^ 31 by omega), lt_q, wI_k (show (103 : Nat) ≠ 105 by decide), C_byteAt T2 hN (show j < 2 ^ 31 by omega), if_pos hj, bi_q, C_within, rL _ bj, rD _ bj, hl, hd, b2_f, ↓reduceIte, nI_1, C_byteAt T2 hN (show j + 1 < 2 ^ 31 by omega)]
        by_cases c6 : (if j + 1 < N then nI (tx (j + 1)) else -1) = (61 : Int32)
        · rw [if_pos c6]
          rw [if_pos c6] at nx
          exact go 1 (by rw [← nx]; rfl)
        · rw [if_neg c6]
          rw [if_neg c6] at nx
          exact go 0 (by rw [← nx]; rfl)
      · intro h k r7 Q T W hk k4 K
        have df : (if j + 1 < N then nI (tx (j + 1)) else 0) = (61 : Int32) ↔ f = true := by
          rw [hf]
          by_cases c : j + 1 < N
          · rw [if_pos c]
            have bb := B _ c
            exact ⟨fun e => ⟨c, (nI_eq (b := 61) (by omega) (by decide)).mp e⟩, fun e => by rw [e.2]; rfl⟩
          · rw [if_neg c]
            exact ⟨fun e => absurd e (by decide), fun e => absurd e.1 c⟩
        simp only [bX12_cut_7, bX12_cut_67, bX12_cut_291, hk, if_neg (show ¬ (400 : Int32) < nI k from nI_nlt (a := 400) k4 (by decide)), M_byteAt T hN (show j < 2 ^ 31 by omega), if_pos hj, bi_q, lt_q, T.1, if_pos (nI_lt hj (show N < 2 ^ 31 by omega)), if_neg e9, if_neg e10, if_neg e13, if_neg e32, M_isLet, M_isDig, rL _ bj, rD _ bj, hl, hd, b2_f, ↓reduceIte, nI_1, M_byteAt T hN (show j + 1 < 2 ^ 31 by omega), M_sign bj j hk (show k < 403 by omega) _ f df, nI_add]
        exact K 0 0 (fun e => absurd e s4) (fun e => absurd e s3)
    · -- a number
      obtain ⟨n, R⟩ := run_ex (N := N) (tx := tx) (p := dgtP) (N - j) j (Nat.le_refl _)
      have hle := run_le R (by omega)
      have n0 : 0 < n := by
        rcases Nat.eq_zero_or_pos n with h | h
        · subst h; exact absurd ⟨hj, hd⟩ R.2
        · exact h
      refine ⟨if n ≤ 4 then 3 else 1, j + n, if n ≤ 4 then dg tx j n else 0, [], by split <;> omega, by split <;> omega, by omega, hle, ?_, fun e => by split at e <;> omega, ?_, ?_⟩
      · by_cases c : n ≤ 4
        · rw [if_pos c]
          have d := dg_lt (n := n) R.1
          have d2 := Nat.pow_le_pow_right (n := 10) (by decide) c
          omega
        · rw [if_neg c]; omega
      · intro h k T W hk k4
        obtain ⟨T2, W2, hk2⟩ := cs h k T W hk k4
        simp only [fX9_scanOne, hk, ck_of (nI_inb (show k < 401 by omega) (by decide)), nI_ix (show k < 2 ^ 31 by omega), lt_q, wI_k (show (103 : Nat) ≠ 105 by decide), C_byteAt T2 hN (show j < 2 ^ 31 by omega), if_pos hj, bi_q, C_within, rL _ bj, rD _ bj, hl, hd, b2_f, b2_t, i10, ↓reduceIte, bi_id]
        refine (C_scanInt T2 hN B hk2 k4 (by omega) R).mono ?_
        rintro ⟨x, h2⟩ ⟨hx, κ, pc, e, q⟩
        simp only at hx e
        subst hx; subst e
        rcases q with ⟨c, rfl, rfl⟩ | ⟨c, rfl⟩
        · rw [if_pos c, if_pos c]
          exact ⟨rfl, _, rowC_w, fun _ => rfl, fun e => absurd e (by decide)⟩
        · rw [if_neg (show ¬ n ≤ 4 by omega)]
          exact ⟨rfl, _, rowC_w, fun e => absurd e (by decide), fun e => absurd e (by decide)⟩
      · intro h k r7 Q T W hk k4 K
        simp only [bX12_cut_7, bX12_cut_67, bX12_cut_291, hk, if_neg (show ¬ (400 : Int32) < nI k from nI_nlt (a := 400) k4 (by decide)), M_byteAt T hN (show j < 2 ^ 31 by omega), if_pos hj, bi_q, lt_q, T.1, if_pos (nI_lt hj (show N < 2 ^ 31 by omega)), if_neg e9, if_neg e10, if_neg e13, if_neg e32, M_isLet, M_isDig, rL _ bj, rD _ bj, hl, hd, b2_f, b2_t, i10, ↓reduceIte]
        refine M_int T hN B hk k4 (by omega) R fun κ mv q => ?_
        rcases q with ⟨c, rfl, rfl⟩ | ⟨c, rfl⟩
        · rw [if_pos c, if_pos c] at K
          exact K _ _ (fun _ => rfl) (fun e => absurd e (by decide))
        · rw [if_neg (show ¬ n ≤ 4 by omega), if_neg (show ¬ n ≤ 4 by omega)] at K
          exact K _ _ (fun e => absurd e (by decide)) (fun e => absurd e (by decide))
  · -- a word
    obtain ⟨n, R⟩ := run_ex (N := N) (tx := tx) (p := ltrP) (N - j) j (Nat.le_refl _)
    have hle := run_le R (by omega)
    have n0 : 0 < n := by
      rcases Nat.eq_zero_or_pos n with h | h
      · subst h; exact absurd ⟨hj, hl⟩ R.2
      · exact h
    obtain ⟨k0, hk0⟩ := KD_ex (wd tx j n)
    have k33 := KD_33 hk0
    refine ⟨if n ≤ 8 then k0 else 1, j + n, 0, wd tx j n, by split <;> omega, by split <;> omega, by omega, hle, by omega, fun e => ?_, ?_, ?_⟩
    · by_cases c : n ≤ 8
      · exact wd_ok R.1 c
      · rw [if_neg c] at e; omega
    · intro h k T W hk k4
      obtain ⟨T2, W2, hk2⟩ := cs h k T W hk k4
      simp only [fX9_scanOne, hk, ck_of (nI_inb (show k < 401 by omega) (by decide)), nI_ix (show k < 2 ^ 31 by omega), lt_q, wI_k (show (103 : Nat) ≠ 105 by decide), C_byteAt T2 hN (show j < 2 ^ 31 by omega), if_pos hj, bi_q, C_within, rL _ bj, hl, b2_t, i10, ↓reduceIte, bi_id]
      refine (C_scanWord T2 hN B W2 hk2 k4 (by omega) R).mono ?_
      rintro ⟨x, h2⟩ ⟨hx, κ, pc, e, q⟩
      simp only at hx e
      subst hx; subst e
      rcases q with ⟨c, q1, rfl⟩ | ⟨c, rfl⟩
      · rw [if_pos c, KD_un hk0 q1]
        exact ⟨rfl, _, rowC_w, fun e => absurd e (by have := KD_33 q1; omega), fun _ => rfl⟩
      · rw [if_neg (show ¬ n ≤ 8 by omega)]
        exact ⟨rfl, _, rowC_w, fun e => absurd e (by decide), fun e => absurd e (by decide)⟩
    · intro h k r7 Q T W hk k4 K
      simp only [bX12_cut_7, bX12_cut_67, bX12_cut_291, hk, if_neg (show ¬ (400 : Int32) < nI k from nI_nlt (a := 400) k4 (by decide)), M_byteAt T hN (show j < 2 ^ 31 by omega), if_pos hj, bi_q, lt_q, T.1, if_pos (nI_lt hj (show N < 2 ^ 31 by omega)), if_neg e9, if_neg e10, if_neg e13, if_neg e32, M_isLet, rL _ bj, hl, b2_t, i10, ↓reduceIte]
      refine M_word T hN B W hk k4 (by omega) R fun κ mn q => ?_
      rcases q with ⟨c, q1, rfl⟩ | ⟨c, rfl⟩
      · rw [if_pos c, KD_un hk0 q1] at K
        exact K _ _ (fun e => absurd e (by have := KD_33 q1; omega)) (fun _ => rfl)
      · rw [if_neg (show ¬ n ≤ 8 by omega)] at K
        exact K _ _ (fun e => absurd e (by decide)) (fun e => absurd e (by decide))
