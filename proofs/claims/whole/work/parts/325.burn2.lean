theorem C_leavesRings {A : Nat → Nat} {c m h : Hp} (D : RD0 c m) (X : XA A c m) (e : Agr SC c h) (x : Int32) : fX7_leavesRings x h = some (b2 (!decide (peS A (nL m) 10 x = 0)), h) := by
  obtain ⟨_, _, _, _, ⟨s1, s2, s3⟩, _⟩ := D
  unfold fX7_leavesRings
  rw [lt_q, lt_q, ← ok_eq]
  refine up0 (fun f i s => lX7_leavesRings_4 f s (nI i) h) 10 (by decide) (fun i s => s = peS A (nL m) i x) x rfl ?_ ?_
  · intro f s hs
    rw [lX7_leavesRings_4]
    simp only [bX7_leavesRings_4, if_pos (show (10 : Int32) ≤ nI 10 by decide), ck_of zb_0, ck_of zb_1]
    rw [hs]
    by_cases c0 : peS A (nL m) 10 x = 0
    · rw [if_pos c0, ok_some, decide_eq_true c0]; rfl
    · rw [if_neg c0, ok_some, decide_eq_false c0]; rfl
  · intro f k s hk hs K
    rw [lX7_leavesRings_4]
    simp only [bX7_leavesRings_4, if_neg (show ¬ (10 : Int32) ≤ nI k from nI_ge (b := 10) hk (by decide)), lt_q]
    refine up0 (fun g i s => lX7_leavesRings_13 (lX7_leavesRings_4 f) g s (nI k) (nI i) h) (nL m) (by omega) (fun i s => s = forN i (peF A) (peS A (nL m) k x)) s hs ?_ ?_
    · intro g s' hs'
      rw [lX7_leavesRings_13]
      simp only [bX7_leavesRings_13, e.i 108 9 rfl, s3, if_pos (nI_le (Nat.le_refl (nL m)) (show nL m < 2 ^ 31 by omega)), lt_q, nI_1]
      exact K s' hs'
    · intro g i s' hi hs' K2
      rw [lX7_leavesRings_13]
      simp only [bX7_leavesRings_13, bX7_leavesRings_61, e.i 108 9 rfl, s3, if_neg (nI_ge hi (show nL m < 2 ^ 31 by omega)), C_has, bi_q, b2_0, ck_of (nI_inb (n := i) (N := 10) (by omega) (by decide)), nI_ix (show i < 2 ^ 31 by omega), SC_l e (show i < 10 by omega), (X i hi).2.1, lt_q, nI_1]
      have fs : forN (i + 1) (peF A) (peS A (nL m) k x) = peF A i s' := by rw [forN_s, ← hs']
      by_cases c1 : bit s' (nI i) = true
      · rw [if_neg (by rw [c1]; decide)]
        by_cases c2 : nI (A i) &&& s' = 0
        · rw [if_pos c2]; apply K2; rw [fs]; unfold peF; rw [if_pos ⟨c1, c2⟩]
        · rw [if_neg c2]; apply K2; rw [fs]; unfold peF; rw [if_neg fun z => c2 z.2]
      · rw [if_pos (by simpa using c1)]; apply K2; rw [fs]; unfold peF; rw [if_neg fun z => c1 z.1]
theorem pop_lt : ∀ N, N < 11 → ∀ s, s < 2 ^ N - 1 → pop s < pop (2 ^ N - 1) := by decide +kernel
theorem pop_10 : ∀ a, a < 1024 → pop a ≤ 10 := by decide +kernel
/-- the first of the least -/
def bstS (g : Nat → Bool) : Nat → Option Nat
  | 0 => none
  | s + 1 => match bstS g s with
    | none => if g s = true then some s else none
    | some b => if pop b ≤ pop s then some b else if g s = true then some s else some b
theorem bst_lt {g : Nat → Bool} : ∀ s b, bstS g s = some b → b < s
  | 0, b, h => by cases h
  | s + 1, b, h => by
    rw [bstS] at h
    cases hb : bstS g s with
    | none =>
      rw [hb] at h
      simp only at h
      by_cases c : g s = true
      · rw [if_pos c] at h; cases h; omega
      · rw [if_neg c] at h; cases h
    | some b' =>
      rw [hb] at h
      simp only at h
      have := bst_lt s b' hb
      by_cases c : pop b' ≤ pop s
      · rw [if_pos c] at h; cases h; omega
      · rw [if_neg c] at h
        by_cases c2 : g s = true
        · rw [if_pos c2] at h; cases h; omega
        · rw [if_neg c2] at h; cases h; omega
def kepS (N s : Nat) : Int32 := nI (2 ^ N - 1) &&& (nI s ^^^ (-1))
theorem kep_b {N s i : Nat} (hN : N ≤ 10) (hi : i < 32) : bit (kepS N s) (nI i) = (decide (i < N) && !bit (nI s) (nI i)) := by
  unfold kepS
  rw [bit_and hi, bit_not hi, bit_nI hi, Nat.testBit_two_pow_sub_one]
theorem sim_burn0 {A : Nat → Nat} {c m : Hp} (D : RD0 c m) (X : XA A c m) : SimQ c m (fX11_burn c) (fX12_burn m) := by
  have D' := D
  obtain ⟨⟨d1, d2⟩, _, _, _, ⟨s1, s2, s3⟩, _⟩ := D'
  have p10 : 2 ^ nL m ≤ 1024 := show 2 ^ nL m ≤ 2 ^ 10 from Nat.pow_le_pow_right (by decide) s1
  have p1 : 1 ≤ 2 ^ nL m := Nat.one_le_two_pow
  have hg : ∀ s, (∃ i, i < nL m ∧ bit (warS (nL m) (withS A (nI s)) i) (nI i) = true) ↔ ¬ peS A (nL m) 10 (kepS (nL m) s) = 0 := fun s => by
    rw [peS_end s1 (fun l hl => (X l hl).1) (fun j hj hj2 => by rw [kep_b s1 hj2, decide_eq_false (by omega)]; rfl)]
    exact cyc_diag s1 fun i hi => by rw [kep_b s1 (by omega), decide_eq_true hi, Bool.true_and]
  have sh : (1 : Int32) <<< (nI (nL m) &&& 31) = nI (2 ^ nL m) := s1l _ (by omega)
  have hall : nI (2 ^ nL m) - 1 = nI (2 ^ nL m - 1) := nI_sub1 (by omega)
  have go : peS A (nL m) 10 (kepS (nL m) (2 ^ nL m - 1)) = 0 := by
    refine Decidable.byContradiction fun hn => ?_
    rw [peS_end s1 (fun l hl => (X l hl).1) (fun j hj hj2 => by rw [kep_b s1 hj2, decide_eq_false (by omega)]; rfl)] at hn
    obtain ⟨C, ⟨i, hi, hc⟩, hC⟩ := hn
    have := (hC i hi hc).1
    rw [kep_b s1 (by omega), bit_nI (by omega), Nat.testBit_two_pow_sub_one, decide_eq_true hi] at this
    cases this
  refine SimQ_of (match bstS (fun s => decide (peS A (nL m) 10 (kepS (nL m) s) = 0)) (2 ^ nL m - 1) with | none => nI (2 ^ nL m - 1) | some b => nI b) ?_ ?_
  · simp only [fX11_burn, bi_id, fX7_fewestToBurn, s3, sh, hall, lt_q]
    refine up0 (fun f i s => lX7_fewestToBurn_16 f (nI (2 ^ nL m - 1)) s (nI i) c) (2 ^ nL m - 1) (by omega) (fun i s => s = (match bstS (fun s => decide (peS A (nL m) 10 (kepS (nL m) s) = 0)) i with | none => nI (2 ^ nL m - 1) | some b => nI b)) (nI (2 ^ nL m - 1)) rfl ?_ ?_
    · intro f s hs
      rw [lX7_fewestToBurn_16]
      simp only [bX7_fewestToBurn_16, if_pos (nI_le (Nat.le_refl (2 ^ nL m - 1)) (show 2 ^ nL m - 1 < 2 ^ 31 by omega)), ok_some]
      exact ⟨hs, .refl⟩
    · intro f i s hi hs K
      have st : bstS (fun s => decide (peS A (nL m) 10 (kepS (nL m) s) = 0)) (i + 1) = _ := bstS.eq_2 _ _
      have pi := pop_10 i (by omega)
      rw [lX7_fewestToBurn_16]
      simp only [bX7_fewestToBurn_16, bX7_fewestToBurn_46, if_neg (nI_ge hi (show 2 ^ nL m - 1 < 2 ^ 31 by omega)), C_bitCount (show i < 1024 by omega), bi_q, lt_q, nI_1, C_leavesRings D X .refl, show nI (2 ^ nL m - 1) &&& (nI i ^^^ (-1)) = kepS (nL m) i from rfl]
      cases hb : bstS (fun s => decide (peS A (nL m) 10 (kepS (nL m) s) = 0)) i with
      | none =>
        rw [hb] at hs st
        simp only at hs st
        subst hs
        have pl := pop_lt (nL m) (by omega) i hi
        have pa := pop_10 (2 ^ nL m - 1) (by omega)
        rw [C_bitCount (by omega)]
        simp only [bi_q, if_neg (nI_ge pl (show pop (2 ^ nL m - 1) < 2 ^ 31 by omega)), C_leavesRings D X (.refl : Agr SC c c), b2_0]
        by_cases cg : peS A (nL m) 10 (kepS (nL m) i) = 0
        · rw [if_pos (by rw [decide_eq_true cg]; rfl)]
          apply K; rw [st, if_pos (decide_eq_true cg)]
        · rw [if_neg (by rw [decide_eq_false cg]; decide)]
          apply K; rw [st, if_neg (by rw [decide_eq_true_iff]; exact cg)]
      | some b =>
        rw [hb] at hs st
        simp only at hs st
        subst hs
        have hbl := bst_lt _ _ hb
        have pb := pop_10 b (by omega)
        rw [C_bitCount (by omega)]
        simp only [bi_q, C_leavesRings D X (.refl : Agr SC c c), b2_0]
        by_cases cp : pop b ≤ pop i
        · rw [if_pos (nI_le cp (by omega))]
          apply K; rw [st, if_pos cp]
        · rw [if_neg (nI_ge (by omega) (by omega))]
          by_cases cg : peS A (nL m) 10 (kepS (nL m) i) = 0
          · rw [if_pos (by rw [decide_eq_true cg]; rfl)]
            apply K; rw [st, if_neg cp, if_pos (decide_eq_true cg)]
          · rw [if_neg (by rw [decide_eq_false cg]; decide)]
            apply K; rw [st, if_neg cp, if_neg (by rw [decide_eq_true_iff]; exact cg)]
  · unfold fX12_burn
    rw [lt_q, lt_q]
    refine up0 (fun f i (s : Int32 × Hp) => lX12_burn_4 f s.1 (nI i) s.2) (2 ^ nL m) (by omega) (fun i s => s.1 = (match bstS (fun s => decide (peS A (nL m) 10 (kepS (nL m) s) = 0)) i with | none => -1 | some b => nI b) ∧ Agr SM m s.2) (-1, m) ⟨rfl, .refl⟩ ?_ ?_
    · rintro f ⟨s, h⟩ ⟨hs, e⟩
      simp only at hs e
      rw [lX12_burn_4]
      simp only [bX12_burn_4, e.i 0 18 rfl, d2, ck_of (nI_inb d1 (by decide)), nI_ix (show lv m < 2 ^ 31 by omega), e.i 17 _ rfl, s2, sh, if_pos (nI_le (Nat.le_refl (2 ^ nL m)) (show 2 ^ nL m < 2 ^ 31 by omega)), ok_some]
      refine ⟨hs.trans ?_, e⟩
      have st : bstS (fun s => decide (peS A (nL m) 10 (kepS (nL m) s) = 0)) (2 ^ nL m - 1 + 1) = _ := bstS.eq_2 _ _
      rw [show 2 ^ nL m - 1 + 1 = 2 ^ nL m by omega] at st
      cases hb : bstS (fun s => decide (peS A (nL m) 10 (kepS (nL m) s) = 0)) (2 ^ nL m - 1) with
      | none =>
        rw [hb] at st
        simp only at st
        rw [if_pos (decide_eq_true go)] at st
        rw [st]
      | some b =>
        rw [hb] at st
        simp only at st
        have hbl := bst_lt _ _ hb
        have pl := pop_lt (nL m) (by omega) b hbl
        rw [if_pos (by omega)] at st
        rw [st]
    · rintro f i ⟨s, h⟩ hi ⟨hs, e⟩ K
      simp only at hs e
      have st : bstS (fun s => decide (peS A (nL m) 10 (kepS (nL m) s) = 0)) (i + 1) = _ := bstS.eq_2 _ _
      have pi := pop_10 i (by omega)
      rw [lX12_burn_4]
      simp only [bX12_burn_4, bX12_burn_35, bX12_burn_48, e.i 0 18 rfl, d2, ck_of (nI_inb d1 (by decide)), nI_ix (show lv m < 2 ^ 31 by omega), e.i 17 _ rfl, s2, sh, if_neg (nI_ge hi (show 2 ^ nL m < 2 ^ 31 by omega)), M_bits, bi_q, lt_q, nI_1]
      have hr : ∀ v : Int32, (decide (peS A (nL m) 10 (kepS (nL m) i) = 0) = true → bstS (fun s => decide (peS A (nL m) 10 (kepS (nL m) s) = 0)) (i + 1) = some i) → (¬ decide (peS A (nL m) 10 (kepS (nL m) i) = 0) = true → v = (match bstS (fun s => decide (peS A (nL m) 10 (kepS (nL m) s) = 0)) (i + 1) with | none => -1 | some b => nI b)) → Ok (bi (fX12_hasRings (nI i) h) (fun w2 h1 => (if w2 = 0 then lX12_burn_4 f (nI i) (nI (i + 1)) h1 else lX12_burn_4 f v (nI (i + 1)) h1))) (fun p => p.1 = (match bstS (fun s => decide (peS A (nL m) 10 (kepS (nL m) s) = 0)) (2 ^ nL m - 1) with | none => nI (2 ^ nL m - 1) | some b => nI b) ∧ Agr SM m p.2) := by
        intro v y n
        rw [ok_bi]
        refine (M_hasRings D X e (nI i)).mono ?_
        rintro ⟨r, h2⟩ ⟨h01, hri, e2⟩
        simp only at h01 hri e2
        rw [hg i] at hri
        by_cases cg : peS A (nL m) 10 (kepS (nL m) i) = 0
        · have r0 : r = 0 := by
            rcases h01 with h | h
            · exact h
            · exact absurd cg (hri.mp h)
          rw [if_pos r0]
          refine K (nI i, h2) ⟨?_, e2⟩
          rw [y (decide_eq_true cg)]
        · have r1 : r = 1 := hri.mpr cg
          rw [if_neg (show ¬ r = 0 by rw [r1]; decide)]
          exact K (v, h2) ⟨n (by rw [decide_eq_true_iff]; exact cg), e2⟩
      cases hb : bstS (fun s => decide (peS A (nL m) 10 (kepS (nL m) s) = 0)) i with
      | none =>
        rw [hb] at hs st
        simp only at hs st
        subst hs
        rw [if_pos rfl]
        refine hr (-1) (fun y => by rw [st, if_pos y]) (fun n => by rw [st, if_neg n])
      | some b =>
        rw [hb] at hs st
        simp only at hs st
        subst hs
        have hbl := bst_lt _ _ hb
        have pb := pop_10 b (by omega)
        have nb : ¬ nI b = -1 := fun x => by
          have := nI_pos (n := b) (by omega)
          rw [x] at this
          exact this (by decide)
        rw [if_neg nb, M_bits]
        simp only [bi_q]
        by_cases cp : pop b ≤ pop i
        · rw [if_pos (nI_le cp (by omega))]
          refine K (nI b, h) ⟨?_, e⟩
          rw [st, if_pos cp]
        · rw [if_neg (nI_ge (by omega) (by omega))]
          refine hr (nI b) (fun y => by rw [st, if_neg cp, if_pos y]) (fun n => by rw [st, if_neg cp, if_neg n])
