theorem getD_mem {ls : List Nat} {i : Nat} (h : i < ls.length) : ls.getD i 0 ∈ ls := by
  rw [List.getD_eq_getElem?_getD, List.getElem?_eq_getElem h]
  exact List.getElem_mem h
theorem getD_l {ps ns : List Nat} {i : Nat} (h : i < ps.length) : (ps ++ ns).getD i 0 = ps.getD i 0 := by
  rw [List.getD_eq_getElem?_getD, List.getD_eq_getElem?_getD, List.getElem?_append, if_pos h]
theorem getD_r {ps ns : List Nat} {i : Nat} (h : ps.length ≤ i) : (ps ++ ns).getD i 0 = ns.getD (i - ps.length) 0 := by
  rw [List.getD_eq_getElem?_getD, List.getD_eq_getElem?_getD, List.getElem?_append, if_neg (by omega)]
theorem yr_keep {S : Sem} {m : Hp} {n y : Nat} {tr : Bool} {q : Nat → Bool} {R : Run} {l : Nat} (h : ¬ R 0 l = 0) : (yrR S m n tr q y R).1 0 l = R 0 l ∧ (yrR S m n tr q y R).1 1 l = R 1 l := by
  have st := (stp_fac (S := S) (m := m) (n := n) (y := y) (tr := tr) (R := R)).trans (stp_pay (S := S) (m := m) (y := y))
  have s := st l
  have s' : payS S m y (facS S m n tr y R) 0 l = R 0 l ∧ payS S m y (facS S m n tr y R) 1 l = R 1 l := by
    rcases s with s | s
    · exact s
    · exact absurd s.1 h
  unfold yrR
  by_cases hq : q y = true
  · rw [if_pos hq]
    obtain ⟨p1, p2, _, _⟩ := look_p (S := S) (m := m) (y := y) 10 (payS S m y (facS S m n tr y R))
    by_cases hm : l ∈ (lookS S m y 10 (payS S m y (facS S m n tr y R))).2
    · exact absurd ((p1 l hm).2.1) (by rw [s'.1]; exact h)
    · rw [(p2 l hm).1, (p2 l hm).2]; exact s'
  · rw [if_neg hq]; exact s'
theorem yr_new {S : Sem} {m : Hp} {n y : Nat} {tr : Bool} {q : Nat → Bool} {R : Run} {l : Nat} (h : l ∈ (yrR S m n tr q y R).2) : l < nL m ∧ (yrR S m n tr q y R).1 1 l = nI y := by
  unfold yrR at h ⊢
  by_cases hq : q y = true
  · rw [if_pos hq] at h ⊢
    have := (look_p (S := S) (m := m) (y := y) 10 (payS S m y (facS S m n tr y R))).1 l h
    exact ⟨this.1, this.2.2.2⟩
  · rw [if_neg hq] at h; exact absurd h (by simp)
theorem C_openedAs {m h : Hp} {o y j : Nat} {R : Run} {ps ns : List Nat} {tr : Bool} (hN : nL m ≤ 10) (H : KC o (nL m) R (ps ++ ns) tr h) (hy : y < 60) (hj : j < 2 ^ 31) (hlen : (ps ++ ns).length ≤ 10) (hp : ∀ l, l ∈ ps → l < nL m ∧ ∃ t, t < y ∧ R 1 l = nI t) (hs : ∀ l, l ∈ ns → l < nL m ∧ R 1 l = nI y) : fX1_openedAs o (nI y) (nI j) h = some (if j < ns.length then nI (ns.getD j 0) else -1, h) := by
  have ll : (ps ++ ns).length = ps.length + ns.length := List.length_append
  unfold fX1_openedAs
  rw [lt_e, lt_e, ← ok_eq]
  refine up0 (fun f i s => lX1_openedAs_5 o f (nI y) (nI j) s (nI i) h) (ps ++ ns).length (by omega) (fun i s => s = nI (i - ps.length) ∧ i - ps.length ≤ j) 0 ⟨by rw [Nat.zero_sub]; rfl, by omega⟩ ?_ ?_
  · rintro f s ⟨_, hij⟩
    simp only [lX1_openedAs_5, bX1_openedAs_5, H.2.1, if_pos (nI_le (Nat.le_refl (ps ++ ns).length) (show (ps ++ ns).length < 2 ^ 31 by omega)), ok_some]
    rw [if_neg (by omega)]
  · rintro f i s hi ⟨hs', hij⟩ K
    have hmem := getD_mem hi
    have hl : (ps ++ ns).getD i 0 < nL m := by
      rcases List.mem_append.mp hmem with hm | hm
      · exact (hp _ hm).1
      · exact (hs _ hm).1
    simp only [lX1_openedAs_5, bX1_openedAs_5, bX1_openedAs_46, H.2.1, if_neg (nI_ge hi (show (ps ++ ns).length < 2 ^ 31 by omega)), ck_of (nI_inb (n := i) (N := 10) (by omega) (by decide)), nI_ix (show i < 2 ^ 31 by omega), H.2.2.1 i hi, ck_of (nI_inb (n := (ps ++ ns).getD i 0) (N := 10) (by omega) (by decide)), nI_ix (show (ps ++ ns).getD i 0 < 2 ^ 31 by omega), H.si hl, lt_e, nI_1]
    by_cases hip : i < ps.length
    · rw [getD_l hip] at hl ⊢
      obtain ⟨_, t, ht, et⟩ := hp _ (getD_mem hip)
      rw [if_neg (by rw [et]; intro x; have := (nI_eq (show t < 2 ^ 31 by omega) (show y < 2 ^ 31 by omega)).mp x; omega)]
      refine K s ⟨?_, by omega⟩
      rw [hs']; congr 1; omega
    · rw [getD_r (by omega)] at hl ⊢
      have hin : i - ps.length < ns.length := by omega
      obtain ⟨_, et⟩ := hs _ (getD_mem hin)
      rw [if_pos et, hs']
      by_cases e : i - ps.length = j
      · rw [if_pos (by rw [e]), ok_some, e, if_pos (by omega)]
      · rw [if_neg (by intro x; exact e ((nI_eq (by omega) hj).mp x)), nI_1]
        exact K _ ⟨by congr 1; omega, by omega⟩
theorem sim_opened0 {S : Sem} {F : Nat} {c m : Hp} (a1 a2 a3 : Int32) (Q : QH S F c m) : SimQ c m (fX11_opened a1 a2 a3 c) (fX12_opened a1 a2 a3 m) := by
  obtain ⟨D, RF, XM', XC'⟩ := Q
  have Q : QH S F c m := ⟨D, RF, XM', XC'⟩
  have s1 := D.2.2.2.2.1.1
  have h60 := RF.1
  simp only [fX11_opened, fX12_opened, M_isKnown RF .refl, C_isKnown RF .refl, M_isYear, C_isYear, bi_some, bi_id]
  cases h1 : rng a1 0 59
  · exact SimQ_no (-1)
  · cases h2 : rng a2 0 (nI F)
    · exact SimQ_no (-1)
    · obtain ⟨y, hy, rfl⟩ := rng_0 (n := 59) (by omega) h1
      obtain ⟨n, hn, rfl⟩ := rng_0 (by omega) h2
      simp only [b2_t, i10, ↓reduceIte]
      have rc := C_runOf (k := 1) (la := y) Q .refl hn (by omega) (by omega) (by omega)
      rw [n1] at rc
      have rm := M_runsK (k := 1) (la := y) Q .refl hn (by omega) (by omega) (by omega)
      rw [n1] at rm
      have iv := inv_run (S := S) (m := m) (n := n) (tr := false) (q := qk 1) y
      have iv1 := inv_run (S := S) (m := m) (n := n) (tr := false) (q := qk 1) (y + 1)
      rw [runS] at rc rm iv1
      simp only at rc rm iv1
      generalize hR : runS S m n false (qk 1) y = R0 at *
      have hp : ∀ l, l ∈ R0.2 → l < nL m ∧ ∃ t, t < y ∧ (yrR S m n false (qk 1) y R0.1).1 1 l = nI t := fun l hl => by
        obtain ⟨b1, b2, t, b3, b4⟩ := iv.2.1 l hl
        have := yr_keep (S := S) (m := m) (n := n) (y := y) (tr := false) (q := qk 1) (R := R0.1) (l := l) (by rw [b2]; decide)
        exact ⟨b1, t, b3, by rw [this.2]; exact b4⟩
      have hs : ∀ l, l ∈ (yrR S m n false (qk 1) y R0.1).2 → l < nL m ∧ (yrR S m n false (qk 1) y R0.1).1 1 l = nI y := fun l hl => yr_new hl
      have hlen := iv1.1
      generalize (yrR S m n false (qk 1) y R0.1).1 = R at *
      generalize (yrR S m n false (qk 1) y R0.1).2 = ns at *
      have mm : ∀ m2 : Hp, h2 = h2 → KM (nL m) R ns m2 → Agr SM m m2 → Ok (bi (fX12_in a3 0 ((m2.1 0 73) - 1) m2) (fun w7 h6 => (if w7 = 0 then some ((-1), h6) else ck (inb a3 10) (some ((h6.1 50 (ix a3)), h6))))) (fun p => p.1 = (if rng a3 0 (nI ns.length - 1) = true then nI (ns.getD (ix a3) 0) else -1) ∧ Agr SM m p.2) := by
        intro m2 _ H a
        rw [M_in, bi_some, H.2.1]
        cases h3 : rng a3 0 (nI ns.length - 1)
        · simp only [b2_f, ↓reduceIte, ok_some]; exact ⟨rfl, a⟩
        · have l10 : ns.length ≤ 10 := by rw [List.length_append] at hlen; omega
          obtain ⟨j, hj, rfl⟩ := (rng_n (by omega)).mp h3
          simp only [b2_t, i10, ↓reduceIte, ck_of (nI_inb (n := j) (N := 10) (by omega) (by decide)), nI_ix (show j < 2 ^ 31 by omega), H.2.2 j hj, ok_some]
          exact ⟨trivial, a⟩
      by_cases h3 : 0 ≤ a3
      · rw [if_pos h3]
        obtain ⟨j, hj, rfl⟩ := nI_of (i_nlt.mpr h3)
        have l10 : (R0.2 ++ ns).length ≤ 10 := by omega
        have er : rng (nI j) 0 (nI ns.length - 1) = decide (j < ns.length) := by
          rw [List.length_append] at l10
          by_cases hjn : j < ns.length
          · rw [decide_eq_true hjn]; exact (rng_n (by omega)).mpr ⟨j, hjn, rfl⟩
          · rw [decide_eq_false hjn, Bool.eq_false_iff]
            intro x
            obtain ⟨i, hi, ei⟩ := (rng_n (n := ns.length) (by omega)).mp x
            have := (nI_eq hj (show i < 2 ^ 31 by omega)).mp ei
            omega
        refine SimQ_of (if rng (nI j) 0 (nI ns.length - 1) = true then nI (ns.getD (ix (nI j)) 0) else -1) ?_ ?_
        · rw [ok_bv]
          refine rc.mono ?_
          rintro c2 ⟨H, a⟩
          rw [C_openedAs s1 H (by omega) hj l10 hp hs, ok_some, er, nI_ix hj]
          refine ⟨?_, a⟩
          by_cases hjn : j < ns.length
          · rw [if_pos hjn, if_pos (decide_eq_true hjn)]
          · rw [if_neg hjn, if_neg (by rw [decide_eq_true_iff]; exact hjn)]
        · rw [ok_bv]
          refine rm.mono ?_
          rintro m2 ⟨H, a⟩
          exact mm m2 rfl H a
      · rw [if_neg h3]
        have er : rng a3 0 (nI ns.length - 1) = false := by
          unfold rng
          rw [decide_eq_false h3]; rfl
        refine SimQ_of (-1) (ok_some.mpr ⟨rfl, .refl⟩) ?_
        rw [ok_bv]
        refine rm.mono ?_
        rintro m2 ⟨H, a⟩
        have := mm m2 rfl H a
        rw [er] at this
        exact this
/-- what years pay -/
theorem for_5 {k j : Nat} {f : Nat → Run → Run} (h : ∀ i T, f i T k j = T k j) {R : Run} : ∀ n, forN n f R k j = R k j
  | 0 => rfl
  | n + 1 => by rw [forN_s, h, for_5 h n]
theorem bec_k {R : Run} {l k j : Nat} {w y : Int32} (h : 2 ≤ k) : becS R l w y k j = R k j := by
  unfold becS; rw [up_k (by omega), up_k (by omega)]
theorem opn_k {R : Run} {l k j : Nat} {w y : Int32} (h : 2 ≤ k) (h6 : k ≠ 6) : opnS R l w y k j = R k j := by
  unfold opnS; rw [up_k h6, bec_k h]
theorem flo_k {m : Hp} {s y : Int32} {R : Run} {k j : Nat} (h : 2 ≤ k) : floS m s y R k j = R k j := for_5 (fun i T => by
  unfold floF
  split
  · exact bec_k h
  · rfl) _
theorem hap_5 {S : Sem} {m : Hp} {tr : Bool} {k j : Nat} {R : Run} : hapS S m tr k R 5 j = R 5 j := by
  unfold hapS
  repeat' split
  · rw [up_k (by decide), up_k (by decide)]
  · rw [up_k (by decide)]
  · rw [up_k (by decide)]
  · rfl
  · exact bec_k (by decide)
  · rfl
  · exact opn_k (by decide) (by decide)
  · rw [opn_k (by decide) (by decide), up_k (by decide)]
  · rfl
  · rw [up_k (by decide)]
  · exact flo_k (by decide)
theorem fac_5 {S : Sem} {m : Hp} {n y j : Nat} {tr : Bool} {R : Run} : facS S m n tr y R 5 j = R 5 j := for_5 (fun i T => by
  unfold facF
  split
  · exact hap_5
  · rfl) _
theorem pay_5 {S : Sem} {m : Hp} {y j : Nat} {R : Run} (h : j ≠ y) : payS S m y R 5 j = R 5 j := for_5 (fun i T => by
  unfold payF
  repeat' split
  · rw [up_j h]
  · rw [up_k (by decide), up_j h]
  · rw [bec_k (by decide), up_k (by decide), up_j h]
  · rfl) _
theorem look_k {S : Sem} {m : Hp} {y k j : Nat} (h : 2 ≤ k) (h6 : k ≠ 6) : ∀ (n : Nat) (R : Run), (lookS S m y n R).1 k j = R k j := by
  intro n
  induction n with
  | zero => intro R; rfl
  | succ n ih =>
    intro R
    rw [lookS]
    cases fdS S m y R with
    | none => rfl
    | some l => simp only; rw [ih, opn_k h h6]
theorem yr_5 {S : Sem} {m : Hp} {n y j : Nat} {tr : Bool} {q : Nat → Bool} {R : Run} (h : j ≠ y) : (yrR S m n tr q y R).1 5 j = R 5 j := by
  unfold yrR
  by_cases hq : q y = true
  · rw [if_pos hq, look_k (by decide) (by decide), pay_5 h, fac_5]
  · rw [if_neg hq]
    show payS S m y (facS S m n tr y R) 5 j = _
    rw [pay_5 h, fac_5]
theorem run_5 {S : Sem} {m : Hp} {n j : Nat} {tr : Bool} {q : Nat → Bool} : ∀ d y, j < y → (runS S m n tr q (y + d)).1 5 j = (runS S m n tr q y).1 5 j := by
  intro d
  induction d with
  | zero => intro y _; rfl
  | succ d ih =>
    intro y h
    rw [← Nat.add_assoc, runS]
    show (yrR S m n tr q (y + d) (runS S m n tr q (y + d)).1).1 5 j = _
    rw [yr_5 (by omega), ih y h]
def sumS (R : Run) (a k : Nat) : Int32 := forN k (fun i s => s + R 5 (a + i)) 0
theorem C_paidFrom {m h : Hp} {o a b : Nat} {R : Run} {ls : List Nat} {tr : Bool} (H : KC o (nL m) R ls tr h) (hb : b < 60) (hab : a ≤ b) : fX1_paidFrom o (nI a) (nI b) h = some (sumS R a (b + 1 - a), h) := by
  unfold fX1_paidFrom
  rw [lt_e, lt_e, ← ok_eq]
  refine upto (fun f i s => lX1_paidFrom_5 o f (nI b) s (nI i) h) (b + 1) (fun i s => a ≤ i ∧ s = sumS R a (i - a)) ?_ ?_ (b + 1 - a) a 0 FU rfl (by omega) (show _ < 20000 by omega) ⟨Nat.le_refl a, by rw [Nat.sub_self]; rfl⟩
  · rintro f s ⟨_, hs⟩
    simp only [lX1_paidFrom_5, bX1_paidFrom_5, if_pos (show nI b < nI (b + 1) from nI_lt (by omega) (by omega)), ok_some]
    rw [hs]
  · rintro f i s hi ⟨hai, hs⟩ K
    simp only [lX1_paidFrom_5, bX1_paidFrom_5, if_neg (show ¬ nI b < nI i from nI_nlt (by omega) (by omega)), if_neg (show ¬ (60 : Int32) ≤ nI i from nI_ge (b := 60) (by omega) (by decide)), ck_of (nI_inb (n := i) (N := 60) (by omega) (by decide)), nI_ix (show i < 2 ^ 31 by omega), H.pa (show i < 60 by omega), lt_e, nI_1]
    refine K _ ⟨by omega, ?_⟩
    rw [show i + 1 - a = i - a + 1 by omega]
    unfold sumS
    rw [forN_s, hs, show a + (i - a) = i by omega]; rfl
theorem M_incomeL {m h : Hp} {a b : Nat} {R : Run} {ls : List Nat} (H : KM (nL m) R ls h) (hb : b < 60) (hab : a ≤ b) : lX12_income_40 FU (nI b) 0 (nI a) h = some (sumS R a (b + 1 - a), h) := by
  rw [← ok_eq]
  refine upto (fun f i s => lX12_income_40 f (nI b) s (nI i) h) (b + 1) (fun i s => a ≤ i ∧ s = sumS R a (i - a)) ?_ ?_ (b + 1 - a) a 0 FU rfl (by omega) (show _ < 20000 by omega) ⟨Nat.le_refl a, by rw [Nat.sub_self]; rfl⟩
  · rintro f s ⟨_, hs⟩
    simp only [lX12_income_40, bX12_income_40, if_pos (show nI b < nI (b + 1) from nI_lt (by omega) (by omega)), ok_some]
    rw [hs]
  · rintro f i s hi ⟨hai, hs⟩ K
    simp only [lX12_income_40, bX12_income_40, if_neg (show ¬ nI b < nI i from nI_nlt (by omega) (by omega)), ck_of (nI_inb (n := i) (N := 60) (by omega) (by decide)), nI_ix (show i < 2 ^ 31 by omega), H.pa (show i < 60 by omega), lt_e, nI_1]
    refine K _ ⟨by omega, ?_⟩
    rw [show i + 1 - a = i - a + 1 by omega]
    unfold sumS
    rw [forN_s, hs, show a + (i - a) = i by omega]; rfl
theorem sim_income0 {S : Sem} {F : Nat} {c m : Hp} (a1 a2 a3 : Int32) (Q : QH S F c m) : SimQ c m (fX11_income a1 a2 a3 c) (fX12_income a1 a2 a3 m) := by
  obtain ⟨D, RF, XM', XC'⟩ := Q
  have Q : QH S F c m := ⟨D, RF, XM', XC'⟩
  have h60 := RF.1
  simp only [fX11_income, fX12_income, M_isKnown RF .refl, C_isKnown RF .refl, M_isYear, C_isYear, bi_some, bi_id, lt_e]
  cases h1 : rng a1 0 (nI F)
  · exact SimQ_no (-1)
  · cases h2 : rng a2 0 59
    · exact SimQ_no (-1)
    · cases h3 : rng a3 0 59
      · exact SimQ_no (-1)
      · obtain ⟨n, hn, rfl⟩ := rng_0 (by omega) h1
        obtain ⟨a, ha, rfl⟩ := rng_0 (n := 59) (by omega) h2
        obtain ⟨b, hb, rfl⟩ := rng_0 (n := 59) (by omega) h3
        simp only [b2_t, i10, ↓reduceIte]
        by_cases hab : a ≤ b
        · rw [if_pos (nI_le hab (by omega)), if_pos (nI_le hab (by omega))]
          have rc := C_runOf (k := 1) (la := b) Q .refl hn (by omega) (by omega) (by omega)
          rw [n1] at rc
          refine SimQ_of (sumS (runS S m n false (qk 1) (b + 1)).1 a (b + 1 - a)) ?_ ?_
          · rw [ok_bv]
            refine rc.mono ?_
            rintro c2 ⟨H, e⟩
            rw [C_paidFrom H (by omega) hab, ok_some]
            exact ⟨rfl, e⟩
          · rw [ok_bv]
            refine (M_runsAll Q .refl hn).mono ?_
            rintro m2 ⟨H, e⟩
            rw [M_incomeL H (by omega) hab, ok_some]
            refine ⟨?_, e⟩
            show sumS _ a (b + 1 - a) = _
            unfold sumS
            refine forN_cg fun i t hi => ?_
            have := run_5 (S := S) (m := m) (n := n) (j := a + i) (tr := false) (q := qk 1) (59 - b) (b + 1) (by omega)
            rw [show b + 1 + (59 - b) = 60 by omega] at this
            rw [this]
        · rw [if_neg (nI_ge (by omega) (by omega)), if_neg (nI_ge (by omega) (by omega))]
          exact SimQ_no (-1)
