theorem or_self' (x : Int32) : x ||| x = x := by
  apply bit_ext
  intro i hi
  rw [bit_or hi, Bool.or_self]
theorem warF_e {o i : Nat} {V : Nat → Int32} : warF o i V = if bit (V i) (nI o) = true then upN V i (V i ||| V o) else V := rfl
theorem war_k {o : Nat} {V : Nat → Int32} (j : Nat) : ∀ k, forN k (warF o) V j = if j < k ∧ bit (V j) (nI o) = true then V j ||| V o else V j := by
  intro k
  induction k generalizing j with
  | zero => rw [forN_0, if_neg (by omega)]
  | succ k ih =>
    rw [forN_s]
    have ho : forN k (warF o) V o = V o := by
      rw [ih o]
      split
      · exact or_self' _
      · rfl
    have hk : forN k (warF o) V k = V k := by rw [ih k, if_neg (by omega)]
    rw [warF_e, hk, ho]
    by_cases e : j = k
    · subst e
      by_cases cb : bit (V j) (nI o) = true
      · rw [if_pos cb, upN_s, if_pos ⟨by omega, cb⟩]
      · rw [if_neg cb, hk, if_neg fun x => cb x.2]
    · have hj : (if bit (V k) (nI o) = true then upN (forN k (warF o) V) k (V k ||| V o) else forN k (warF o) V) j = forN k (warF o) V j := by
        split
        · exact upN_n e
        · rfl
      rw [hj, ih j]
      by_cases c : j < k ∧ bit (V j) (nI o) = true
      · rw [if_pos c, if_pos ⟨by omega, c.2⟩]
      · rw [if_neg c, if_neg fun x => c ⟨by omega, x.2⟩]
theorem warO_b {N o i j : Nat} {V : Nat → Int32} (hi : i < N) (hj : j < 32) : bit (warO N o V i) (nI j) = (bit (V i) (nI j) || (bit (V i) (nI o) && bit (V o) (nI j))) := by
  unfold warO
  rw [war_k]
  by_cases c : bit (V i) (nI o) = true
  · rw [if_pos ⟨hi, c⟩, bit_or hj, c, Bool.true_and]
  · rw [if_neg fun x => c x.2, Bool.eq_false_iff.mpr c, Bool.false_and, Bool.or_false]
def Trs (N t : Nat) (V : Nat → Int32) : Prop := ∀ i j k, i < N → j < t → k < N → bit (V i) (nI j) = true → bit (V j) (nI k) = true → bit (V i) (nI k) = true
theorem trs_war {N : Nat} (hN : N ≤ 10) {V : Nat → Int32} : ∀ t, t ≤ N → Trs N t (forN t (warO N) V) := by
  intro t
  induction t with
  | zero => intro _ i j k _ hj; exact absurd hj (by omega)
  | succ o ih =>
    intro ho i j k hi hj hk h1 h2
    have ih := ih (by omega)
    rw [forN_s] at h1 h2 ⊢
    generalize forN o (warO N) V = W at *
    rw [warO_b hi (by omega)] at h1
    rw [warO_b (show j < N by omega) (by omega)] at h2
    rw [warO_b hi (by omega)]
    rw [Bool.or_eq_true, Bool.and_eq_true] at h1 h2 ⊢
    by_cases ej : j = o
    · subst ej
      have a1 : bit (W i) (nI j) = true := by rcases h1 with h | h; exact h; exact h.1
      have a2 : bit (W j) (nI k) = true := by rcases h2 with h | h; exact h; exact h.2
      exact .inr ⟨a1, a2⟩
    · have hjo : j < o := by omega
      rcases h1 with h1 | ⟨h1, h1'⟩
      · rcases h2 with h2 | ⟨h2, h2'⟩
        · exact .inl (ih i j k hi hjo hk h1 h2)
        · exact .inr ⟨ih i j o hi hjo (by omega) h1 h2, h2'⟩
      · rcases h2 with h2 | ⟨h2, h2'⟩
        · exact .inr ⟨h1, ih o j k (by omega) hjo hk h1' h2⟩
        · exact .inr ⟨h1, h2'⟩
/-- masks as numbers -/
theorem msk_N {f : Nat → Bool} : ∀ {n : Nat}, n ≤ 31 → ∃ a, a < 2 ^ n ∧ mskS f n = nI a ∧ ∀ i, a.testBit i = (decide (i < n) && f i)
  | 0, _ => ⟨0, by decide, rfl, fun i => by simp⟩
  | n + 1, h => by
    obtain ⟨a, ha, e, hb⟩ := msk_N (f := f) (n := n) (by omega)
    rw [mskS_s]
    by_cases hf : f n = true
    · refine ⟨a ||| 2 ^ n, ?_, ?_, fun i => ?_⟩
      · exact Nat.or_lt_two_pow (Nat.lt_of_lt_of_le ha (Nat.pow_le_pow_right (by decide) (by omega))) (Nat.pow_lt_pow_right (by decide) (by omega))
      · rw [if_pos hf, e, s1l n (by omega)]
        apply bit_ext
        intro i hi
        rw [bit_or hi, bit_nI hi, bit_nI hi, bit_nI hi, Nat.testBit_or]
      · rw [Nat.testBit_or, hb, Nat.testBit_two_pow]
        by_cases e2 : n = i
        · subst e2; simp [hf]
        · rw [decide_eq_false e2, Bool.or_false]
          congr 1
          exact decide_eq_decide.mpr (by omega)
    · refine ⟨a, ?_, by rw [if_neg hf, e], fun i => ?_⟩
      · exact Nat.lt_of_lt_of_le ha (Nat.pow_le_pow_right (by decide) (by omega))
      · rw [hb]
        by_cases e2 : n = i
        · subst e2; simp [Bool.eq_false_iff.mpr hf]
        · congr 1
          exact decide_eq_decide.mpr (by omega)
/-- the lowest bit -/
def ctz (a : Nat) : Nat := ((List.range 10).find? (fun i => a.testBit i)).getD 32
theorem ntz_h (x : Int32) (h g : Hp) : fJ6_numberOfTrailingZeros_0f7a4 x h = (fJ6_numberOfTrailingZeros_0f7a4 x g).map (fun p => (p.1, h)) := by
  simp only [fJ6_numberOfTrailingZeros_0f7a4, bJ6_numberOfTrailingZeros_0f7a4_34, bJ6_numberOfTrailingZeros_0f7a4_49, bJ6_numberOfTrailingZeros_0f7a4_62, bJ6_numberOfTrailingZeros_0f7a4_74, lt_q]
  repeat' split
  all_goals rfl
theorem ntz_c : ∀ a, a < 1024 → (fJ6_numberOfTrailingZeros_0f7a4 (nI a) ((fun _ _ => 0), (fun _ _ => 0))).map Prod.fst = some (nI (ctz a)) := by decide +kernel
theorem C_ntz {a : Nat} (ha : a < 1024) (h : Hp) : fJ6_numberOfTrailingZeros_0f7a4 (nI a) h = some (nI (ctz a), h) := by
  rw [ntz_h (nI a) h ((fun _ _ => 0), (fun _ _ => 0))]
  have := ntz_c a ha
  cases hq : fJ6_numberOfTrailingZeros_0f7a4 (nI a) ((fun _ _ => 0), (fun _ _ => 0)) with
  | none => rw [hq] at this; cases this
  | some p =>
    rw [hq] at this
    simp only [Option.map_some, Option.some.injEq] at this
    simp only [Option.map_some, this]
/-- rings -/
def rinF (V : Nat → Int32) (i : Nat) : Bool := mutS V i i && (List.range i).all (fun j => !mutS V i j)
theorem mut_sym {V : Nat → Int32} {i j : Nat} : mutS V i j = mutS V j i := by unfold mutS; rw [Bool.and_comm]
theorem mut_el {V : Nat → Int32} {i j : Nat} (h : mutS V i j = true) : bit (V i) (nI j) = true ∧ bit (V j) (nI i) = true := by
  unfold mutS at h; rwa [Bool.and_eq_true] at h
theorem mut_tr {N : Nat} {V : Nat → Int32} (T : Trs N N V) {i j k : Nat} (hi : i < N) (hj : j < N) (hk : k < N) (h1 : mutS V i j = true) (h2 : mutS V j k = true) : mutS V i k = true := by
  have a := mut_el h1
  have b := mut_el h2
  unfold mutS
  rw [T i j k hi hj hk a.1 b.1, T k j i hk hj hi b.2 a.2]; rfl
theorem mut_rf {N : Nat} {V : Nat → Int32} (T : Trs N N V) {i j : Nat} (hi : i < N) (hj : j < N) (h1 : mutS V i j = true) : mutS V i i = true := mut_tr T hi hj hi h1 (by rw [mut_sym]; exact h1)
theorem C_howMany {A : Nat → Nat} {c m : Hp} (D : RD0 c m) (X : XA A c m) : Ok (fX7_howMany c) (fun p => p.1 = forN (nL m) (fun i n => if rinF (warS (nL m) (fun l => nI (A l))) i = true then n + 1 else n) 0 ∧ Agr SC c p.2) := by
  have s1 := D.2.2.2.2.1.1
  have s3 := D.2.2.2.2.1.2.2
  have T : Trs (nL m) (nL m) (warS (nL m) (fun l => nI (A l))) := trs_war s1 (nL m) (Nat.le_refl _)
  simp only [fX7_howMany, ok_bv, lt_q]
  refine (C_follow D X .refl).mono ?_
  rintro h1 ⟨H, e⟩
  generalize warS (nL m) (fun l => nI (A l)) = V at *
  refine up0 (fun f i s => lX7_howMany_8 f s (nI i) h1) (nL m) (by omega) (fun i s => s = forN i (fun i n => if rinF V i = true then n + 1 else n) 0) 0 rfl ?_ ?_
  · intro f s hs
    rw [lX7_howMany_8]
    simp only [bX7_howMany_8, e.i 108 9 rfl, s3, if_pos (nI_le (Nat.le_refl (nL m)) (show nL m < 2 ^ 31 by omega)), ok_some]
    exact ⟨hs, e⟩
  · intro f i s hi hs K
    obtain ⟨a, ha, ea, hb⟩ := msk_N (f := mutS V i) (n := nL m) (by omega)
    have ha10 : a < 1024 := Nat.lt_of_lt_of_le ha (show 2 ^ nL m ≤ 2 ^ 10 from Nat.pow_le_pow_right (by decide) s1)
    rw [lX7_howMany_8]
    simp only [bX7_howMany_8, bX7_howMany_40, e.i 108 9 rfl, s3, if_neg (nI_ge hi (show nL m < 2 ^ 31 by omega)), C_mutual D e H hi, bi_q, lt_q, nI_1]
    rw [ea, C_ntz ha10]
    simp only [bi_q]
    have yes : rinF V i = true → Ok (lX7_howMany_8 f (s + 1) (nI (i + 1)) h1) (fun p => p.1 = forN (nL m) (fun i n => if rinF V i = true then n + 1 else n) 0 ∧ Agr SC c p.2) := fun hr => K _ (by rw [forN_s, if_pos hr, hs])
    have no : ¬ rinF V i = true → Ok (lX7_howMany_8 f s (nI (i + 1)) h1) (fun p => p.1 = forN (nL m) (fun i n => if rinF V i = true then n + 1 else n) 0 ∧ Agr SC c p.2) := fun hr => K _ (by rw [forN_s, if_neg hr, hs])
    by_cases a0 : a = 0
    · subst a0
      rw [if_pos (show nI 0 = 0 from rfl)]
      refine no fun hr => ?_
      unfold rinF at hr
      rw [Bool.and_eq_true] at hr
      have := hb i
      rw [Nat.zero_testBit, decide_eq_true hi, Bool.true_and] at this
      rw [hr.1] at this; cases this
    · rw [if_neg (nI_ne0 (by omega) (by omega))]
      have hz : ∃ j, j < nL m ∧ mutS V i j = true := by
        refine Decidable.byContradiction fun hn => a0 ?_
        apply Nat.eq_of_testBit_eq
        intro j
        rw [hb, Nat.zero_testBit]
        by_cases hj : j < nL m
        · rw [decide_eq_true hj, Bool.true_and, Bool.eq_false_iff]
          exact fun x => hn ⟨j, hj, x⟩
        · rw [decide_eq_false hj]; rfl
      obtain ⟨j0, hj0, hm0⟩ := hz
      have hii := mut_rf T hi hj0 hm0
      by_cases hr : rinF V i = true
      · have hall : ∀ j, j < i → mutS V i j = false := fun j hj => by
          unfold rinF at hr
          rw [Bool.and_eq_true, List.all_eq_true] at hr
          have := hr.2 j (List.mem_range.mpr hj)
          simpa using this
        have : ctz a = i := by
          unfold ctz
          rw [fd_some (f := fun i => a.testBit i) (n := 10) (i := i) (by omega) (fun j hj => by rw [hb, hall j hj, Bool.and_false]) (by rw [hb, hii, decide_eq_true hi]; rfl)]; rfl
        rw [this, if_pos rfl]; exact yes hr
      · have : ctz a ≠ i := by
          intro ec
          apply hr
          unfold rinF
          rw [hii, Bool.true_and, List.all_eq_true]
          intro j hj
          have hj := List.mem_range.mp hj
          unfold ctz at ec
          cases hf : (List.range 10).find? (fun i => a.testBit i) with
          | none => rw [hf] at ec; simp only [Option.getD_none] at ec; omega
          | some q =>
            rw [hf] at ec
            simp only [Option.getD_some] at ec
            subst ec
            have := (List.find?_range_eq_some.mp hf).2.2 j hj
            rw [hb, decide_eq_true (show j < nL m by omega), Bool.true_and] at this
            simpa using this
        have lt32 : ctz a < 2 ^ 31 := by
          unfold ctz
          cases hf : (List.range 10).find? (fun i => a.testBit i) with
          | none => decide
          | some q => have := fd_el hf; simp only [Option.getD_some]; omega
        rw [if_neg (fun x => this ((nI_eq lt32 (by omega)).mp x))]; exact no hr
theorem M_rings {A : Nat → Nat} {c m : Hp} (D : RD0 c m) (X : XA A c m) : Ok (fX12_rings m) (fun p => p.1 = forN (nL m) (fun i n => if rinF (warS (nL m) (fun l => nI (A l))) i = true then n + 1 else n) 0 ∧ Agr SM m p.2) := by
  have D' := D
  obtain ⟨⟨d1, d2⟩, _, _, _, ⟨s1, s2, s3⟩, _⟩ := D'
  have T : Trs (nL m) (nL m) (warS (nL m) (fun l => nI (A l))) := trs_war s1 (nL m) (Nat.le_refl _)
  simp only [fX12_rings, ok_bv, lt_q]
  have w := M_closes D X (.refl : Agr SM m m) 0
  rw [with_0] at w
  refine w.mono ?_
  rintro h1 ⟨H, e⟩
  generalize warS (nL m) (fun l => nI (A l)) = V at *
  refine up0 (fun f i (s : Int32 × Int32) => lX12_rings_11 f s.1 s.2 (nI i) h1) (nL m) (by omega) (fun i s => s.1 = forN i (fun i n => if rinF V i = true then n + 1 else n) 0 ∧ ∀ j, j < nL m → (bit s.2 (nI j) = true ↔ ∃ l, l < i ∧ mutS V l j = true)) (0, 0) ⟨rfl, fun j hj => by rw [bit_0 (by omega)]; exact ⟨fun x => absurd x (by decide), fun ⟨l, hl, _⟩ => absurd hl (by omega)⟩⟩ ?_ ?_
  · rintro f ⟨s, d⟩ ⟨hs, _⟩
    simp only at hs
    rw [lX12_rings_11]
    simp only [bX12_rings_11, e.i 0 18 rfl, d2, ck_of (nI_inb d1 (by decide)), nI_ix (show lv m < 2 ^ 31 by omega), e.i 17 _ rfl, s2, if_pos (nI_le (Nat.le_refl (nL m)) (show nL m < 2 ^ 31 by omega)), ok_some]
    exact ⟨hs, e⟩
  · rintro f i ⟨s, d⟩ hi ⟨hs, hd⟩ K
    simp only at hs hd
    rw [lX12_rings_11]
    simp only [bX12_rings_11, bX12_rings_55, e.i 0 18 rfl, d2, ck_of (nI_inb d1 (by decide)), nI_ix (show lv m < 2 ^ 31 by omega), e.i 17 _ rfl, s2, if_neg (nI_ge hi (show nL m < 2 ^ 31 by omega)), M_ringOf D e H hi, bi_q, bit_eq1, lt_q, nI_1]
    have ex : ∀ j, (∃ l, l < i + 1 ∧ mutS V l j = true) ↔ (∃ l, l < i ∧ mutS V l j = true) ∨ mutS V i j = true := fun j => by
      constructor
      · rintro ⟨l, hl, h⟩
        by_cases el : l = i
        · subst el; exact .inr h
        · exact .inl ⟨l, by omega, h⟩
      · rintro (⟨l, hl, h⟩ | h)
        · exact ⟨l, by omega, h⟩
        · exact ⟨i, by omega, h⟩
    by_cases c1 : bit d (nI i) = true
    · rw [if_pos c1]
      obtain ⟨l, hl, hm⟩ := (hd i hi).mp c1
      have hr : ¬ rinF V i = true := fun hr => by
        unfold rinF at hr
        rw [Bool.and_eq_true, List.all_eq_true] at hr
        have := hr.2 l (List.mem_range.mpr hl)
        rw [mut_sym, hm] at this; cases this
      refine K (s, d) ⟨by rw [forN_s, if_neg hr, ← hs], fun j hj => ?_⟩
      rw [ex j, hd j hj]
      refine ⟨.inl, fun h => ?_⟩
      rcases h with h | h
      · exact h
      · exact ⟨l, hl, mut_tr T (by omega) hi hj hm h⟩
    · rw [if_neg c1]
      obtain ⟨a, ha, ea, hb⟩ := msk_N (f := mutS V i) (n := nL m) (by omega)
      have ha10 : a < 1024 := Nat.lt_of_lt_of_le ha (show 2 ^ nL m ≤ 2 ^ 10 from Nat.pow_le_pow_right (by decide) s1)
      have hnl : ∀ l, l < i → mutS V i l = false := fun l hl => by
        rw [Bool.eq_false_iff]
        intro x
        exact c1 ((hd i hi).mpr ⟨l, hl, by rw [mut_sym]; exact x⟩)
      rw [ea]
      by_cases a0 : a = 0
      · subst a0
        rw [if_pos (show nI 0 = 0 from rfl)]
        have hno : ∀ j, j < nL m → mutS V i j = false := fun j hj => by
          have := hb j
          rw [Nat.zero_testBit, decide_eq_true hj, Bool.true_and] at this
          exact this.symm
        have hr : ¬ rinF V i = true := fun hr => by
          unfold rinF at hr
          rw [Bool.and_eq_true, hno i hi] at hr
          exact absurd hr.1 (by decide)
        refine K (s, d) ⟨by rw [forN_s, if_neg hr, ← hs], fun j hj => ?_⟩
        rw [ex j, hd j hj, hno j hj]
        simp
      · rw [if_neg (nI_ne0 (by omega) (by omega))]
        have hz : ∃ j, j < nL m ∧ mutS V i j = true := by
          refine Decidable.byContradiction fun hn => a0 ?_
          apply Nat.eq_of_testBit_eq
          intro j
          rw [hb, Nat.zero_testBit]
          by_cases hj : j < nL m
          · rw [decide_eq_true hj, Bool.true_and, Bool.eq_false_iff]
            exact fun x => hn ⟨j, hj, x⟩
          · rw [decide_eq_false hj]; rfl
        obtain ⟨j0, hj0, hm0⟩ := hz
        have hii := mut_rf T hi hj0 hm0
        have hr : rinF V i = true := by
          unfold rinF
          rw [hii, Bool.true_and, List.all_eq_true]
          intro j hj
          rw [hnl j (List.mem_range.mp hj)]; rfl
        refine K (s + 1, d ||| nI a) ⟨by rw [forN_s, if_pos hr, ← hs], fun j hj => ?_⟩
        show bit (d ||| nI a) (nI j) = true ↔ _
        rw [bit_or (by omega), bit_nI (by omega), hb, decide_eq_true hj, Bool.true_and, Bool.or_eq_true, ex j, hd j hj]
theorem sim_rings0 {A : Nat → Nat} {c m : Hp} (D : RD0 c m) (X : XA A c m) : SimQ c m (fX11_rings c) (fX12_rings m) := by
  simp only [fX11_rings, bi_id]
  exact SimQ_of _ (C_howMany D X) (M_rings D X)
