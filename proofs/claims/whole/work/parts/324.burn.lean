theorem foldl_s {f : Nat → Nat → Nat} {i a : Nat} : (List.range (i + 1)).foldl f a = f ((List.range i).foldl f a) i := by
  rw [List.range_succ, List.foldl_append]; rfl
theorem M_bits {a : Nat} (h : Hp) : fX12_bits (nI a) h = some (nI (pop a), h) := by
  unfold fX12_bits
  rw [lt_q, lt_q, ← ok_eq]
  refine up0 (fun f i s => lX12_bits_4 f (nI a) s (nI i) h) 10 (by decide) (fun i s => s = nI ((List.range i).foldl (fun n i => n + (if a.testBit i = true then 1 else 0)) 0)) 0 rfl ?_ ?_
  · intro f s hs
    rw [lX12_bits_4]
    simp only [bX12_bits_4, if_pos (show (10 : Int32) ≤ nI 10 by decide), ok_some]
    rw [hs]; rfl
  · intro f i s hi hs K
    rw [lX12_bits_4]
    simp only [bX12_bits_4, if_neg (show ¬ (10 : Int32) ≤ nI i from nI_ge (b := 10) hi (by decide)), lt_q, nI_1]
    apply K
    rw [foldl_s, hs]
    have hb : bit (nI a) (nI i) = a.testBit i := bit_nI (by omega)
    cases ht : a.testBit i
    · rw [ht] at hb
      rw [bit_f.mp hb, if_neg (by decide), Int32.add_zero, Nat.add_zero]
    · rw [ht] at hb
      rw [bit_t.mp hb, if_pos rfl, nI_1]
/-- sets of letters of which each asks for one of the set -/
def Cyc (N : Nat) (A : Nat → Nat) (x : Int32) : Prop := ∃ C : Nat → Bool, (∃ i, i < N ∧ C i = true) ∧ ∀ i, i < N → C i = true → bit x (nI i) = true ∧ ∃ j, j < N ∧ C j = true ∧ (A i).testBit j = true
/-- the closure -/
theorem war_up {N i j : Nat} {V : Nat → Int32} (hi : i < N) (hj : j < 32) (h : bit (V i) (nI j) = true) : ∀ t, bit (forN t (warO N) V i) (nI j) = true
  | 0 => h
  | t + 1 => by rw [forN_s, warO_b hi hj, war_up hi hj h t]; rfl
theorem war_in {N : Nat} (hN : N ≤ 10) {V : Nat → Int32} : ∀ t, t ≤ N → ∀ i k, i < N → k < N → bit (forN t (warO N) V i) (nI k) = true → ∃ x, x < N ∧ bit (V i) (nI x) = true ∧ (x = k ∨ bit (forN t (warO N) V x) (nI k) = true) := by
  intro t
  induction t with
  | zero => intro _ i k hi hk h; exact ⟨k, hk, h, .inl rfl⟩
  | succ o ih =>
    intro ho i k hi hk h
    have ih := ih (by omega)
    rw [forN_s, warO_b hi (by omega), Bool.or_eq_true, Bool.and_eq_true] at h
    rcases h with h | ⟨h1, h2⟩
    · obtain ⟨x, hx, hv, hh⟩ := ih i k hi hk h
      refine ⟨x, hx, hv, hh.imp id fun h => ?_⟩
      rw [forN_s, warO_b hx (by omega), h]; rfl
    · obtain ⟨x, hx, hv, hh⟩ := ih i o hi (by omega) h1
      refine ⟨x, hx, hv, .inr ?_⟩
      rcases hh with rfl | hh
      · rw [forN_s, warO_b hx (by omega), h2]; rfl
      · rw [forN_s, warO_b hx (by omega), hh, h2, Bool.and_self, Bool.or_true]
def cn (N : Nat) (x : Int32) : Nat := (List.range N).countP (fun i => bit x (nI i))
theorem cn_s {N : Nat} {x : Int32} : cn (N + 1) x = cn N x + (if bit x (nI N) = true then 1 else 0) := by
  unfold cn
  rw [List.range_succ, List.countP_append, List.countP_cons, List.countP_nil]; simp
theorem cn_0 {x : Int32} : cn 0 x = 0 := rfl
theorem cn_le {x y : Int32} {N : Nat} (h : ∀ i, i < N → bit y (nI i) = true → bit x (nI i) = true) : cn N y ≤ cn N x := by
  induction N with
  | zero => rw [cn_0, cn_0]; exact Nat.le_refl 0
  | succ N ih =>
    rw [cn_s, cn_s]
    have := ih (fun i hi => h i (by omega))
    by_cases c : bit y (nI N) = true
    · rw [if_pos c, if_pos (h N (by omega) c)]; omega
    · rw [if_neg c]; omega
theorem cn_lt {x y : Int32} {N k : Nat} (hk : k < N) (h : ∀ i, i < N → bit y (nI i) = true → bit x (nI i) = true) (h1 : bit x (nI k) = true) (h2 : ¬ bit y (nI k) = true) : cn N y < cn N x := by
  induction N with
  | zero => exact absurd hk (by omega)
  | succ N ih =>
    rw [cn_s, cn_s]
    by_cases e : k = N
    · subst e
      have := cn_le (x := x) (y := y) (N := k) (fun i hi => h i (by omega))
      rw [if_neg h2, if_pos h1]; omega
    · have := ih (by omega) (fun i hi => h i (by omega))
      by_cases c : bit y (nI N) = true
      · rw [if_pos c, if_pos (h N (by omega) c)]; omega
      · rw [if_neg c]; omega
theorem cn_N {N : Nat} {x : Int32} : cn N x ≤ N := by
  have := List.countP_le_length (p := fun i => bit x (nI i)) (l := List.range N)
  rwa [List.length_range] at this
/-- a letter in a ring of the closure, or none: as sets say it -/
theorem cyc_diag {N : Nat} (hN : N ≤ 10) {A : Nat → Nat} {wo x : Int32} (hx : ∀ i, i < N → bit x (nI i) = !bit wo (nI i)) : (∃ i, i < N ∧ bit (warS N (withS A wo) i) (nI i) = true) ↔ Cyc N A x := by
  have T := trs_war hN (V := withS A wo) N (Nat.le_refl _)
  have I := war_in hN (V := withS A wo) N (Nat.le_refl _)
  have Up : ∀ i j, i < N → j < N → bit (withS A wo i) (nI j) = true → bit (warS N (withS A wo) i) (nI j) = true := fun i j hi hj h => war_up hi (by omega) h N
  have ed : ∀ i j, i < N → j < N → (bit (withS A wo i) (nI j) = true ↔ bit x (nI i) = true ∧ bit x (nI j) = true ∧ (A i).testBit j = true) := fun i j hi hj => by
    unfold withS
    rw [hx i hi, hx j hj]
    by_cases c : bit wo (nI i) = true
    · rw [if_pos c, bit_0 (by omega), c]; simp
    · rw [if_neg c, bit_and (by omega), bit_nI (by omega), bit_not (by omega), Bool.eq_false_iff.mpr c]
      simp [and_comm]
  change Trs N N (warS N (withS A wo)) at T
  change ∀ i k, i < N → k < N → bit (warS N (withS A wo) i) (nI k) = true → ∃ x, x < N ∧ bit (withS A wo i) (nI x) = true ∧ (x = k ∨ bit (warS N (withS A wo) x) (nI k) = true) at I
  generalize warS N (withS A wo) = V at *
  constructor
  · rintro ⟨i, hi, hd⟩
    refine ⟨fun j => bit (V i) (nI j) && bit (V j) (nI i), ⟨i, hi, show (bit (V i) (nI i) && bit (V i) (nI i)) = true by rw [hd]; rfl⟩, fun j hj hc => ?_⟩
    change (bit (V i) (nI j) && bit (V j) (nI i)) = true at hc
    rw [Bool.and_eq_true] at hc
    obtain ⟨y, hy, hv, hh⟩ := I j i hj hi hc.2
    obtain ⟨e1, e2, e3⟩ := (ed j y hj hy).mp hv
    refine ⟨e1, y, hy, ?_, e3⟩
    have a1 : bit (V i) (nI y) = true := T i j y hi hj hy hc.1 (Up j y hj hy hv)
    rcases hh with rfl | hh
    · show (bit (V y) (nI y) && bit (V y) (nI y)) = true
      rw [hd]; rfl
    · show (bit (V i) (nI y) && bit (V y) (nI i)) = true
      rw [a1, hh]; rfl
  · rintro ⟨C, ⟨i0, hi0, hc0⟩, hC⟩
    refine Decidable.byContradiction fun hno => ?_
    have hnd : ∀ i, i < N → ¬ bit (V i) (nI i) = true := fun i hi h => hno ⟨i, hi, h⟩
    have key : ∀ n i, i < N → C i = true → cn N (V i) ≤ n → False := by
      intro n
      induction n with
      | zero =>
        intro i hi hc hn
        obtain ⟨b1, j, hj, hcj, ha⟩ := hC i hi hc
        have e1 := Up i j hi hj ((ed i j hi hj).mpr ⟨b1, (hC j hj hcj).1, ha⟩)
        have lt := cn_lt (x := V i) (y := V j) hj (fun k hk h => T i j k hi hj hk e1 h) e1 (hnd j hj)
        omega
      | succ n ih =>
        intro i hi hc hn
        obtain ⟨b1, j, hj, hcj, ha⟩ := hC i hi hc
        have e1 := Up i j hi hj ((ed i j hi hj).mpr ⟨b1, (hC j hj hcj).1, ha⟩)
        have lt := cn_lt (x := V i) (y := V j) hj (fun k hk h => T i j k hi hj hk e1 h) e1 (hnd j hj)
        exact ih j hj hcj (by omega)
    exact key _ i0 hi0 hc0 (Nat.le_refl _)
theorem M_hasRings {A : Nat → Nat} {c m h : Hp} (D : RD0 c m) (X : XA A c m) (e : Agr SM m h) (wo : Int32) : Ok (fX12_hasRings wo h) (fun p => (p.1 = 0 ∨ p.1 = 1) ∧ (p.1 = 1 ↔ ∃ i, i < nL m ∧ bit (warS (nL m) (withS A wo) i) (nI i) = true) ∧ Agr SM m p.2) := by
  have D' := D
  obtain ⟨⟨d1, d2⟩, _, _, _, ⟨s1, s2, s3⟩, _⟩ := D'
  simp only [fX12_hasRings, ok_bv, lt_q]
  refine (M_closes D X e wo).mono ?_
  rintro h1 ⟨H, e1⟩
  generalize warS (nL m) (withS A wo) = V at *
  refine up0 (fun f i (_ : Unit) => lX12_hasRings_7 f (nI i) h1) (nL m) (by omega) (fun i _ => ∀ j, j < i → ¬ bit (V j) (nI j) = true) () (fun j hj => absurd hj (by omega)) ?_ ?_
  · intro f _ hI
    rw [lX12_hasRings_7]
    simp only [bX12_hasRings_7, e1.i 0 18 rfl, d2, ck_of (nI_inb d1 (by decide)), nI_ix (show lv m < 2 ^ 31 by omega), e1.i 17 _ rfl, s2, if_pos (nI_le (Nat.le_refl (nL m)) (show nL m < 2 ^ 31 by omega)), ck_of zb_0, ok_some]
    exact ⟨.inl trivial, ⟨fun x => absurd x (by decide), fun ⟨i, hi, hb⟩ => absurd hb (hI i hi)⟩, e1⟩
  · intro f i _ hi hI K
    rw [lX12_hasRings_7]
    simp only [bX12_hasRings_7, e1.i 0 18 rfl, d2, ck_of (nI_inb d1 (by decide)), nI_ix (show lv m < 2 ^ 31 by omega), e1.i 17 _ rfl, s2, if_neg (nI_ge hi (show nL m < 2 ^ 31 by omega)), ck_of (nI_inb (n := i) (N := 10) (by omega) (by decide)), nI_ix (show i < 2 ^ 31 by omega), H i hi, bit_eq1, ck_of zb_1, lt_q, nI_1]
    by_cases cb : bit (V i) (nI i) = true
    · rw [if_pos cb, ok_some]
      exact ⟨.inr rfl, ⟨fun _ => ⟨i, hi, cb⟩, fun _ => rfl⟩, e1⟩
    · rw [if_neg cb]
      exact K () fun j hj => by
        by_cases ej : j = i
        · subst ej; exact cb
        · exact hI j (by omega)
/-- peeling -/
def peF (A : Nat → Nat) (i : Nat) (x : Int32) : Int32 := if bit x (nI i) = true ∧ nI (A i) &&& x = 0 then x &&& (((1 : Int32) <<< (nI i &&& 31)) ^^^ (-1)) else x
def peR (A : Nat → Nat) (N : Nat) (x : Int32) : Int32 := forN N (peF A) x
def peS (A : Nat → Nat) (N k : Nat) (x : Int32) : Int32 := forN k (fun _ x => peR A N x) x
theorem peF_b {A : Nat → Nat} {i j : Nat} {x : Int32} (hi : i < 32) (hj : j < 32) : bit (peF A i x) (nI j) = (bit x (nI j) && !(decide (i = j) && decide (bit x (nI i) = true ∧ nI (A i) &&& x = 0))) := by
  unfold peF
  by_cases c : bit x (nI i) = true ∧ nI (A i) &&& x = 0
  · rw [if_pos c, bit_and hj, bit_not hj, bit_1 hi hj, decide_eq_true c, Bool.and_true]
  · rw [if_neg c, decide_eq_false c, Bool.and_false, Bool.not_false, Bool.and_true]
theorem peR_le {A : Nat → Nat} {x : Int32} {j : Nat} (hj : j < 32) : ∀ n, n ≤ 32 → bit (forN n (peF A) x) (nI j) = true → bit x (nI j) = true
  | 0, _, h => h
  | n + 1, hn, h => by
    rw [forN_s, peF_b (by omega) hj, Bool.and_eq_true] at h
    exact peR_le hj n (by omega) h.1
theorem peR_mid {A : Nat → Nat} {x : Int32} {N k : Nat} (hN : N ≤ 32) (hk : k ≤ N) (h : forN N (peF A) x = x) : forN k (peF A) x = x := by
  apply bit_ext
  intro j hj
  rw [Bool.eq_iff_iff]
  refine ⟨peR_le hj k (by omega), fun hb => ?_⟩
  have : ∀ d, k + d ≤ 32 → bit (forN (k + d) (peF A) x) (nI j) = true → bit (forN k (peF A) x) (nI j) = true := by
    intro d
    induction d with
    | zero => intro _ h; exact h
    | succ d ih =>
      intro hd h
      rw [← Nat.add_assoc, forN_s, peF_b (by omega) hj, Bool.and_eq_true] at h
      exact ih (by omega) h.1
  refine this (N - k) (by omega) ?_
  rw [show k + (N - k) = N by omega, h]; exact hb
theorem pe_keep {A : Nat → Nat} {N : Nat} (hN : N ≤ 10) {C : Nat → Bool} (hC : ∀ i, i < N → C i = true → ∃ j, j < N ∧ C j = true ∧ (A i).testBit j = true) {x : Int32} (hx : ∀ i, i < N → C i = true → bit x (nI i) = true) : ∀ n, n ≤ N → ∀ i, i < N → C i = true → bit (forN n (peF A) x) (nI i) = true
  | 0, _, i, hi, hc => hx i hi hc
  | n + 1, hn, i, hi, hc => by
    have ih := pe_keep hN hC hx n (by omega)
    rw [forN_s, peF_b (by omega) (by omega), ih i hi hc, Bool.true_and]
    by_cases e : n = i
    · subst e
      obtain ⟨j, hj, hcj, ha⟩ := hC n hi hc
      rw [decide_eq_false (p := bit _ _ = true ∧ _), Bool.and_false]; rfl
      rintro ⟨_, h0⟩
      have hb := bit_and (x := nI (A n)) (y := forN n (peF A) x) (i := j) (by omega)
      rw [h0, bit_0 (by omega), bit_nI (by omega), ha, ih j hj hcj] at hb
      cases hb
    · rw [decide_eq_false e]; rfl
theorem peS_end {A : Nat → Nat} {N : Nat} (hN : N ≤ 10) (hA : ∀ l, l < N → A l < 2 ^ N) {x : Int32} (hx : ∀ j, N ≤ j → j < 32 → bit x (nI j) = false) : (¬ peS A N 10 x = 0) ↔ Cyc N A x := by
  have sub : ∀ k j, j < 32 → bit (peS A N k x) (nI j) = true → bit x (nI j) = true := by
    intro k
    induction k with
    | zero => intro j _ h; exact h
    | succ k ih =>
      intro j hj h
      unfold peS at h
      rw [forN_s] at h
      exact ih j hj (peR_le hj N (by omega) h)
  constructor
  · intro h0
    have st : ∀ k, k ≤ 10 → peR A N (peS A N k x) = peS A N k x ∨ cn N (peS A N k x) + k ≤ cn N x := by
      intro k
      induction k with
      | zero => intro _; exact .inr (Nat.le_refl _)
      | succ k ih =>
        intro hk
        have es : peS A N (k + 1) x = peR A N (peS A N k x) := rfl
        rcases ih (by omega) with h | h
        · left; rw [es, h, h]
        · by_cases c : peR A N (peS A N k x) = peS A N k x
          · left; rw [es, c, c]
          · right
            have : ∃ j, j < 32 ∧ bit (peS A N k x) (nI j) = true ∧ ¬ bit (peR A N (peS A N k x)) (nI j) = true := by
              refine Decidable.byContradiction fun hn => c ?_
              apply bit_ext
              intro j hj
              rw [Bool.eq_iff_iff]
              refine ⟨peR_le hj N (by omega), fun hb => Decidable.byContradiction fun hb2 => hn ⟨j, hj, hb, hb2⟩⟩
            obtain ⟨j, hj, b1, b2⟩ := this
            have hjN : j < N := by
              refine Decidable.byContradiction fun hn => ?_
              have := sub k j hj b1
              rw [hx j (by omega) hj] at this; cases this
            have := cn_lt (x := peS A N k x) (y := peR A N (peS A N k x)) hjN (fun i hi => peR_le (by omega) N (by omega)) b1 b2
            rw [es]; omega
    have ne : ∃ j, j < 32 ∧ bit (peS A N 10 x) (nI j) = true := by
      refine Decidable.byContradiction fun hn => h0 ?_
      apply bit_ext
      intro j hj
      rw [bit_0 hj, Bool.eq_false_iff]
      exact fun hb => hn ⟨j, hj, hb⟩
    obtain ⟨j0, hj0, hb0⟩ := ne
    have lt : ∀ j, j < 32 → bit (peS A N 10 x) (nI j) = true → j < N := fun j hj hb => by
      refine Decidable.byContradiction fun hn => ?_
      have := sub 10 j hj hb
      rw [hx j (by omega) hj] at this; cases this
    have stb : peR A N (peS A N 10 x) = peS A N 10 x := by
      rcases st 10 (Nat.le_refl _) with h | h
      · exact h
      · exfalso
        have c0 := cn_N (N := N) (x := x)
        have := cn_lt (N := N) (x := peS A N 10 x) (y := 0) (k := j0) (lt j0 hj0 hb0) (fun i hi h => by rw [bit_0 (by omega)] at h; cases h) hb0 (by rw [bit_0 hj0]; decide)
        omega
    refine ⟨fun i => bit (peS A N 10 x) (nI i), ⟨j0, lt j0 hj0 hb0, hb0⟩, fun i hi hc => ⟨sub 10 i (by omega) hc, ?_⟩⟩
    generalize peS A N 10 x = y at *
    have hc : bit y (nI i) = true := hc
    have m1 := peR_mid (A := A) (x := y) (N := N) (k := i) (by omega) (by omega) stb
    have m2 := peR_mid (A := A) (x := y) (N := N) (k := i + 1) (by omega) (by omega) stb
    rw [forN_s, m1] at m2
    have hb := peF_b (A := A) (i := i) (j := i) (x := y) (by omega) (by omega)
    rw [m2, hc, decide_eq_true rfl, Bool.true_and, Bool.true_and] at hb
    have hne : ¬ (nI (A i) &&& y = 0) := fun h0 => by
      rw [decide_eq_true ⟨rfl, h0⟩] at hb; cases hb
    have : ∃ j, j < 32 ∧ bit (nI (A i) &&& y) (nI j) = true := by
      refine Decidable.byContradiction fun hn => hne ?_
      apply bit_ext
      intro j hj
      rw [bit_0 hj, Bool.eq_false_iff]
      exact fun hb => hn ⟨j, hj, hb⟩
    obtain ⟨j, hj, hbj⟩ := this
    rw [bit_and hj, bit_nI hj, Bool.and_eq_true] at hbj
    exact ⟨j, lt j hj hbj.2, hbj.2, hbj.1⟩
  · rintro ⟨C, ⟨i0, hi0, hc0⟩, hC⟩ h0
    have kp : ∀ k i, i < N → C i = true → bit (peS A N k x) (nI i) = true := by
      intro k
      induction k with
      | zero => intro i hi hc; exact (hC i hi hc).1
      | succ k ih =>
        intro i hi hc
        exact pe_keep hN (fun i hi hc => (hC i hi hc).2) ih N (Nat.le_refl _) i hi hc
    have := kp 10 i0 hi0 hc0
    rw [h0, bit_0 (by omega)] at this
    cases this
