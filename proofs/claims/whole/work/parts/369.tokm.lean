/-- the model's tokens -/
def tokM (h : Hp) (k : Nat) (a p v : Int32) (n : Int64) : Hp := wI (wL (wI (wI (wI h 3 k a) 4 k p) 5 k v) 6 k n) 0 10 (nI (k + 1))
theorem M_token {h : Hp} {k : Nat} (hk : h.1 0 10 = nI k) (k4 : k < 403) (a p v : Int32) (n : Int64) : fX12_token a p v n h = some (tokM h k a p v n) := by
  unfold tokM
  simp only [fX12_token, hk, ck_of (nI_inb k4 (by decide)), nI_ix (show k < 2 ^ 31 by omega), lt_q, wI_k (show (0 : Nat) ≠ 3 by decide), wI_k (show (0 : Nat) ≠ 4 by decide), wI_k (show (0 : Nat) ≠ 5 by decide), wL_i, nI_1]
theorem M_appends {a t : Nat} (h : Hp) (ht : 97 ≤ t ∧ t ≤ 122) : fX12_appends (lN a) (nI t) h = some (lN (27 * a + (t - 96)), h) := by
  unfold fX12_appends
  rw [if_neg (nI_ne0 (by omega) (by omega)), show nI t - 97 = nI (t - 97) from pk_sub (b := 97) ht.1, nI_1, nI_l (by omega), show (27 : Int64) = lN 27 from rfl, lN_mul, lN_add, show t - 97 + 1 = t - 96 by omega]
theorem M_word {N k i n : Nat} {tx : Nat → Nat} {h : Hp} {Q : Hp → Prop} {r7 : Int32 → Hp → Option Hp} (T : TXm N tx h) (hN : N ≤ 2000) (B : ∀ i, i < N → tx i < 256) (W : KWm h) (hk : h.1 0 10 = nI k) (k4 : k ≤ 400) (hi : i ≤ N) (R : isRun N tx ltrP i n)
    (K : ∀ κ mn, ((n ≤ 8 ∧ KD (wd tx i n) κ ∧ mn = lN (q27 (wd tx i n))) ∨ (8 < n ∧ κ = 1)) → Ok (r7 (nI (i + n)) (tokM h k (nI (kM κ)) (nI i) 0 mn)) Q) :
    Ok (lX12_cut_85 r7 FU (nI i) 0 0 h) Q := by
  have hle := run_le R hi
  refine up0 (fun f j (s : Int64) => lX12_cut_85 r7 f (nI i) (nI j) s h) n (by omega) (fun j s => s = lN (q27 (wd tx i (min j 8)))) 0 rfl ?_ ?_
  · rintro f s hs
    have t9 : ∀ κ : Int32, ∀ mn, bX12_cut_179 r7 (nI i) (nI n) mn κ h = r7 (nI (i + n)) (tokM h k κ (nI i) 0 mn) := fun κ mn => by
      simp only [bX12_cut_179, bX12_cut_291, M_token hk (show k < 403 by omega), bv_q, lt_q, nI_add]
    have fin : Ok (if nI n ≤ 8 then bX12_cut_135 r7 (nI i) (nI n) s 1 h else bX12_cut_135 r7 (nI i) (nI n) s 3 h) Q := by
      simp only [bX12_cut_135, t9, lt_q]
      by_cases c : n ≤ 8
      · rw [if_pos (show nI n ≤ (8 : Int32) from nI_le (b := 8) c (by decide))]
        rw [Nat.min_eq_left c] at hs
        have wo := wd_ok R.1 c
        by_cases c7 : n ≤ 7
        · rw [if_neg (show ¬ (7 : Int32) < nI n from nI_nlt (a := 7) c7 (by decide))]
          refine up0 (fun f j (x : Int32) => lX12_cut_146 r7 f (nI i) (nI n) s x (nI j) h) 18 (by decide) (fun j x => (x = 1 ∧ ∀ j', j' < j → ¬ kw (sg j') = wd tx i n) ∨ ∃ j', j' < j ∧ kw (sg j') = wd tx i n ∧ x = nI (20 + j')) 1 (.inl ⟨rfl, fun j' h' => absurd h' (by omega)⟩) ?_ ?_
          · rintro f2 x hx
            rw [lX12_cut_146]
            simp only [bX12_cut_146, if_pos (show (18 : Int32) ≤ nI 18 by decide), t9]
            rcases hx with ⟨rfl, hx⟩ | ⟨j', h1, h2, rfl⟩
            · exact K 2 s (.inl ⟨c, .inr ⟨rfl, fun a ha e => by
                obtain ⟨g1, g2⟩ := sg_on a ha
                exact hx _ g2 (by rw [g1]; exact e)⟩, hs⟩)
            · obtain ⟨g1, g2⟩ := sg_ok j' h1
              have := K (16 + sg j') s (.inl ⟨c, .inl ⟨sg j', g1, h2, rfl⟩, hs⟩)
              rw [g2] at this
              exact this
          · rintro f2 j x hj hx K2
            rw [lX12_cut_146]
            simp only [bX12_cut_146, bX12_cut_173, if_neg (show ¬ (18 : Int32) ≤ nI j from nI_ge (b := 18) hj (by decide)), ck_of (nI_inb hj (by decide)), nI_ix (show j < 2 ^ 31 by omega), W j hj, hs, lg_cmp_eq, l27_inj (kw_wk (sg_ok j hj).1) wo, lt_q, nI_1]
            by_cases e : kw (sg j) = wd tx i n
            · rw [if_pos e]
              have := K2 (nI (20 + j)) (.inr ⟨j, by omega, e, rfl⟩)
              rw [hs] at this
              rw [show (20 : Int32) + nI j = nI (20 + j) from nI_add 20 j]
              exact this
            · rw [if_neg e]
              have := K2 x (by
                rcases hx with ⟨h1, h2⟩ | ⟨j', h1, h2, h3⟩
                · exact .inl ⟨h1, fun j' hj' => by
                    by_cases ee : j' = j
                    · subst ee; exact e
                    · exact h2 j' (by omega)⟩
                · exact .inr ⟨j', by omega, h2, h3⟩)
              rw [hs] at this
              exact this
        · rw [if_pos (show (7 : Int32) < nI n from nI_lt (a := 7) (by omega) (by omega))]
          exact K 2 s (.inl ⟨c, .inr ⟨rfl, fun a ha e => by
            have h1 := (kw_ok a ha).1
            rw [e, wd_len] at h1
            omega⟩, hs⟩)
      · rw [if_neg (show ¬ nI n ≤ (8 : Int32) from nI_ge (a := 8) (by omega) (by omega)), if_pos (show (7 : Int32) < nI n from nI_lt (a := 7) (by omega) (by omega))]
        exact K 1 s (.inr ⟨by omega, rfl⟩)
    rw [lX12_cut_85]
    simp only [bX12_cut_85, nI_add, M_byteAt T hN (show i + n < 2 ^ 31 by omega), bi_q, M_isLet]
    by_cases c : i + n < N
    · rw [if_pos c, rL _ (B _ c), Bool.eq_false_iff.mpr (fun x => R.2 ⟨c, x⟩), if_pos (show b2 false = 0 from rfl)]
      exact fin
    · rw [if_neg c, show rng 0 97 122 = false from by decide, if_pos (show b2 false = 0 from rfl)]
      exact fin
  · rintro f j s hj hs K'
    obtain ⟨c, l⟩ := R.1 j hj
    have l' : 97 ≤ tx (i + j) ∧ tx (i + j) ≤ 122 := by unfold ltrP at l; simpa using l
    rw [lX12_cut_85]
    simp only [bX12_cut_85, bX12_cut_118, nI_add, M_byteAt T hN (show i + j < 2 ^ 31 by omega), bi_q, M_isLet, if_pos c, rL _ (B _ c), l, b2_t, i10, ↓reduceIte, lt_q, nI_1]
    by_cases c8 : 8 ≤ j
    · rw [if_pos (show (8 : Int32) ≤ nI j from nI_le (a := 8) c8 (by omega))]
      refine K' s ?_
      rw [hs, Nat.min_eq_right c8, Nat.min_eq_right (by omega)]
    · rw [if_neg (show ¬ (8 : Int32) ≤ nI j from nI_ge (b := 8) (by omega) (by decide))]
      rw [Nat.min_eq_left (by omega)] at hs
      rw [hs, M_appends h l', bi_q]
      refine K' _ ?_
      rw [Nat.min_eq_left (by omega), wd, q27]
theorem M_int {N k i n : Nat} {tx : Nat → Nat} {h : Hp} {Q : Hp → Prop} {r7 : Int32 → Hp → Option Hp} (T : TXm N tx h) (hN : N ≤ 2000) (B : ∀ i, i < N → tx i < 256) (hk : h.1 0 10 = nI k) (k4 : k ≤ 400) (hi : i ≤ N) (R : isRun N tx dgtP i n)
    (K : ∀ κ mv, ((n ≤ 4 ∧ κ = 3 ∧ mv = nI (dg tx i n)) ∨ (4 < n ∧ κ = 1)) → Ok (r7 (nI (i + n)) (tokM h k (nI (kM κ)) (nI i) mv 0)) Q) :
    Ok (lX12_cut_208 r7 FU (nI i) 0 0 h) Q := by
  have hle := run_le R hi
  refine up0 (fun f j (s : Int32) => lX12_cut_208 r7 f (nI i) (nI j) s h) n (by omega) (fun j s => s = nI (dg tx i (min j 4))) 0 rfl ?_ ?_
  · rintro f s hs
    have fin : Ok (if nI n ≤ 4 then bX12_cut_261 r7 (nI i) (nI n) s 2 h else bX12_cut_261 r7 (nI i) (nI n) s 3 h) Q := by
      simp only [bX12_cut_261, bX12_cut_291, M_token hk (show k < 403 by omega), bv_q, lt_q, nI_add]
      by_cases c : n ≤ 4
      · rw [if_pos (show nI n ≤ (4 : Int32) from nI_le (b := 4) c (by decide))]
        rw [Nat.min_eq_left c] at hs
        exact K 3 s (.inl ⟨c, rfl, hs⟩)
      · rw [if_neg (show ¬ nI n ≤ (4 : Int32) from nI_ge (a := 4) (by omega) (by omega))]
        exact K 1 s (.inr ⟨by omega, rfl⟩)
    rw [lX12_cut_208]
    simp only [bX12_cut_208, nI_add, M_byteAt T hN (show i + n < 2 ^ 31 by omega), bi_q, M_isDig]
    by_cases c : i + n < N
    · rw [if_pos c, rD _ (B _ c), Bool.eq_false_iff.mpr (fun x => R.2 ⟨c, x⟩), if_pos (show b2 false = 0 from rfl)]
      exact fin
    · rw [if_neg c, show rng 0 48 57 = false from by decide, if_pos (show b2 false = 0 from rfl)]
      exact fin
  · rintro f j s hj hs K'
    obtain ⟨c, l⟩ := R.1 j hj
    have l' : 48 ≤ tx (i + j) ∧ tx (i + j) ≤ 57 := by unfold dgtP at l; simpa using l
    rw [lX12_cut_208]
    simp only [bX12_cut_208, bX12_cut_244, nI_add, M_byteAt T hN (show i + j < 2 ^ 31 by omega), bi_q, M_isDig, if_pos c, rD _ (B _ c), l, b2_t, i10, ↓reduceIte, lt_q, nI_1]
    by_cases c4 : 4 ≤ j
    · rw [if_pos (show (4 : Int32) ≤ nI j from nI_le (a := 4) c4 (by omega))]
      refine K' s ?_
      rw [hs, Nat.min_eq_right c4, Nat.min_eq_right (by omega)]
    · rw [if_neg (show ¬ (4 : Int32) ≤ nI j from nI_ge (b := 4) (by omega) (by decide))]
      rw [Nat.min_eq_left (by omega)] at hs
      refine K' _ ?_
      rw [hs, Nat.min_eq_left (by omega), show (10 : Int32) * nI (dg tx i j) = nI (10 * dg tx i j) from pk_mul 10 _, nI_add, show nI (10 * dg tx i j + tx (i + j)) - 48 = nI (10 * dg tx i j + tx (i + j) - 48) from pk_sub (b := 48) (by omega), dg]
      congr 1
      omega
theorem M_sign {h : Hp} {k x : Nat} (hx : x < 256) (i : Nat) (hk : h.1 0 10 = nI k) (k4 : k < 403) (d : Int32) (f : Bool) (hf : d = 61 ↔ f = true) : fX12_sign (nI i) (nI x) d h = some (nI (adv (sK x f)), tokM h k (nI (kM (sK x f))) (nI i) 0 0) := by
  unfold fX12_sign bX12_sign_44 bX12_sign_174 sK
  simp only [M_token hk k4, bv_q, lt_q, show (nI x = (33 : Int32)) = (x = 33) from eqI (n := 33) hx (by decide), show (nI x = (40 : Int32)) = (x = 40) from eqI (n := 40) hx (by decide), show (nI x = (41 : Int32)) = (x = 41) from eqI (n := 41) hx (by decide), show (nI x = (42 : Int32)) = (x = 42) from eqI (n := 42) hx (by decide), show (nI x = (43 : Int32)) = (x = 43) from eqI (n := 43) hx (by decide), show (nI x = (45 : Int32)) = (x = 45) from eqI (n := 45) hx (by decide), show (nI x = (47 : Int32)) = (x = 47) from eqI (n := 47) hx (by decide), show (nI x = (59 : Int32)) = (x = 59) from eqI (n := 59) hx (by decide), show (nI x = (60 : Int32)) = (x = 60) from eqI (n := 60) hx (by decide), show (nI x = (61 : Int32)) = (x = 61) from eqI (n := 61) hx (by decide), hf]
  by_cases c33 : x = 33
  · subst c33; cases f <;> rfl
  simp only [if_neg c33]
  by_cases c40 : x = 40
  · subst c40; cases f <;> rfl
  simp only [if_neg c40]
  by_cases c41 : x = 41
  · subst c41; cases f <;> rfl
  simp only [if_neg c41]
  by_cases c42 : x = 42
  · subst c42; cases f <;> rfl
  simp only [if_neg c42]
  by_cases c43 : x = 43
  · subst c43; cases f <;> rfl
  simp only [if_neg c43]
  by_cases c45 : x = 45
  · subst c45; cases f <;> rfl
  simp only [if_neg c45]
  by_cases c47 : x = 47
  · subst c47; cases f <;> rfl
  simp only [if_neg c47]
  by_cases c59 : x = 59
  · subst c59; cases f <;> rfl
  simp only [if_neg c59]
  by_cases c60 : x = 60
  · subst c60; cases f <;> rfl
  simp only [if_neg c60]
  by_cases c61 : x = 61
  · subst c61; cases f <;> rfl
  simp only [if_neg c61]
  cases f <;> rfl
