theorem all_s {f : Nat → Bool} {i : Nat} : (List.range (i + 1)).all f = ((List.range i).all f && f i) := by
  rw [List.range_succ, List.all_append, List.all_cons, List.all_nil, Bool.and_true]
theorem all_f {f : Nat → Bool} {n i : Nat} (hi : i < n) (h : f i = false) : (List.range n).all f = false := by
  rw [List.all_eq_false]
  exact ⟨i, List.mem_range.mpr hi, by rw [h]; decide⟩
/-- a watch -/
def watF (R1 R2 : Run) (t : Int32) (l : Nat) : Bool := !decide (R1 0 l = 1) || (decide (R2 0 l = 1) && decide (R2 1 l - R1 1 l ≤ t))
def watT (N : Nat) (R1 R2 : Run) (t : Int32) : Bool := (List.range N).all (watF R1 R2 t)
theorem M_isWatched {c m h : Hp} {R1 R2 : Run} {ls : List Nat} (D : RD0 c m) (e : Agr SM m h) (H : KM (nL m) R2 ls h) (Y : YM (nL m) R1 h) (t : Int32) : fX12_isWatched t h = some (b2 (watT (nL m) R1 R2 t), h) := by
  obtain ⟨⟨d1, d2⟩, _, _, _, ⟨s1, s2, s3⟩, _⟩ := D
  unfold fX12_isWatched
  rw [lt_e, ← ok_eq]
  refine up0 (fun f i (_ : Unit) => lX12_isWatched_2 f t (nI i) h) (nL m) (by omega) (fun i _ => (List.range i).all (watF R1 R2 t) = true) () rfl ?_ ?_
  · intro f _ hI
    simp only [lX12_isWatched_2, bX12_isWatched_2, e.i 0 18 rfl, d2, ck_of (nI_inb d1 (by decide)), nI_ix (show lv m < 2 ^ 31 by omega), e.i 17 _ rfl, s2, if_pos (nI_le (Nat.le_refl (nL m)) (show nL m < 2 ^ 31 by omega)), ck_of zb_1, ok_some]
    unfold watT
    rw [hI]; rfl
  · intro f l _ hl hI K
    simp only [lX12_isWatched_2, bX12_isWatched_2, bX12_isWatched_57, e.i 0 18 rfl, d2, ck_of (nI_inb d1 (by decide)), nI_ix (show lv m < 2 ^ 31 by omega), e.i 17 _ rfl, s2, if_neg (nI_ge hl (show nL m < 2 ^ 31 by omega)), ck_of (nI_inb (n := l) (N := 10) (by omega) (by decide)), nI_ix (show l < 2 ^ 31 by omega), H.st hl, H.si hl, (Y l hl).1, (Y l hl).2, lt_e, nI_1, ck_of zb_0]
    have yes : watF R1 R2 t l = true → Ok (lX12_isWatched_2 f t (nI (l + 1)) h) (fun p => p = (b2 (watT (nL m) R1 R2 t), h)) := fun hw => K () (by rw [all_s, hI, hw]; rfl)
    have no : watF R1 R2 t l = false → Ok (some ((0 : Int32), h)) (fun p => p = (b2 (watT (nL m) R1 R2 t), h)) := fun hw => by
      rw [ok_some]; unfold watT; rw [all_f hl hw]; rfl
    by_cases c1 : R1 0 l = 1
    · rw [if_pos c1]
      by_cases c2 : R2 0 l = 1
      · rw [if_pos c2]
        by_cases c3 : R2 1 l - R1 1 l ≤ t
        · rw [if_pos c3]; exact yes (by unfold watF; rw [decide_eq_true c2, decide_eq_true c3]; simp)
        · rw [if_neg c3]; exact no (by unfold watF; rw [decide_eq_true c1, decide_eq_false c3]; simp)
      · rw [if_neg c2]; exact no (by unfold watF; rw [decide_eq_true c1, decide_eq_false c2]; simp)
    · rw [if_neg c1]; exact yes (by unfold watF; rw [decide_eq_false c1]; simp)
theorem C_allInTime {c m h : Hp} {R1 R2 : Run} {l1 l2 : List Nat} {t1 t2 : Bool} (D : RD0 c m) (e : Agr SC c h) (H1 : KC 182 (nL m) R1 l1 t1 h) (H2 : KC 190 (nL m) R2 l2 t2 h) (t : Int32) : fX2_allInTime t h = some (b2 (watT (nL m) R1 R2 t), h) := by
  obtain ⟨_, _, _, _, ⟨s1, s2, s3⟩, _⟩ := D
  unfold fX2_allInTime
  rw [lt_e, ← ok_eq]
  refine up0 (fun f i (_ : Unit) => lX2_allInTime_2 f t (nI i) h) (nL m) (by omega) (fun i _ => (List.range i).all (watF R1 R2 t) = true) () rfl ?_ ?_
  · intro f _ hI
    simp only [lX2_allInTime_2, bX2_allInTime_2, e.i 108 9 rfl, s3, if_pos (nI_le (Nat.le_refl (nL m)) (show nL m < 2 ^ 31 by omega)), ck_of zb_1, ok_some]
    unfold watT
    rw [hI]; rfl
  · intro f l _ hl hI K
    have q1 : h.1 183 l = R1 0 l := H1.st hl
    simp only [lX2_allInTime_2, bX2_allInTime_2, bX2_allInTime_35, bX2_allInTime_36, bX2_allInTime_56, e.i 108 9 rfl, s3, if_neg (nI_ge hl (show nL m < 2 ^ 31 by omega)), C_bothHave s1 H1 H2 hl, C_lateOf s1 H1 H2 hl, bi_some, b2_0, decide_eq_false_iff_not, ck_of (nI_inb (n := l) (N := 10) (by omega) (by decide)), nI_ix (show l < 2 ^ 31 by omega), q1, lt_e, nI_1, ck_of zb_0, i10, ↓reduceIte, ite_self]
    have yes : watF R1 R2 t l = true → Ok (lX2_allInTime_2 f t (nI (l + 1)) h) (fun p => p = (b2 (watT (nL m) R1 R2 t), h)) := fun hw => K () (by rw [all_s, hI, hw]; rfl)
    have no : watF R1 R2 t l = false → Ok (some ((0 : Int32), h)) (fun p => p = (b2 (watT (nL m) R1 R2 t), h)) := fun hw => by
      rw [ok_some]; unfold watT; rw [all_f hl hw]; rfl
    by_cases c0 : R1 0 l = 1 ∧ R2 0 l = 1
    · rw [if_neg (fun x => x c0)]
      have el : latS R1 R2 l = R2 1 l - R1 1 l := by unfold latS; rw [if_pos c0]
      rw [el]
      by_cases c3 : R2 1 l - R1 1 l ≤ t
      · rw [if_neg (i_nlt.mpr c3)]; exact yes (by unfold watF; rw [decide_eq_true c0.2, decide_eq_true c3]; simp)
      · rw [if_pos (i_nle.mp c3), if_pos c0.1]; exact no (by unfold watF; rw [decide_eq_true c0.1, decide_eq_false c3]; simp)
    · rw [if_pos c0]
      by_cases c1 : R1 0 l = 1
      · rw [if_pos c1]
        have c2 : ¬ R2 0 l = 1 := fun x => c0 ⟨c1, x⟩
        exact no (by unfold watF; rw [decide_eq_true c1, decide_eq_false c2]; simp)
      · rw [if_neg c1]; exact yes (by unfold watF; rw [decide_eq_false c1]; simp)
def watS (g : Nat → Bool) : Nat → Nat
  | 0 => 1
  | k + 1 => if k = 0 then 1 else if g (k + 1) = true then k + 1 else watS g k
theorem M_watchL {S : Sem} {F n : Nat} {c m : Hp} {R1 : Run} (Q : QH S F c m) (hn : n ≤ F) (t : Int32) : ∀ (k f : Nat) (h : Hp), k < f → k ≤ 20 → YM (nL m) R1 h → Agr SM m h → Ok (lX12_watch_29 f (nI n) t (nI k) h) (fun p => p.1 = nI (watS (fun k => watT (nL m) R1 (runS S m n false (qk k) 60).1 t) k) ∧ Agr SM m p.2) := by
  intro k
  induction k with
  | zero =>
    intro f h hf hk Y e
    obtain ⟨g, rfl⟩ : ∃ g, f = g + 1 := ⟨f - 1, by omega⟩
    rw [lX12_watch_29]
    simp only [bX12_watch_29, if_pos (show nI 0 ≤ (1 : Int32) by decide), ok_some]
    exact ⟨rfl, e⟩
  | succ k ih =>
    intro f h hf hk Y e
    obtain ⟨g, rfl⟩ : ∃ g, f = g + 1 := ⟨f - 1, by omega⟩
    rw [lX12_watch_29, watS]
    by_cases hk0 : k = 0
    · subst hk0
      simp only [bX12_watch_29, if_pos (show nI (0 + 1) ≤ (1 : Int32) by decide), ok_some, ↓reduceIte]
      exact ⟨rfl, e⟩
    · simp only [bX12_watch_29, if_neg (show ¬ nI (k + 1) ≤ (1 : Int32) from nI_ge (a := 1) (by omega) (by omega)), if_neg hk0, ok_bv, lt_e, pk_m1]
      have w := M_runsY (tr := false) (k := k + 1) Q e hn (by omega) (by omega) Y
      rw [b2_f] at w
      refine w.mono ?_
      rintro h2 ⟨⟨ls, H2⟩, Y2, e2⟩
      rw [M_isWatched Q.1 e2 H2 Y2 t, bi_some]
      by_cases hw : watT (nL m) R1 (runS S m n false (qk (k + 1)) 60).1 t = true
      · rw [if_neg (by rw [hw]; decide), if_pos hw, ok_some]; exact ⟨rfl, e2⟩
      · rw [if_pos (by rw [Bool.eq_false_iff.mpr hw]; rfl), if_neg hw]
        exact ih g h2 (by omega) (by omega) Y2 e2
theorem C_watchL {S : Sem} {F n : Nat} {c m : Hp} {R1 : Run} {l1 : List Nat} (Q : QH S F c m) (hn : n ≤ F) (t : Int32) : ∀ (k f : Nat) (h : Hp), k < f → k ≤ 20 → KC 182 (nL m) R1 l1 false h → ARR m n h → Agr SC c h → Ok (lX2_rarestLook_22 f t (nI k) h) (fun p => p.1 = nI (watS (fun k => watT (nL m) R1 (runS S m n false (qk k) 60).1 t) k) ∧ Agr SC c p.2) := by
  intro k
  induction k with
  | zero =>
    intro f h hf hk H ar e
    obtain ⟨g, rfl⟩ : ∃ g, f = g + 1 := ⟨f - 1, by omega⟩
    rw [lX2_rarestLook_22]
    simp only [bX2_rarestLook_22, if_pos (show nI 0 ≤ (1 : Int32) by decide), ok_some]
    exact ⟨rfl, e⟩
  | succ k ih =>
    intro f h hf hk H ar e
    obtain ⟨g, rfl⟩ : ∃ g, f = g + 1 := ⟨f - 1, by omega⟩
    rw [lX2_rarestLook_22, watS]
    by_cases hk0 : k = 0
    · subst hk0
      simp only [bX2_rarestLook_22, if_pos (show nI (0 + 1) ≤ (1 : Int32) by decide), ok_some, ↓reduceIte]
      exact ⟨rfl, e⟩
    · simp only [bX2_rarestLook_22, if_neg (show ¬ nI (k + 1) ≤ (1 : Int32) from nI_ge (a := 1) (by omega) (by omega)), if_neg hk0, ok_bv, lt_e, pk_m1]
      have w := C_walk2 (tr := false) (k := k + 1) Q e hn (by omega) (by omega) ar H
      rw [b2_f] at w
      refine w.mono ?_
      rintro h2 ⟨H2, H1, ar2, e2⟩
      rw [C_allInTime Q.1 e2 H1 H2 t, bi_some]
      by_cases hw : watT (nL m) R1 (runS S m n false (qk (k + 1)) 60).1 t = true
      · rw [if_neg (by rw [hw]; decide), if_pos hw, ok_some]; exact ⟨rfl, e2⟩
      · rw [if_pos (by rw [Bool.eq_false_iff.mpr hw]; rfl), if_neg hw]
        exact ih g h2 (by omega) (by omega) H1 ar2 e2
theorem n20 : nI 20 = 20 := rfl
theorem sim_watch0 {S : Sem} {F : Nat} {c m : Hp} (a1 a2 : Int32) (Q : QH S F c m) : SimQ c m (fX11_watch a1 a2 c) (fX12_watch a1 a2 m) := by
  obtain ⟨D, RF, XM', XC'⟩ := Q
  have Q : QH S F c m := ⟨D, RF, XM', XC'⟩
  have s1 := D.2.2.2.2.1.1
  have h60 := RF.1
  simp only [fX11_watch, fX12_watch, M_isKnown RF .refl, C_isKnown RF .refl, M_isYear, C_isYear, bi_some, bi_id, lt_e]
  cases h1 : rng a1 0 (nI F)
  · exact SimQ_no (-1)
  · cases h2 : rng a2 0 59
    · exact SimQ_no (-1)
    · obtain ⟨n, hn, rfl⟩ := rng_0 (by omega) h1
      simp only [b2_t, i10, ↓reduceIte]
      refine SimQ_of (nI (watS (fun k => watT (nL m) (runS S m n false (qk 1) 60).1 (runS S m n false (qk k) 60).1 a2) 20)) ?_ ?_
      · unfold fX2_rarestLook
        refine C_walk1 Q .refl hn ?_
        intro h' H1 ar e'
        rw [lt_e, ← n20]
        exact C_watchL Q hn a2 20 FU h' (by decide) (by decide) H1 ar e'
      · rw [ok_bv]
        refine (M_runsAll Q .refl hn).mono ?_
        rintro m1 ⟨H1, e1⟩
        rw [ok_bv]
        refine (M_keeps s1 H1).mono ?_
        rintro m2 ⟨Y2, b2'⟩
        rw [← n20]
        exact M_watchL Q hn a2 20 FU m2 (by decide) (by decide) Y2 (e1.trans (b2'.sub rfl))
/-- gains -/
def lsum (g : Nat → Int32) : List Nat → Int32
  | [] => 0
  | a :: l => g a + lsum g l
theorem lsum_perm {g : Nat → Int32} {l1 l2 : List Nat} (h : l1.Perm l2) : lsum g l1 = lsum g l2 := by
  induction h with
  | nil => rfl
  | cons x _ ih => simp only [lsum, ih]
  | swap x y l => simp only [lsum]; rw [← Int32.add_assoc, ← Int32.add_assoc, Int32.add_comm (g y)]
  | trans _ _ h1 h2 => exact h1.trans h2
theorem lsum_for {g : Nat → Int32} {p : Nat → Prop} {dp : ∀ l, Decidable (p l)} : ∀ {N : Nat} {ls : List Nat}, ls.Nodup → (∀ l, l ∈ ls ↔ l < N ∧ p l) → lsum g ls = forN N (fun l s => if p l then s + g l else s) 0
  | 0, ls, _, h => by
    have : ls = [] := by
      cases ls with
      | nil => rfl
      | cons a l => exact absurd ((h a).mp (List.mem_cons_self)).1 (by omega)
    subst this; rfl
  | N + 1, ls, hn, h => by
    rw [forN_s]
    by_cases hp : p N
    · rw [if_pos hp]
      have hm : N ∈ ls := (h N).mpr ⟨by omega, hp⟩
      rw [lsum_perm (List.perm_cons_erase hm), lsum, Int32.add_comm]
      congr 1
      refine lsum_for (hn.erase N) fun l => ?_
      rw [hn.mem_erase_iff, h l]
      constructor
      · rintro ⟨a, b, c⟩; exact ⟨by omega, c⟩
      · rintro ⟨a, b⟩; exact ⟨by omega, by omega, b⟩
    · rw [if_neg hp]
      refine lsum_for hn fun l => ?_
      rw [h l]
      constructor
      · rintro ⟨a, b⟩
        refine ⟨?_, b⟩
        have : l ≠ N := by rintro rfl; exact hp b
        omega
      · rintro ⟨a, b⟩; exact ⟨by omega, b⟩
def gaS (S : Sem) (R1 R2 : Run) (l : Nat) : Int32 := S.2.2.2 l (ix (R2 1 l)) (latS R1 R2 l)
theorem M_gains {S : Sem} {c m h : Hp} {R1 R2 : Run} {ls : List Nat} (D : RD0 c m) (X : XM S m) (e : Agr SM m h) (H : KM (nL m) R2 ls h) (Y : YM (nL m) R1 h) (hp : ∀ l, l < nL m → R2 0 l = 1 → ∃ t, t < 60 ∧ R2 1 l = nI t) : Ok (fX12_gains h) (fun p => p.1 = forN (nL m) (fun l s => if R2 0 l = 1 then s + gaS S R1 R2 l else s) 0 ∧ Agr EM h p.2) := by
  obtain ⟨⟨d1, d2⟩, _, _, _, ⟨s1, s2, s3⟩, _⟩ := D
  unfold fX12_gains
  rw [lt_e, lt_e]
  refine up0 (fun f i (s : Int32 × Hp) => lX12_gains_4 f s.1 (nI i) s.2) (nL m) (by omega) (fun i s => s.1 = forN i (fun l s => if R2 0 l = 1 then s + gaS S R1 R2 l else s) 0 ∧ Agr EM h s.2) (0, h) ⟨rfl, .refl⟩ ?_ ?_
  · rintro f ⟨s, h1⟩ ⟨hs, a⟩
    simp only at hs a
    have e1 : Agr SM m h1 := e.trans (a.sub rfl)
    simp only [lX12_gains_4, bX12_gains_4, e1.i 0 18 rfl, d2, ck_of (nI_inb d1 (by decide)), nI_ix (show lv m < 2 ^ 31 by omega), e1.i 17 _ rfl, s2, if_pos (nI_le (Nat.le_refl (nL m)) (show nL m < 2 ^ 31 by omega)), ok_some]
    exact ⟨hs, a⟩
  · rintro f l ⟨s, h1⟩ hl ⟨hs, a⟩ K
    simp only at hs a
    have e1 : Agr SM m h1 := e.trans (a.sub rfl)
    have H1 : KM (nL m) R2 ls h1 := KM_agr H a rfl
    have y1 : h1.1 52 l = R1 0 l := (a.i 52 l rfl).trans (Y l hl).1
    have y2 : h1.1 53 l = R1 1 l := (a.i 53 l rfl).trans (Y l hl).2
    simp only [lX12_gains_4, bX12_gains_4, bX12_gains_64, bX12_gains_69, e1.i 0 18 rfl, d2, ck_of (nI_inb d1 (by decide)), nI_ix (show lv m < 2 ^ 31 by omega), e1.i 17 _ rfl, s2, if_neg (nI_ge hl (show nL m < 2 ^ 31 by omega)), ck_of (nI_inb (n := l) (N := 10) (by omega) (by decide)), nI_ix (show l < 2 ^ 31 by omega), H1.st hl, H1.si hl, y1, y2, lt_e, nI_1]
    by_cases c0 : R2 0 l = 1
    · rw [if_pos c0]
      obtain ⟨t, ht, et⟩ := hp l hl c0
      have fin : ∀ v, v = latS R1 R2 l → Ok (bi (fX12_goodOf (nI l) (R2 1 l) v h1) (fun w2 h1 => lX12_gains_4 f (s + w2) (nI (l + 1)) h1)) (fun p => p.1 = forN (nL m) (fun l s => if R2 0 l = 1 then s + gaS S R1 R2 l else s) 0 ∧ Agr EM h p.2) := by
        rintro v rfl
        rw [ok_bi, et]
        refine ((X h1 e1).2.2.2 l t (latS R1 R2 l) hl ht).mono ?_
        rintro ⟨r, h2⟩ ⟨hr, a2⟩
        simp only at hr a2
        refine K (s + r, h2) ⟨?_, a.trans a2⟩
        rw [forN_s, if_pos c0, ← hs, hr]
        unfold gaS
        rw [et, nI_ix (by omega)]
      by_cases c1 : R1 0 l = 1
      · rw [if_pos c1]
        exact fin _ (by unfold latS; rw [if_pos ⟨c1, c0⟩])
      · rw [if_neg c1]
        refine fin _ ?_
        unfold latS
        rw [if_neg fun x => c1 x.1, if_neg]
        rintro ⟨_, x⟩
        rw [c0] at x
        exact absurd x (by decide)
    · rw [if_neg c0]
      refine K (s, h1) ⟨?_, a⟩
      rw [forN_s, if_neg c0]; exact hs
theorem C_gainsFrom {S : Sem} {c m h : Hp} {R1 R2 : Run} {l1 ls : List Nat} {t1 t2 : Bool} {r : Nat} (D : RD0 c m) (X : XC S c m) (e : Agr SC c h) (H1 : KC 182 (nL m) R1 l1 t1 h) (H2 : KC 190 (nL m) R2 ls t2 h) (hlen : ls.length ≤ 10) (hr : r ≤ ls.length) (hp : ∀ l, l ∈ ls → l < nL m ∧ ∃ t, t < 60 ∧ R2 1 l = nI t) : Ok (fX2_gainsFrom (nI r) h) (fun p => p.1 = lsum (gaS S R1 R2) (ls.drop r) ∧ Agr EC h p.2) := by
  obtain ⟨_, _, _, _, ⟨s1, s2, s3⟩, _, d7, _⟩ := D
  unfold fX2_gainsFrom
  rw [lt_e, lt_e]
  refine upto (fun f i (s : Int32 × Hp) => lX2_gainsFrom_4 f s.1 (nI i) s.2) ls.length (fun i s => s.1 + lsum (gaS S R1 R2) (ls.drop i) = lsum (gaS S R1 R2) (ls.drop r) ∧ Agr EC h s.2) ?_ ?_ (ls.length - r) r (0, h) FU rfl hr (show _ < 20000 by omega) ⟨Int32.zero_add _, .refl⟩
  · rintro f ⟨s, h1⟩ ⟨hs, a⟩
    simp only at hs a
    have K2 : KC 190 (nL m) R2 ls t2 h1 := KC_ev H2 (.inr (.inl rfl)) a
    simp only [lX2_gainsFrom_4, bX2_gainsFrom_4, K2.2.1, if_pos (nI_le (Nat.le_refl ls.length) (show ls.length < 2 ^ 31 by omega)), ok_some]
    rw [List.drop_length, lsum, Int32.add_zero] at hs
    exact ⟨hs, a⟩
  · rintro f i ⟨s, h1⟩ hi ⟨hs, a⟩ K
    simp only at hs a
    have K1 : KC 182 (nL m) R1 l1 t1 h1 := KC_ev H1 (.inl rfl) a
    have K2 : KC 190 (nL m) R2 ls t2 h1 := KC_ev H2 (.inr (.inl rfl)) a
    have e1 : Agr SC c h1 := e.trans (a.sub rfl)
    obtain ⟨hl, t, ht, et⟩ := hp _ (getD_mem hi)
    have q1 : h1.1 195 i = nI (ls.getD i 0) := K2.2.2.1 i hi
    have q2 : h1.1 192 (ls.getD i 0) = R2 1 (ls.getD i 0) := K2.si hl
    simp only [lX2_gainsFrom_4, bX2_gainsFrom_4, K2.2.1, if_neg (nI_ge hi (show ls.length < 2 ^ 31 by omega)), ck_of (nI_inb (n := i) (N := 10) (by omega) (by decide)), nI_ix (show i < 2 ^ 31 by omega), q1, ck_of (nI_inb (n := ls.getD i 0) (N := 10) (by omega) (by decide)), nI_ix (show ls.getD i 0 < 2 ^ 31 by omega), q2, SC_l e1 (show ls.getD i 0 < 10 by omega), (d7 _ hl).2.2.1, C_lateOf s1 K1 K2 hl, bi_some, ok_bi, lt_e, nI_1, et]
    refine ((X h1 e1).2.2.2 (ls.getD i 0) t (latS R1 R2 (ls.getD i 0)) hl ht).mono ?_
    rintro ⟨v, h2⟩ ⟨hv, a2⟩
    simp only at hv a2
    refine K (s + v, h2) ⟨?_, a.trans a2⟩
    show s + v + lsum (gaS S R1 R2) (ls.drop (i + 1)) = _
    have hd : ls.drop i = ls.getD i 0 :: ls.drop (i + 1) := by
      rw [List.drop_eq_getElem_cons hi, List.getD_eq_getElem?_getD, List.getElem?_eq_getElem hi]; rfl
    rw [hd, lsum] at hs
    rw [← hs, Int32.add_assoc]
    congr 2
    rw [hv]
    unfold gaS
    rw [et, nI_ix (by omega)]
theorem sim_gain0 {S : Sem} {F : Nat} {c m : Hp} (a1 a2 : Int32) (Q : QH S F c m) : SimQ c m (fX11_gain a1 a2 c) (fX12_gain a1 a2 m) := by
  obtain ⟨D, RF, XM', XC'⟩ := Q
  have Q : QH S F c m := ⟨D, RF, XM', XC'⟩
  have s1 := D.2.2.2.2.1.1
  have h60 := RF.1
  simp only [fX11_gain, fX12_gain, M_isKnown RF .refl, C_isKnown RF .refl, M_isEach, C_isLook, bi_some, bi_id]
  cases h2 : rng a1 0 (nI F)
  · exact SimQ_no (-1)
  · cases h3 : rng a2 1 20
    · exact SimQ_no (-1)
    · obtain ⟨n, hn, rfl⟩ := rng_0 (by omega) h2
      obtain ⟨k, k1, k20, rfl⟩ := (rng_c (a := 1) (n := 20) (by decide) (by decide)).mp h3
      simp only [b2_t, i10, ↓reduceIte]
      have iv := inv_run (S := S) (m := m) (n := n) (tr := false) (q := qk k) 60
      refine SimQ_of (lsum (gaS S (runS S m n false (qk 1) 60).1 (runS S m n false (qk k) 60).1) (runS S m n false (qk k) 60).2) ?_ ?_
      · rw [ok_bv]
        unfold fX2_walkBoth
        refine C_walk1 Q .refl hn ?_
        intro h' H1 ar e'
        rw [ok_bv]
        have w := C_walk2 (tr := false) (k := k) Q e' hn (by omega) (by omega) ar H1
        rw [b2_f] at w
        refine w.mono ?_
        rintro h3 ⟨H2, H1', _, e3⟩
        rw [ok_some]
        have gg := C_gainsFrom (r := 0) D XC' e3 H1' H2 (by have := iv.1; omega) (by omega) (fun l hl => ⟨(iv.2.1 l hl).1, (iv.2.1 l hl).2.2⟩)
        rw [nI_0, List.drop_zero] at gg
        refine gg.mono ?_
        rintro p ⟨hp, a⟩
        exact ⟨hp, e3.trans (a.sub rfl)⟩
      · have w := M_two (tr := false) (k := k) (n := n) (h := m) (g := fun h7 => fX12_gains h7) (P := fun p => p.1 = lsum (gaS S (runS S m n false (qk 1) 60).1 (runS S m n false (qk k) 60).1) (runS S m n false (qk k) 60).2 ∧ Agr SM m p.2) Q .refl hn (by omega) (by omega) ?_
        · rw [b2_f] at w
          exact w
        · intro h' ls H2 Y e'
          refine (M_gains D XM' e' H2 Y fun l hl h1 => (iv.2.1 l (iv.2.2.2.1 l hl h1)).2.2).mono ?_
          rintro p ⟨hp, a⟩
          refine ⟨?_, e'.trans (a.sub rfl)⟩
          rw [hp]
          exact (lsum_for iv.2.2.1 fun l => ⟨fun hl => ⟨(iv.2.1 l hl).1, (iv.2.1 l hl).2.1⟩, fun hl => iv.2.2.2.1 l hl.1 hl.2⟩).symm
