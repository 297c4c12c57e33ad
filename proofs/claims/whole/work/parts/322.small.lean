theorem sim_dies0 {S : Sem} {F : Nat} {c m : Hp} (a1 a2 : Int32) (Q : QH S F c m) : SimQ c m (fX11_dies a1 a2 c) (fX12_dies a1 a2 m) := by
  obtain ⟨D, RF, XM', XC'⟩ := Q
  have p1 := D.2.1.1
  simp only [fX11_dies, fX12_dies, M_isPerson D .refl, C_isPerson D .refl, M_isYear, C_isYear, bi_q, bi_id]
  cases h1 : rng a1 0 (nI (nP m) - 1)
  · exact SimQ_no (-1)
  · cases h2 : rng a2 0 59
    · exact SimQ_no (-1)
    · obtain ⟨p, hp, rfl⟩ := (rng_n (by omega)).mp h1
      obtain ⟨y, hy, rfl⟩ := rng_0 (n := 59) (by omega) h2
      simp only [b2_t, i10, ↓reduceIte]
      refine SimQ_of (S.2.1 p y) ?_ ?_
      · rw [(XC' c .refl).2.1 p y hp (by omega), ok_some]; exact ⟨rfl, .refl⟩
      · refine ((XM' m .refl).2.1 p y hp (by omega)).mono ?_
        rintro r ⟨hr, a⟩
        exact ⟨hr, a.sub rfl⟩
theorem sim_fee0 {S : Sem} {F : Nat} {c m : Hp} (a1 a2 : Int32) (Q : QH S F c m) : SimQ c m (fX11_fee a1 a2 c) (fX12_fee a1 a2 m) := by
  obtain ⟨D, RF, XM', XC'⟩ := Q
  have s1 := D.2.2.2.2.1.1
  simp only [fX11_fee, fX12_fee, M_hasLetter D .refl, C_isLetter D .refl, M_isYear, C_isYear, bi_q, bi_id]
  cases h1 : rng a1 0 (nI (nL m) - 1)
  · exact SimQ_no (-1)
  · cases h2 : rng a2 0 59
    · exact SimQ_no (-1)
    · obtain ⟨l, hl, rfl⟩ := (rng_n (by omega)).mp h1
      obtain ⟨y, hy, rfl⟩ := rng_0 (n := 59) (by omega) h2
      simp only [b2_t, i10, ↓reduceIte, ck_of (nI_inb (n := l) (N := 10) (by omega) (by decide)), nI_ix (show l < 2 ^ 31 by omega), (D.2.2.2.2.2.2.1 l hl).2.2.1]
      refine SimQ_of (S.2.2.1 l y) ?_ ?_
      · rw [(XC' c .refl).2.2.1 l y hl (by omega), ok_some]; exact ⟨rfl, .refl⟩
      · refine ((XM' m .refl).2.2.1 l y hl (by omega)).mono ?_
        rintro r ⟨hr, a⟩
        exact ⟨hr, a.sub rfl⟩
def livP (S : Sem) (p y k : Nat) : Int64 := forN k (fun i s => s * ((100 - S.2.1 p (y + i)).toInt64)) 1
theorem sim_lives0 {S : Sem} {F : Nat} {c m : Hp} (a1 a2 a3 : Int32) (Q : QH S F c m) : SimQ c m (fX11_lives a1 a2 a3 c) (fX12_lives a1 a2 a3 m) := by
  obtain ⟨D, RF, XM', XC'⟩ := Q
  have p1 := D.2.1.1
  simp only [fX11_lives, fX12_lives, fX10_livesThrough, M_isPerson D .refl, C_isPerson D .refl, M_isYear, C_isYear, M_in, C_within, bi_q, bi_id, lt_q]
  cases h1 : rng a1 0 (nI (nP m) - 1)
  · exact SimQ_no (-1)
  · cases h2 : rng a2 0 59
    · exact SimQ_no (-1)
    · cases h3 : rng a3 0 8
      · exact SimQ_no (-1)
      · obtain ⟨p, hp, rfl⟩ := (rng_n (by omega)).mp h1
        obtain ⟨y, hy, rfl⟩ := rng_0 (n := 59) (by omega) h2
        obtain ⟨k, hk, rfl⟩ := rng_0 (n := 8) (by omega) h3
        simp only [b2_t, i10, ↓reduceIte, nI_add]
        by_cases hyk : y + k ≤ 60
        · rw [if_pos (show nI (y + k) ≤ (60 : Int32) from nI_le (b := 60) hyk (by decide)), if_pos (show nI (y + k) ≤ (60 : Int32) from nI_le (b := 60) hyk (by decide))]
          refine SimQ_of (livP S p y k) ?_ ?_
          · refine upto (fun f i (s : Int64) => lX10_livesThrough_6 f (nI p) (nI y) (nI k) s (nI i) c) (y + k) (fun i s => y ≤ i ∧ s = livP S p y (i - y)) ?_ ?_ k y 1 FU (by omega) (by omega) (show k < 20000 by omega) ⟨Nat.le_refl y, by rw [Nat.sub_self]; rfl⟩
            · rintro f s ⟨_, hs⟩
              simp only [lX10_livesThrough_6, bX10_livesThrough_6, nI_add, if_pos (nI_le (Nat.le_refl (y + k)) (show y + k < 2 ^ 31 by omega)), ok_some]
              rw [hs, show y + k - y = k by omega]; exact ⟨rfl, .refl⟩
            · rintro f i s hi ⟨hyi, hs⟩ K
              simp only [lX10_livesThrough_6, bX10_livesThrough_6, nI_add, if_neg (nI_ge hi (show y + k < 2 ^ 31 by omega)), if_neg (show ¬ (60 : Int32) ≤ nI i from nI_ge (b := 60) (by omega) (by decide)), (XC' c .refl).2.1 p i hp (by omega), bi_q, lt_q, nI_1]
              refine K _ ⟨by omega, ?_⟩
              rw [show i + 1 - y = i - y + 1 by omega]
              unfold livP
              rw [forN_s, hs, show y + (i - y) = i by omega]; rfl
          · refine upto (fun f i (s : Int64 × Hp) => lX12_lives_43 f (nI p) (nI y) (nI k) s.1 (nI i) s.2) (y + k) (fun i s => y ≤ i ∧ s.1 = livP S p y (i - y) ∧ Agr SM m s.2) ?_ ?_ k y (1, m) FU (by omega) (by omega) (show k < 20000 by omega) ⟨Nat.le_refl y, by rw [Nat.sub_self]; rfl, .refl⟩
            · rintro f ⟨s, h⟩ ⟨_, hs, e⟩
              simp only at hs e
              simp only [lX12_lives_43, bX12_lives_43, nI_add, if_pos (nI_le (Nat.le_refl (y + k)) (show y + k < 2 ^ 31 by omega)), ok_some]
              rw [hs, show y + k - y = k by omega]; exact ⟨rfl, e⟩
            · rintro f i ⟨s, h⟩ hi ⟨hyi, hs, e⟩ K
              simp only at hs e
              simp only [lX12_lives_43, bX12_lives_43, nI_add, if_neg (nI_ge hi (show y + k < 2 ^ 31 by omega)), ok_bi, lt_q, nI_1]
              refine ((XM' h e).2.1 p i hp (by omega)).mono ?_
              rintro ⟨r, h2⟩ ⟨hr, a⟩
              simp only at hr a
              subst hr
              refine K (_, h2) ⟨by omega, ?_, e.trans (a.sub rfl)⟩
              show s * ((100 - S.2.1 p i).toInt64) = _
              rw [show i + 1 - y = i - y + 1 by omega]
              unfold livP
              rw [forN_s, hs, show y + (i - y) = i by omega]; rfl
        · rw [if_neg (show ¬ nI (y + k) ≤ (60 : Int32) from nI_ge (a := 60) (by omega) (by omega)), if_neg (show ¬ nI (y + k) ≤ (60 : Int32) from nI_ge (a := 60) (by omega) (by omega))]
          exact SimQ_no (-1)
/-- what letters ask for -/
def XA (A : Nat → Nat) (c m : Hp) : Prop := ∀ l, l < nL m → A l < 2 ^ nL m ∧ c.1 (115 + l) 7 = nI (A l) ∧ ∀ h, Agr SM m h → fX12_asksOf (nI l) h = some (nI (A l), h)
theorem sim_asks0 {A : Nat → Nat} {c m : Hp} (a1 : Int32) (D : RD0 c m) (X : XA A c m) : SimQ c m (fX11_asks a1 c) (fX12_asks a1 m) := by
  have s1 := D.2.2.2.2.1.1
  simp only [fX11_asks, fX12_asks, M_hasLetter D .refl, C_isLetter D .refl, bi_q, bi_id]
  cases h1 : rng a1 0 (nI (nL m) - 1)
  · exact SimQ_no (-1)
  · obtain ⟨l, hl, rfl⟩ := (rng_n (by omega)).mp h1
    obtain ⟨_, x2, x3⟩ := X l hl
    simp only [b2_t, i10, ↓reduceIte, ck_of (nI_inb (n := l) (N := 10) (by omega) (by decide)), nI_ix (show l < 2 ^ 31 by omega), x2, x3 m .refl]
    exact SimQ_no _
/-- on and on: for each in turn, whoever asks for it asks for what it asks for -/
def upN (V : Nat → Int32) (i : Nat) (v : Int32) : Nat → Int32 := fun j => if j = i then v else V j
theorem upN_s {V : Nat → Int32} {i : Nat} {v : Int32} : upN V i v i = v := if_pos rfl
theorem upN_n {V : Nat → Int32} {i j : Nat} {v : Int32} (h : j ≠ i) : upN V i v j = V j := if_neg h
def warF (o i : Nat) (V : Nat → Int32) : Nat → Int32 := if bit (V i) (nI o) = true then upN V i (V i ||| V o) else V
def warO (N o : Nat) (V : Nat → Int32) : Nat → Int32 := forN N (warF o) V
def warS (N : Nat) (V : Nat → Int32) : Nat → Int32 := forN N (warO N) V
def withS (A : Nat → Nat) (wo : Int32) (l : Nat) : Int32 := if bit wo (nI l) = true then 0 else nI (A l) &&& (wo ^^^ (-1))
def VM (N : Nat) (V : Nat → Int32) (h : Hp) : Prop := ∀ l, l < N → h.1 54 l = V l
def VC (N : Nat) (V : Nat → Int32) (h : Hp) : Prop := ∀ l, l < N → h.1 210 l = V l
theorem VM_u {N : Nat} {V : Nat → Int32} {h : Hp} (H : VM N V h) (i : Nat) (v : Int32) : VM N (upN V i v) (wI h 54 i v) := fun l hl => by
  by_cases e : l = i
  · subst e; rw [wI_s, upN_s]
  · rw [wI_j e, upN_n e]; exact H l hl
theorem VC_u {N : Nat} {V : Nat → Int32} {h : Hp} (H : VC N V h) (i : Nat) (v : Int32) : VC N (upN V i v) (wI h 210 i v) := fun l hl => by
  by_cases e : l = i
  · subst e; rw [wI_s, upN_s]
  · rw [wI_j e, upN_n e]; exact H l hl
theorem M_closes {A : Nat → Nat} {c m h : Hp} (D : RD0 c m) (X : XA A c m) (e : Agr SM m h) (wo : Int32) : Ok (fX12_closes wo h) (fun h' => VM (nL m) (warS (nL m) (withS A wo)) h' ∧ Agr SM m h') := by
  obtain ⟨⟨d1, d2⟩, _, _, _, ⟨s1, s2, s3⟩, _⟩ := D
  unfold fX12_closes
  rw [lt_q]
  refine up0 (fun f i h => lX12_closes_2 f wo (nI i) h) (nL m) (by omega) (fun i h' => Agr SM m h' ∧ ∀ l, l < i → h'.1 54 l = withS A wo l) h ⟨e, fun l hl => absurd hl (by omega)⟩ ?_ ?_
  · rintro f h1 ⟨e1, hI⟩
    rw [lX12_closes_2]
    simp only [bX12_closes_2, e1.i 0 18 rfl, d2, ck_of (nI_inb d1 (by decide)), nI_ix (show lv m < 2 ^ 31 by omega), e1.i 17 _ rfl, s2, if_pos (nI_le (Nat.le_refl (nL m)) (show nL m < 2 ^ 31 by omega)), lt_q]
    refine up0 (fun f i h => lX12_closes_51 f (nI i) h) (nL m) (by omega) (fun i h' => Agr SM m h' ∧ VM (nL m) (forN i (warO (nL m)) (withS A wo)) h') h1 ⟨e1, hI⟩ ?_ ?_
    · rintro f h2 ⟨e2, H2⟩
      rw [lX12_closes_51]
      simp only [bX12_closes_51, e2.i 0 18 rfl, d2, ck_of (nI_inb d1 (by decide)), nI_ix (show lv m < 2 ^ 31 by omega), e2.i 17 _ rfl, s2, if_pos (nI_le (Nat.le_refl (nL m)) (show nL m < 2 ^ 31 by omega)), ok_some]
      exact ⟨H2, e2⟩
    · rintro f o h2 ho ⟨e2, H2⟩ K
      rw [lX12_closes_51]
      simp only [bX12_closes_51, e2.i 0 18 rfl, d2, ck_of (nI_inb d1 (by decide)), nI_ix (show lv m < 2 ^ 31 by omega), e2.i 17 _ rfl, s2, if_neg (nI_ge ho (show nL m < 2 ^ 31 by omega)), lt_q]
      refine up0 (fun g i h => lX12_closes_66 (lX12_closes_51 f) g (nI o) (nI i) h) (nL m) (by omega) (fun i h' => Agr SM m h' ∧ VM (nL m) (forN i (warF o) (forN o (warO (nL m)) (withS A wo))) h') h2 ⟨e2, H2⟩ ?_ ?_
      · rintro g h3 ⟨e3, H3⟩
        rw [lX12_closes_66]
        simp only [bX12_closes_66, e3.i 0 18 rfl, d2, ck_of (nI_inb d1 (by decide)), nI_ix (show lv m < 2 ^ 31 by omega), e3.i 17 _ rfl, s2, if_pos (nI_le (Nat.le_refl (nL m)) (show nL m < 2 ^ 31 by omega)), lt_q, nI_1]
        exact K h3 ⟨e3, H3⟩
      · rintro g i h3 hi ⟨e3, H3⟩ K2
        rw [lX12_closes_66]
        simp only [bX12_closes_66, bX12_closes_108, e3.i 0 18 rfl, d2, ck_of (nI_inb d1 (by decide)), nI_ix (show lv m < 2 ^ 31 by omega), e3.i 17 _ rfl, s2, if_neg (nI_ge hi (show nL m < 2 ^ 31 by omega)), ck_of (nI_inb (n := i) (N := 10) (by omega) (by decide)), ck_of (nI_inb (n := o) (N := 10) (by omega) (by decide)), nI_ix (show i < 2 ^ 31 by omega), nI_ix (show o < 2 ^ 31 by omega), H3 i hi, H3 o ho, bit_eq1, lt_q, nI_1]
        generalize hV : forN i (warF o) (forN o (warO (nL m)) (withS A wo)) = V at *
        have fs : forN (i + 1) (warF o) (forN o (warO (nL m)) (withS A wo)) = warF o i V := by rw [forN_s, hV]
        by_cases cb : bit (V i) (nI o) = true
        · rw [if_pos cb]
          refine K2 _ ⟨e3.wI rfl, ?_⟩
          rw [fs]; unfold warF
          rw [if_pos cb]; exact VM_u H3 i _
        · rw [if_neg cb]
          refine K2 _ ⟨e3, ?_⟩
          rw [fs]; unfold warF
          rw [if_neg cb]; exact H3
  · rintro f l h1 hl ⟨e1, hI⟩ K
    rw [lX12_closes_2]
    simp only [bX12_closes_2, bX12_closes_42, e1.i 0 18 rfl, d2, ck_of (nI_inb d1 (by decide)), nI_ix (show lv m < 2 ^ 31 by omega), e1.i 17 _ rfl, s2, if_neg (nI_ge hl (show nL m < 2 ^ 31 by omega)), (X l hl).2.2 h1 e1, bi_q, bit_eq1, ck_of (nI_inb (n := l) (N := 10) (by omega) (by decide)), nI_ix (show l < 2 ^ 31 by omega), lt_q, nI_1]
    have nx : ∀ v, v = withS A wo l → Ok (lX12_closes_2 f wo (nI (l + 1)) (wI h1 54 l v)) (fun h' => VM (nL m) (warS (nL m) (withS A wo)) h' ∧ Agr SM m h') := by
      rintro v rfl
      refine K _ ⟨e1.wI rfl, fun j hj => ?_⟩
      by_cases ej : j = l
      · subst ej; exact wI_s
      · rw [wI_j ej]; exact hI j (by omega)
    by_cases cb : bit wo (nI l) = true
    · rw [if_pos cb]; exact nx _ (by unfold withS; rw [if_pos cb])
    · rw [if_neg cb]; exact nx _ (by unfold withS; rw [if_neg cb])
theorem C_follow {A : Nat → Nat} {c m h : Hp} (D : RD0 c m) (X : XA A c m) (e : Agr SC c h) : Ok (fX7_follow h) (fun h' => VC (nL m) (warS (nL m) (fun l => nI (A l))) h' ∧ Agr SC c h') := by
  obtain ⟨_, _, _, _, ⟨s1, s2, s3⟩, _⟩ := D
  unfold fX7_follow
  rw [lt_q]
  refine up0 (fun f i h => lX7_follow_2 f (nI i) h) (nL m) (by omega) (fun i h' => Agr SC c h' ∧ ∀ l, l < i → h'.1 210 l = nI (A l)) h ⟨e, fun l hl => absurd hl (by omega)⟩ ?_ ?_
  · rintro f h1 ⟨e1, hI⟩
    rw [lX7_follow_2]
    simp only [bX7_follow_2, e1.i 108 9 rfl, s3, if_pos (nI_le (Nat.le_refl (nL m)) (show nL m < 2 ^ 31 by omega)), lt_q]
    refine up0 (fun f i h => lX7_follow_39 f (nI i) h) (nL m) (by omega) (fun i h' => Agr SC c h' ∧ VC (nL m) (forN i (warO (nL m)) (fun l => nI (A l))) h') h1 ⟨e1, hI⟩ ?_ ?_
    · rintro f h2 ⟨e2, H2⟩
      rw [lX7_follow_39]
      simp only [bX7_follow_39, e2.i 108 9 rfl, s3, if_pos (nI_le (Nat.le_refl (nL m)) (show nL m < 2 ^ 31 by omega)), ok_some]
      exact ⟨H2, e2⟩
    · rintro f o h2 ho ⟨e2, H2⟩ K
      rw [lX7_follow_39]
      simp only [bX7_follow_39, e2.i 108 9 rfl, s3, if_neg (nI_ge ho (show nL m < 2 ^ 31 by omega)), lt_q]
      refine up0 (fun g i h => lX7_follow_52 (lX7_follow_39 f) g (nI o) (nI i) h) (nL m) (by omega) (fun i h' => Agr SC c h' ∧ VC (nL m) (forN i (warF o) (forN o (warO (nL m)) (fun l => nI (A l)))) h') h2 ⟨e2, H2⟩ ?_ ?_
      · rintro g h3 ⟨e3, H3⟩
        rw [lX7_follow_52]
        simp only [bX7_follow_52, e3.i 108 9 rfl, s3, if_pos (nI_le (Nat.le_refl (nL m)) (show nL m < 2 ^ 31 by omega)), lt_q, nI_1]
        exact K h3 ⟨e3, H3⟩
      · rintro g i h3 hi ⟨e3, H3⟩ K2
        rw [lX7_follow_52]
        simp only [bX7_follow_52, bX7_follow_91, e3.i 108 9 rfl, s3, if_neg (nI_ge hi (show nL m < 2 ^ 31 by omega)), ck_of (nI_inb (n := i) (N := 10) (by omega) (by decide)), ck_of (nI_inb (n := o) (N := 10) (by omega) (by decide)), nI_ix (show i < 2 ^ 31 by omega), nI_ix (show o < 2 ^ 31 by omega), H3 i hi, H3 o ho, C_has, bi_q, b2_0, lt_q, nI_1]
        generalize hV : forN i (warF o) (forN o (warO (nL m)) (fun l => nI (A l))) = V at *
        have fs : forN (i + 1) (warF o) (forN o (warO (nL m)) (fun l => nI (A l))) = warF o i V := by rw [forN_s, hV]
        by_cases cb : bit (V i) (nI o) = true
        · rw [if_neg (by rw [cb]; decide)]
          refine K2 _ ⟨e3.wI rfl, ?_⟩
          rw [fs]; unfold warF
          rw [if_pos cb]; exact VC_u H3 i _
        · rw [if_pos (by simpa using cb)]
          refine K2 _ ⟨e3, ?_⟩
          rw [fs]; unfold warF
          rw [if_neg cb]; exact H3
  · rintro f l h1 hl ⟨e1, hI⟩ K
    rw [lX7_follow_2]
    simp only [bX7_follow_2, e1.i 108 9 rfl, s3, if_neg (nI_ge hl (show nL m < 2 ^ 31 by omega)), ck_of (nI_inb (n := l) (N := 10) (by omega) (by decide)), nI_ix (show l < 2 ^ 31 by omega), SC_l e1 (show l < 10 by omega), (X l hl).2.1, lt_q, nI_1]
    refine K _ ⟨e1.wI rfl, fun j hj => ?_⟩
    by_cases ej : j = l
    · subst ej; exact wI_s
    · rw [wI_j ej]; exact hI j (by omega)
def mutS (V : Nat → Int32) (l i : Nat) : Bool := bit (V l) (nI i) && bit (V i) (nI l)
theorem M_ringOf {c m h : Hp} {V : Nat → Int32} (D : RD0 c m) (e : Agr SM m h) (H : VM (nL m) V h) {l : Nat} (hl : l < nL m) : fX12_ringOf (nI l) h = some (mskS (mutS V l) (nL m), h) := by
  obtain ⟨⟨d1, d2⟩, _, _, _, ⟨s1, s2, s3⟩, _⟩ := D
  unfold fX12_ringOf
  rw [lt_q, lt_q, ← ok_eq]
  refine up0 (fun f i s => lX12_ringOf_4 f (nI l) s (nI i) h) (nL m) (by omega) (fun i s => s = mskS (mutS V l) i) 0 rfl ?_ ?_
  · intro f s hs
    simp only [lX12_ringOf_4, bX12_ringOf_4, e.i 0 18 rfl, d2, ck_of (nI_inb d1 (by decide)), nI_ix (show lv m < 2 ^ 31 by omega), e.i 17 _ rfl, s2, if_pos (nI_le (Nat.le_refl (nL m)) (show nL m < 2 ^ 31 by omega)), ok_some]
    rw [hs]
  · intro f i s hi hs K
    simp only [lX12_ringOf_4, bX12_ringOf_4, bX12_ringOf_51, e.i 0 18 rfl, d2, ck_of (nI_inb d1 (by decide)), nI_ix (show lv m < 2 ^ 31 by omega), e.i 17 _ rfl, s2, if_neg (nI_ge hi (show nL m < 2 ^ 31 by omega)), ck_of (nI_inb (n := i) (N := 10) (by omega) (by decide)), ck_of (nI_inb (n := l) (N := 10) (by omega) (by decide)), nI_ix (show i < 2 ^ 31 by omega), nI_ix (show l < 2 ^ 31 by omega), H i hi, H l hl, bit_eq1, lt_q, nI_1]
    by_cases c1 : bit (V l) (nI i) = true
    · rw [if_pos c1]
      by_cases c2 : bit (V i) (nI l) = true
      · rw [if_pos c2]; apply K; rw [mskS_s, hs, if_pos]; unfold mutS; rw [c1, c2]; rfl
      · rw [if_neg c2]; apply K; rw [mskS_s, hs, if_neg]; unfold mutS; rw [Bool.eq_false_iff.mpr c2]; simp
    · rw [if_neg c1]; apply K; rw [mskS_s, hs, if_neg]; unfold mutS; rw [Bool.eq_false_iff.mpr c1]; simp
theorem C_mutual {c m h : Hp} {V : Nat → Int32} (D : RD0 c m) (e : Agr SC c h) (H : VC (nL m) V h) {l : Nat} (hl : l < nL m) : fX7_mutual (nI l) h = some (mskS (mutS V l) (nL m), h) := by
  obtain ⟨_, _, _, _, ⟨s1, s2, s3⟩, _⟩ := D
  unfold fX7_mutual
  rw [lt_q, lt_q, ← ok_eq]
  refine up0 (fun f i s => lX7_mutual_4 f (nI l) s (nI i) h) (nL m) (by omega) (fun i s => s = mskS (mutS V l) i) 0 rfl ?_ ?_
  · intro f s hs
    simp only [lX7_mutual_4, bX7_mutual_4, e.i 108 9 rfl, s3, if_pos (nI_le (Nat.le_refl (nL m)) (show nL m < 2 ^ 31 by omega)), ok_some]
    rw [hs]
  · intro f i s hi hs K
    simp only [lX7_mutual_4, bX7_mutual_4, bX7_mutual_47, e.i 108 9 rfl, s3, if_neg (nI_ge hi (show nL m < 2 ^ 31 by omega)), ck_of (nI_inb (n := i) (N := 10) (by omega) (by decide)), ck_of (nI_inb (n := l) (N := 10) (by omega) (by decide)), nI_ix (show i < 2 ^ 31 by omega), nI_ix (show l < 2 ^ 31 by omega), H i hi, H l hl, C_has, bi_q, b2_0, lt_q, nI_1]
    by_cases c1 : bit (V l) (nI i) = true
    · rw [if_neg (by rw [c1]; decide)]
      by_cases c2 : bit (V i) (nI l) = true
      · rw [if_neg (by rw [c2]; decide)]; apply K; rw [mskS_s, hs, if_pos]; unfold mutS; rw [c1, c2]; rfl
      · rw [if_pos (by simpa using c2)]; apply K; rw [mskS_s, hs, if_neg]; unfold mutS; rw [Bool.eq_false_iff.mpr c2]; simp
    · rw [if_pos (by simpa using c1)]; apply K; rw [mskS_s, hs, if_neg]; unfold mutS; rw [Bool.eq_false_iff.mpr c1]; simp
theorem with_0 {A : Nat → Nat} : withS A 0 = fun l => nI (A l) := by
  funext l
  unfold withS
  have h0 : bit 0 (nI l) = false := by unfold bit; simp
  rw [if_neg (by rw [h0]; decide)]
  apply bit_ext
  intro i hi
  rw [bit_and hi, bit_not hi, bit_0 hi]
  simp
theorem sim_ring0 {A : Nat → Nat} {c m : Hp} (a1 : Int32) (D : RD0 c m) (X : XA A c m) : SimQ c m (fX11_ring a1 c) (fX12_ring a1 m) := by
  have s1 := D.2.2.2.2.1.1
  simp only [fX11_ring, fX12_ring, fX7_ringOf, M_hasLetter D .refl, C_isLetter D .refl, bi_q, bi_id]
  cases h1 : rng a1 0 (nI (nL m) - 1)
  · exact SimQ_no (-1)
  · obtain ⟨l, hl, rfl⟩ := (rng_n (by omega)).mp h1
    simp only [b2_t, i10, ↓reduceIte]
    refine SimQ_of (mskS (mutS (warS (nL m) (fun l => nI (A l))) l) (nL m)) ?_ ?_
    · rw [ok_bv]
      refine (C_follow D X .refl).mono ?_
      rintro c2 ⟨H, e⟩
      rw [C_mutual D e H hl, ok_some]; exact ⟨rfl, e⟩
    · rw [ok_bv]
      have w := M_closes D X (.refl : Agr SM m m) 0
      rw [with_0] at w
      refine w.mono ?_
      rintro m2 ⟨H, e⟩
      rw [M_ringOf D e H hl, ok_some]; exact ⟨rfl, e⟩
