/-- the model's table of looks -/
theorem lkB_st {S : Sem} {m : Hp} {y : Nat} {d : Int32} (hL : nL m ≤ 10) : ∀ (n : Nat) (b : Int32), ucn (nL m) b ≤ n → lkB S m y d (n + 1) b = lkB S m y d n b
  | 0, b, h => by
    have : fmS S m y d b = none := fd_none fun j hj => by
      unfold mayS
      rw [ucn_0 (by omega) hj]; rfl
    rw [lkB_n this]; rfl
  | n + 1, b, h => by
    cases hf : fmS S m y d b with
    | none => rw [lkB_n hf, lkB_n hf]
    | some l =>
      obtain ⟨hl, hm⟩ := fd_el hf
      have b0 : bit b (nI l) = false := by
        unfold mayS at hm
        rw [Bool.and_eq_true] at hm
        simpa using hm.1
      have := ucn_lt (N := nL m) (by omega) hl b0
      rw [lkB_s hf, lkB_s hf, lkB_st hL n _ (by omega)]
theorem lkn_none {S : Sem} {m : Hp} {y d b : Nat} (hb : b < 2 ^ 31) (h : fmS S m y (nI d) (nI b) = none) : lkn S m y d b = b := by
  unfold lkn
  rw [show (10 : Nat) = 9 + 1 from rfl, lkB_n h, nI_ix hb]
theorem lkn_some {S : Sem} {m : Hp} {y d b l : Nat} (hL : nL m ≤ 10) (h : fmS S m y (nI d) (nI b) = some l) : lkn S m y d b = lkn S m y d (b ||| 2 ^ l) := by
  obtain ⟨hl, hm⟩ := fd_el h
  have b0 : bit (nI b) (nI l) = false := by
    unfold mayS at hm
    rw [Bool.and_eq_true] at hm
    simpa using hm.1
  have h1 := ucn_lt (N := nL m) (by omega) hl b0
  have h2 := ucn_N (N := nL m) (b := nI b)
  unfold lkn
  rw [show (10 : Nat) = 9 + 1 from rfl, lkB_s h, lkB_st hL 9 _ (by rw [s1l l (by omega), nI_or] at h1; omega), s1l l (by omega), nI_or]
theorem e64 (s i : Nat) : (64 : Int32) * nI s + nI i = nI (64 * s + i) := by
  rw [show (64 : Int32) = nI 64 from rfl, pk_mul, nI_add]
theorem or_gt {b l : Nat} (h : b.testBit l = false) : b < b ||| 2 ^ l := by
  have h1 : b ≤ b ||| 2 ^ l := Nat.left_le_or
  have h2 : ¬ b = b ||| 2 ^ l := fun e => by
    have : (b ||| 2 ^ l).testBit l = true := by rw [Nat.testBit_or, Nat.testBit_two_pow, decide_eq_true rfl, Bool.or_true]
    rw [← e, h] at this; cases this
  omega
theorem M_fillB {S : Sem} {c m h : Hp} {Q : Hp → Prop} {r2 : Int32 → Int32 → Hp → Option Hp} {r31 : Int32 → Int32 → Int32 → Hp → Option Hp} (D : RD0 c m) (X : XM S m) (e : Agr SM m h) (hL : nL m ≤ 6) {y d b : Nat} (hy : y < 60) (hd : d < 32) (hb : b < 2 ^ nL m) (hT : ∀ b', b < b' → b' < 2 ^ nL m → h.1 57 (64 * d + b') = nI (lkn S m y d b'))
    (K : ∀ h', Agr EM h h' → Ok (r31 (nI y) (nI d) (nI b + (-1)) (wI h' 57 (64 * d + b) (nI (lkn S m y d b)))) Q) :
    Ok (lX12_fillLooks_51 r2 r31 FU (nI y) (nI d) (nI b) (nI b) (nI (nL m) - 1) h) Q := by
  have l64 : 2 ^ nL m ≤ 64 := Nat.pow_le_pow_right (n := 2) (by decide) hL
  refine down (fun f i (s : Int32 × Hp) => lX12_fillLooks_51 r2 r31 f (nI y) (nI d) (nI b) s.1 i s.2) (fun n s => Agr EM h s.2 ∧ n ≤ nL m ∧ ((s.1 = nI b ∧ ∀ j, n ≤ j → j < nL m → mayS S m y (nI d) (nI b) j = false) ∨ ∃ l', n ≤ l' ∧ l' < nL m ∧ mayS S m y (nI d) (nI b) l' = true ∧ (∀ j, n ≤ j → j < l' → mayS S m y (nI d) (nI b) j = false) ∧ s.1 = nI (b ||| 2 ^ l'))) ?_ ?_ (nL m) (nI b, h) FU (show nL m < 20000 by omega) ⟨.refl, Nat.le_refl _, .inl ⟨rfl, fun j h1 h2 => absurd h2 (by omega)⟩⟩
  · rintro f ⟨x, h'⟩ ⟨a, _, hx⟩
    simp only at a hx
    rw [lX12_fillLooks_51]
    simp only [bX12_fillLooks_51, bX12_fillLooks_123, if_pos (show (-1 : Int32) < 0 by decide), e64, ck_of (nI_inb (show 64 * d + b < 2048 by omega) (by decide)), nI_ix (show 64 * d + b < 2 ^ 31 by omega), lt_q]
    rcases hx with ⟨hx, hn⟩ | ⟨l', _, h2, h3, h4, hx⟩
    · rw [hx, if_pos rfl]
      have := K h' a
      rw [lkn_none (by omega) (fd_none fun j hj => hn j (by omega) hj)] at this
      exact this
    · have b0 : b.testBit l' = false := by
        unfold mayS at h3
        rw [Bool.and_eq_true, bit_nI (by omega)] at h3
        simpa using h3.1
      have g1 := or_gt b0
      have g2 : b ||| 2 ^ l' < 2 ^ nL m := Nat.or_lt_two_pow hb (Nat.pow_lt_pow_right (by decide) h2)
      have hf : fmS S m y (nI d) (nI b) = some l' := fd_some h2 (fun j hj => h4 j (by omega) hj) h3
      rw [hx, if_neg (fun q => by have := (nI_eq (by omega) (by omega)).mp q; omega), e64, ck_of (nI_inb (show 64 * d + (b ||| 2 ^ l') < 2048 by omega) (by decide)), nI_ix (show 64 * d + (b ||| 2 ^ l') < 2 ^ 31 by omega), a.i 57 _ rfl, hT _ g1 g2, ← lkn_some (show nL m ≤ 10 by omega) hf]
      exact K h' a
  · rintro f i ⟨x, h'⟩ ⟨a, hi, hx⟩ K'
    simp only at a hx
    have e' : Agr SM m h' := e.trans (a.sub rfl)
    have sk : mayS S m y (nI d) (nI b) i = false → ∀ h2, Agr EM h h2 → Ok (lX12_fillLooks_51 r2 r31 f (nI y) (nI d) (nI b) x (nI i + (-1)) h2) Q := fun hm h2 a2 => K' (x, h2) ⟨a2, by omega, by
      rcases hx with ⟨hx, hn⟩ | ⟨l', q1, q2, q3, q4, hx⟩
      · exact .inl ⟨hx, fun j h1 h2 => by
          by_cases ee : j = i
          · subst ee; exact hm
          · exact hn j (by omega) h2⟩
      · exact .inr ⟨l', by omega, q2, q3, fun j h1 h2 => by
          by_cases ee : j = i
          · subst ee; exact hm
          · exact q4 j (by omega) h2, hx⟩⟩
    rw [lX12_fillLooks_51]
    simp only [bX12_fillLooks_51, bX12_fillLooks_85, if_neg (nI_pos (show i < 2 ^ 31 by omega)), bit_eq0, lt_q]
    by_cases c1 : bit (nI b) (nI i) = false
    · rw [if_pos c1, ok_bi]
      refine (M_may D X e' (show i < nL m by omega) hy (nI d) (nI b)).mono ?_
      rintro ⟨v, h2⟩ ⟨hv, a2⟩
      simp only at hv a2
      subst hv
      have hmm : mayS S m y (nI d) (nI b) i = (!bit (nI d) (rdI m i) && (!cbS m i y && S.1 i y (nI d) (nI b))) := by
        unfold mayS; rw [c1]; rfl
      rw [← hmm]
      cases hd' : mayS S m y (nI d) (nI b) i
      · simp only [b2_f, ↓reduceIte]
        exact sk hd' h2 (a.trans a2)
      · simp only [b2_t, i10, ↓reduceIte, s1l i (show i < 32 by omega), nI_or]
        exact K' (_, h2) ⟨a.trans a2, by omega, .inr ⟨i, Nat.le_refl i, by omega, hd', fun j h1 h2 => absurd h2 (by omega), rfl⟩⟩
    · rw [if_neg c1]
      have c1 : bit (nI b) (nI i) = true := by simpa using c1
      exact sk (by unfold mayS; rw [c1]; rfl) h' a
def FW : Ws := [(57, none), (38, none), (39, none), (0, some 56), (0, some 57), (0, some 58)]
def rdT (S : Sem) (m : Hp) (y : Nat) (h : Hp) : Prop := ∀ d, d < 2 ^ nP m → ∀ b, b < 2 ^ nL m → h.1 57 (64 * d + b) = nI (lkn S m y d b)
theorem M_fillLooks {S : Sem} {c m h : Hp} (D : RD0 c m) (X : XM S m) (e : Agr SM m h) (hP : nP m ≤ 5) (hL : nL m ≤ 6) {y : Nat} (hy : y < 60) : Ok (fX12_fillLooks (nI y) h) (fun h' => Agr FW h h' ∧ rdT S m y h') := by
  have l64 : 2 ^ nL m ≤ 64 := Nat.pow_le_pow_right (n := 2) (by decide) hL
  have p32 : 2 ^ nP m ≤ 32 := Nat.pow_le_pow_right (n := 2) (by decide) hP
  have D' := D
  obtain ⟨⟨d1, d2⟩, ⟨p1, p2, p3⟩, _, _, ⟨s1, s2, s3⟩, _⟩ := D'
  unfold fX12_fillLooks
  rw [lt_q]
  refine up0 (fun f i h => lX12_fillLooks_2 f (nI y) (nI i) h) (2 ^ nP m) (by omega) (fun i h' => Agr FW h h' ∧ ∀ d, d < i → ∀ b, b < 2 ^ nL m → h'.1 57 (64 * d + b) = nI (lkn S m y d b)) h ⟨.refl, fun d hd => absurd hd (by omega)⟩ ?_ ?_
  · rintro f h' ⟨a, hT⟩
    have e' : Agr SM m h' := e.trans (a.sub rfl)
    rw [lX12_fillLooks_2]
    simp only [bX12_fillLooks_2, e'.i 0 18 rfl, d2, ck_of (nI_inb d1 (by decide)), nI_ix (show lv m < 2 ^ 31 by omega), e'.i 11 _ rfl, p2, s1l (nP m) (by omega), if_pos (nI_le (Nat.le_refl (2 ^ nP m)) (show 2 ^ nP m < 2 ^ 31 by omega)), ok_some]
    exact ⟨a, hT⟩
  · rintro f d h' hd ⟨a, hT⟩ K
    have e' : Agr SM m h' := e.trans (a.sub rfl)
    rw [lX12_fillLooks_2]
    simp only [bX12_fillLooks_2, e'.i 0 18 rfl, d2, ck_of (nI_inb d1 (by decide)), nI_ix (show lv m < 2 ^ 31 by omega), e'.i 11 _ rfl, e'.i 17 _ rfl, p2, s2, s1l (nP m) (by omega), s1l (nL m) (by omega), if_neg (nI_ge hd (show 2 ^ nP m < 2 ^ 31 by omega)), lt_q]
    refine down (fun f' i h => lX12_fillLooks_31 (lX12_fillLooks_2 f) f' (nI y) (nI d) i h) (fun n h2 => Agr FW h h2 ∧ n ≤ 2 ^ nL m ∧ (∀ d', d' < d → ∀ b, b < 2 ^ nL m → h2.1 57 (64 * d' + b) = nI (lkn S m y d' b)) ∧ ∀ b, n ≤ b → b < 2 ^ nL m → h2.1 57 (64 * d + b) = nI (lkn S m y d b)) ?_ ?_ (2 ^ nL m) h' FU (show 2 ^ nL m < 20000 by omega) ⟨a, Nat.le_refl _, hT, fun b h1 h2 => absurd h2 (by omega)⟩
    · rintro f2 h2 ⟨a2, _, t1, t2⟩
      rw [lX12_fillLooks_31]
      simp only [bX12_fillLooks_31, if_pos (show (-1 : Int32) < 0 by decide), lt_q, nI_1]
      refine K h2 ⟨a2, fun d' hd' b hb => ?_⟩
      by_cases ee : d' = d
      · subst ee; exact t2 b (by omega) hb
      · exact t1 d' (by omega) b hb
    · rintro f2 b h2 ⟨a2, hb, t1, t2⟩ K2
      have e2 : Agr SM m h2 := e.trans (a2.sub rfl)
      rw [lX12_fillLooks_31]
      simp only [bX12_fillLooks_31, if_neg (nI_pos (show b < 2 ^ 31 by omega)), e2.i 0 18 rfl, d2, ck_of (nI_inb d1 (by decide)), nI_ix (show lv m < 2 ^ 31 by omega), e2.i 17 _ rfl, s2, lt_q]
      refine M_fillB D X e2 hL hy (by omega) (show b < 2 ^ nL m by omega) (fun b' h1 h3 => t2 b' (by omega) h3) fun h3 a3 => K2 _ ⟨(a2.trans (a3.sub rfl)).wI rfl, by omega, fun d' hd' b' hb' => ?_, fun b' h1 h4 => ?_⟩
      · rw [wI_j (by omega), a3.i 57 _ rfl]; exact t1 d' hd' b' hb'
      · by_cases ee : b' = b
        · subst ee; rw [wI_s]
        · rw [wI_j (by omega), a3.i 57 _ rfl]; exact t2 b' (by omega) h4
