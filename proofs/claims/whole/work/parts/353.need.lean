/-- what is needed -/
def gN (S : Sem) (P L l y : Nat) (g b : Int32) (d r : Nat) : Prop := d < 2 ^ P ∧ r < 2 ^ L ∧ nI d &&& g = 0 ∧ nI r &&& b = 0 ∧ S.1 l y (g ||| nI d) (b ||| nI r) = true
def ky (d r : Nat) : Nat := (4 * (pop d + pop r) + pop d) * 1048576 + 1024 * d + r
def bNM (G : Nat → Nat → Prop) (B : Nat) (h : Hp) : Prop := (h.1 0 79 = 4 ∧ ∀ d r, G d r → pop d + pop r ≤ 3 → B ≤ 1024 * d + r) ∨ ∃ d r, G d r ∧ pop d + pop r ≤ 3 ∧ 1024 * d + r < B ∧ h.1 0 79 = nI (pop d + pop r) ∧ h.1 0 80 = nI d ∧ h.1 0 81 = nI r ∧ ∀ d' r', G d' r' → pop d' + pop r' ≤ 3 → 1024 * d' + r' < B → ky d r ≤ ky d' r'
theorem bNM_agr {G : Nat → Nat → Prop} {B : Nat} {h h' : Hp} (H : bNM G B h) (e : Agr EM h h') : bNM G B h' := by
  unfold bNM
  rw [e.i 0 79 rfl, e.i 0 80 rfl, e.i 0 81 rfl]
  exact H
theorem bNM_to {G : Nat → Nat → Prop} {B B' : Nat} {h : Hp} (H : bNM G B h) (hB : B ≤ B') (hn : ∀ d r, G d r → pop d + pop r ≤ 3 → 1024 * d + r < B' → 1024 * d + r < B) : bNM G B' h := by
  rcases H with ⟨h1, h2⟩ | ⟨d, r, h1, h2, h3, h4, h5, h6, h7⟩
  · refine .inl ⟨h1, fun d r hg hp => ?_⟩
    have a := h2 d r hg hp
    have b := hn d r hg hp
    omega
  · exact .inr ⟨d, r, h1, h2, by omega, h4, h5, h6, fun d' r' hg hp hl => h7 d' r' hg hp (hn d' r' hg hp hl)⟩
theorem M_need125 {S : Sem} {c m h : Hp} {Q : Hp → Prop} {r8 : Int32 → Int32 → Int32 → Int32 → Int32 → Hp → Option Hp} {r46 : Int32 → Int32 → Int32 → Int32 → Int32 → Int32 → Hp → Option Hp} (D : RD0 c m) (X : XM S m) (e : Agr SM m h) {l y d r : Nat} (hl : l < nL m) (hy : y < 60) (hd : d < 2 ^ nP m) (hr : r < 2 ^ nL m) (g b : Int32) (hg : nI d &&& g = 0) (hb : nI r &&& b = 0) (hp : pop d + pop r ≤ 3) (I : bNM (gN S (nP m) (nL m) l y g b) (1024 * d + r) h)
    (better : ∀ d' r', gN S (nP m) (nL m) l y g b d' r' → pop d' + pop r' ≤ 3 → 1024 * d' + r' < 1024 * d + r → ky d r ≤ ky d' r')
    (nx : ∀ h2, Agr SM m h2 → bNM (gN S (nP m) (nL m) l y g b) (1024 * d + r + 1) h2 → Ok (r46 (nI l) (nI y) g b (nI d) (nI (r + 1)) h2) Q) :
    Ok (bX12_needs_125 r8 r46 (nI l) (nI y) g b (nI d) (nI r) (nI (pop d + pop r)) h) Q := by
  have p10 := p2_1024 D.2.1.1
  have l10 := p2_1024 D.2.2.2.2.1.1
  simp only [bX12_needs_125, bX12_needs_164, lt_q, nI_1, ok_bi]
  refine ((X h e).1 l y (g ||| nI d) (b ||| nI r) hl hy).mono ?_
  rintro ⟨x, h2⟩ ⟨hx, a2⟩
  simp only at hx a2
  subst hx
  have e2 : Agr SM m h2 := e.trans (a2.sub rfl)
  have I2 := bNM_agr I a2
  cases hs : S.1 l y (g ||| nI d) (b ||| nI r)
  · simp only [b2_f, ↓reduceIte]
    refine nx h2 e2 (bNM_to I2 (by omega) fun d' r' hg' hp' hlt => ?_)
    by_cases ee : 1024 * d' + r' = 1024 * d + r
    · have := hg'.1; have := hg'.2.1
      have ed : d' = d := by omega
      have er : r' = r := by omega
      subst ed; subst er
      have := hg'.2.2.2.2
      rw [hs] at this; cases this
    · omega
  · simp only [b2_t, i10, ↓reduceIte]
    refine nx _ (((e2.wI rfl).wI rfl).wI rfl) (.inr ⟨d, r, ⟨hd, hr, hg, hb, hs⟩, hp, by omega, ?_, ?_, ?_, fun d' r' hg' hp' hlt => ?_⟩)
    · rw [wI_j (by decide), wI_j (by decide), wI_s]
    · rw [wI_j (by decide), wI_s]
    · rw [wI_s]
    · by_cases ee : 1024 * d' + r' = 1024 * d + r
      · have := hg'.1; have := hg'.2.1
        have ed : d' = d := by omega
        have er : r' = r := by omega
        subst ed; subst er
        exact Nat.le_refl _
      · exact better d' r' hg' hp' (by omega)
theorem M_needR {S : Sem} {c m h : Hp} {Q : Hp → Prop} {r8 : Int32 → Int32 → Int32 → Int32 → Int32 → Hp → Option Hp} (D : RD0 c m) (X : XM S m) (e : Agr SM m h) {l y d : Nat} (hl : l < nL m) (hy : y < 60) (hd : d < 2 ^ nP m) (g b : Int32) (hg : nI d &&& g = 0) (I : bNM (gN S (nP m) (nL m) l y g b) (1024 * d) h)
    (K : ∀ h2, Agr SM m h2 → bNM (gN S (nP m) (nL m) l y g b) (1024 * (d + 1)) h2 → Ok (r8 (nI l) (nI y) g b (nI (d + 1)) h2) Q) :
    Ok (lX12_needs_46 r8 FU (nI l) (nI y) g b (nI d) 0 h) Q := by
  have p10 := p2_1024 D.2.1.1
  have l10 := p2_1024 D.2.2.2.2.1.1
  have D' := D
  obtain ⟨⟨d1, d2⟩, _, _, _, ⟨s1, s2, s3⟩, _⟩ := D'
  refine up0 (fun f i h => lX12_needs_46 r8 f (nI l) (nI y) g b (nI d) (nI i) h) (2 ^ nL m) (by omega) (fun i h' => Agr SM m h' ∧ bNM (gN S (nP m) (nL m) l y g b) (1024 * d + i) h') h ⟨e, I⟩ ?_ ?_
  · rintro f h' ⟨e', I'⟩
    rw [lX12_needs_46]
    simp only [bX12_needs_46, bX12_needs_170, e'.i 0 18 rfl, d2, ck_of (nI_inb d1 (by decide)), nI_ix (show lv m < 2 ^ 31 by omega), e'.i 17 _ rfl, s2, s1l (nL m) (by omega), if_pos (nI_le (Nat.le_refl (2 ^ nL m)) (show 2 ^ nL m < 2 ^ 31 by omega)), lt_q, nI_1]
    refine K h' e' (bNM_to I' (by omega) fun d' r' hg' hp' hlt => ?_)
    have := hg'.2.1
    have : d' ≤ d := by omega
    by_cases ee : d' = d
    · subst ee; omega
    · omega
  · rintro f r h' hr ⟨e', I'⟩ K'
    have sk : (gN S (nP m) (nL m) l y g b d r → pop d + pop r ≤ 3 → False) → Ok (lX12_needs_46 r8 f (nI l) (nI y) g b (nI d) (nI (r + 1)) h') Q := fun hno => K' h' ⟨e', bNM_to I' (by omega) fun d' r' hg' hp' hlt => by
      by_cases ee : 1024 * d' + r' = 1024 * d + r
      · have := hg'.1; have := hg'.2.1
        have ed : d' = d := by omega
        have er : r' = r := by omega
        subst ed; subst er
        exact (hno hg' hp').elim
      · omega⟩
    rw [lX12_needs_46]
    simp only [bX12_needs_46, bX12_needs_164, e'.i 0 18 rfl, d2, ck_of (nI_inb d1 (by decide)), nI_ix (show lv m < 2 ^ 31 by omega), e'.i 17 _ rfl, s2, s1l (nL m) (by omega), if_neg (nI_ge hr (show 2 ^ nL m < 2 ^ 31 by omega)), M_bits, bi_q, lt_q, nI_1, nI_add]
    have pd := pop_10 d (by omega)
    have pr := pop_10 r (by omega)
    by_cases c1 : nI r &&& b = 0
    · rw [if_pos c1]
      by_cases c2 : (3 : Int32) < nI (pop d + pop r)
      · rw [if_pos c2]
        have : 3 < pop d + pop r := (nI_ltI (a := 3) (by decide) (by omega)).mp c2
        exact sk fun _ h => by omega
      · rw [if_neg c2]
        have c2' : pop d + pop r ≤ 3 := Nat.le_of_not_lt fun x => c2 (nI_lt (a := 3) x (by omega))
        have nx : ∀ h2, Agr SM m h2 → bNM (gN S (nP m) (nL m) l y g b) (1024 * d + r + 1) h2 → Ok (lX12_needs_46 r8 f (nI l) (nI y) g b (nI d) (nI (r + 1)) h2) Q := fun h2 e2 i2 => K' h2 ⟨e2, i2⟩
        rcases I' with ⟨h1, h2⟩ | ⟨d0, r0, z1, z2, z3, z4, z5, z6, z7⟩
        · rw [h1, if_neg (show ¬ (4 : Int32) < nI (pop d + pop r) from nI_nlt (a := 4) (by omega) (by decide)), if_neg (show ¬ nI (pop d + pop r) = (4 : Int32) from fun x => by have := (nI_eq (b := 4) (by omega) (by decide)).mp x; omega)]
          exact M_need125 D X e' hl hy hd hr g b hg c1 c2' (.inl ⟨h1, h2⟩) (fun d' r' hg' hp' hlt => by have := h2 d' r' hg' hp'; omega) nx
        · have I' : bNM (gN S (nP m) (nL m) l y g b) (1024 * d + r) h' := .inr ⟨d0, r0, z1, z2, z3, z4, z5, z6, z7⟩
          have b1 := z1.1
          have b2 := z1.2.1
          rw [z4, z5]
          have wse : ky d0 r0 ≤ ky d r → Ok (lX12_needs_46 r8 f (nI l) (nI y) g b (nI d) (nI (r + 1)) h') Q := fun hk => K' h' ⟨e', .inr ⟨d0, r0, z1, z2, by omega, z4, z5, z6, fun d' r' hg' hp' hlt => by
            by_cases ee : 1024 * d' + r' = 1024 * d + r
            · have := hg'.1; have := hg'.2.1
              have ed : d' = d := by omega
              have er : r' = r := by omega
              subst ed; subst er
              exact hk
            · exact z7 d' r' hg' hp' (by omega)⟩⟩
          have bet : ky d r ≤ ky d0 r0 → ∀ d' r', gN S (nP m) (nL m) l y g b d' r' → pop d' + pop r' ≤ 3 → 1024 * d' + r' < 1024 * d + r → ky d r ≤ ky d' r' := fun hk d' r' hg' hp' hlt => Nat.le_trans hk (z7 d' r' hg' hp' hlt)
          by_cases c3 : pop d0 + pop r0 < pop d + pop r
          · rw [if_pos (nI_lt c3 (by omega))]
            exact wse (by unfold ky; omega)
          · rw [if_neg (nI_nlt (by omega) (by omega))]
            by_cases c4 : pop d + pop r = pop d0 + pop r0
            · have pd0 := pop_10 d0 (by omega)
              rw [if_pos (by rw [c4]), M_bits, bi_q]
              by_cases c5 : pop d < pop d0
              · rw [if_pos (nI_lt c5 (by omega))]
                exact M_need125 D X e' hl hy hd hr g b hg c1 c2' I' (bet (by unfold ky; omega)) nx
              · rw [if_neg (nI_nlt (by omega) (by omega))]
                exact wse (by unfold ky; omega)
            · rw [if_neg (fun x => c4 ((nI_eq (by omega) (by omega)).mp x))]
              exact M_need125 D X e' hl hy hd hr g b hg c1 c2' I' (bet (by unfold ky; omega)) nx
    · rw [if_neg c1]
      exact sk fun h _ => c1 h.2.2.2.1
theorem M_needs {S : Sem} {c m h : Hp} (D : RD0 c m) (X : XM S m) (e : Agr SM m h) {l y : Nat} (hl : l < nL m) (hy : y < 60) (g b : Int32) : Ok (fX12_needs (nI l) (nI y) g b h) (fun h' => Agr SM m h' ∧ bNM (gN S (nP m) (nL m) l y g b) 1048576 h') := by
  have p10 := p2_1024 D.2.1.1
  have l10 := p2_1024 D.2.2.2.2.1.1
  have D' := D
  obtain ⟨⟨d1, d2⟩, ⟨s1, s2, s3⟩, _⟩ := D'
  unfold fX12_needs
  rw [lt_q, lt_q]
  refine up0 (fun f i h => lX12_needs_8 f (nI l) (nI y) g b (nI i) h) (2 ^ nP m) (by omega) (fun i h' => Agr SM m h' ∧ bNM (gN S (nP m) (nL m) l y g b) (1024 * i) h') _ ⟨e.wI rfl, .inl ⟨wI_s, fun d r _ _ => by omega⟩⟩ ?_ ?_
  · rintro f h' ⟨e', I'⟩
    rw [lX12_needs_8]
    simp only [bX12_needs_8, e'.i 0 18 rfl, d2, ck_of (nI_inb d1 (by decide)), nI_ix (show lv m < 2 ^ 31 by omega), e'.i 11 _ rfl, s2, s1l (nP m) (by omega), if_pos (nI_le (Nat.le_refl (2 ^ nP m)) (show 2 ^ nP m < 2 ^ 31 by omega)), ok_some]
    refine ⟨e', bNM_to I' (by omega) fun d' r' hg' hp' hlt => ?_⟩
    have := hg'.1
    have := hg'.2.1
    omega
  · rintro f d h' hd ⟨e', I'⟩ K'
    have sk : (∀ r, gN S (nP m) (nL m) l y g b d r → pop d + pop r ≤ 3 → False) → Ok (lX12_needs_8 f (nI l) (nI y) g b (nI (d + 1)) h') (fun h' => Agr SM m h' ∧ bNM (gN S (nP m) (nL m) l y g b) 1048576 h') := fun hno => K' h' ⟨e', bNM_to I' (by omega) fun d' r' hg' hp' hlt => by
      have := hg'.2.1
      by_cases ee : d' = d
      · subst ee
        exact (hno r' hg' hp').elim
      · omega⟩
    rw [lX12_needs_8]
    simp only [bX12_needs_8, bX12_needs_170, e'.i 0 18 rfl, d2, ck_of (nI_inb d1 (by decide)), nI_ix (show lv m < 2 ^ 31 by omega), e'.i 11 _ rfl, s2, s1l (nP m) (by omega), if_neg (nI_ge hd (show 2 ^ nP m < 2 ^ 31 by omega)), M_bits, bi_q, lt_q, nI_1]
    have pd := pop_10 d (by omega)
    by_cases c1 : nI d &&& g = 0
    · rw [if_pos c1]
      by_cases c2 : nI (pop d) ≤ (3 : Int32)
      · rw [if_pos c2]
        exact M_needR D X e' hl hy hd g b c1 I' fun h2 e2 i2 => K' h2 ⟨e2, i2⟩
      · rw [if_neg c2]
        have : ¬ pop d ≤ 3 := fun x => c2 (nI_le (b := 3) x (by decide))
        exact sk fun r _ h => by omega
    · rw [if_neg c1]
      exact sk fun r h _ => c1 h.2.2.1
