/-- the model's futures -/
def tbl (q : Nat) (N : Nat → Prop) (h : Hp) : Prop := ∀ k, k < 2048 → (N k ∧ h.1 q k = 1) ∨ (¬ N k ∧ h.1 q k = 0)
theorem tbl_cg {q : Nat} {N N' : Nat → Prop} {h : Hp} (e : ∀ k, k < 2048 → (N k ↔ N' k)) (H : tbl q N h) : tbl q N' h := fun k hk => by
  rcases H k hk with ⟨h1, h2⟩ | ⟨h1, h2⟩
  · exact .inl ⟨(e k hk).mp h1, h2⟩
  · exact .inr ⟨fun x => h1 ((e k hk).mpr x), h2⟩
theorem tbl_1 {q : Nat} {N : Nat → Prop} {h : Hp} {i : Nat} (H : tbl q N h) : tbl q (fun k => N k ∨ k = i) (wI h q i 1) := fun k hk => by
  by_cases e : k = i
  · subst e; exact .inl ⟨.inr rfl, wI_s⟩
  · rw [wI_j e]
    rcases H k hk with ⟨h1, h2⟩ | ⟨h1, h2⟩
    · exact .inl ⟨.inl h1, h2⟩
    · exact .inr ⟨fun x => by
        rcases x with x | x
        · exact h1 x
        · exact e x, h2⟩
theorem nar1 : vp_nar .boolean 1 = 1 := nar_b true
theorem nar0 : vp_nar .boolean 0 = 0 := nar_b false
theorem nz64 : nz 64 = true := by decide
theorem M_fut227 {S : Sem} {m h : Hp} {Q : Int32 × Hp → Prop} {r129 : Int32 → Int32 → Int32 → Int32 → Int32 → Hp → Option (Int32 × Hp)} {r170 : Int32 → Int32 → Int32 → Int32 → Int32 → Int32 → Hp → Option (Int32 × Hp)} {r194 : Int32 → Int32 → Int32 → Int32 → Int32 → Int32 → Int32 → Hp → Option (Int32 × Hp)} {w f la x10 s0 s1 : Int32} {E : Nat → Prop} {y0 : Nat} {Ec : Prop} {TH : Nat → Prop} (hL : nL m ≤ 6) (p32 : 2 ^ nP m ≤ 32) {l y k d' : Nat} (hl : l < nL m) (hy : y < 60) (h0y : y0 ≤ y) (hk : k < 2048) (hkL : k % 64 < 2 ^ nL m) (hd' : d' < 2 ^ nP m) (hs : s1 ||| s0 = nI d') (R : rdT S m y h) (F : FLy E y0 y Ec f la) (T : tbl 56 TH h)
    (K : ∀ f' la' h', Agr [(56, none)] h h' → tbl 56 (fun k' => TH k' ∨ k' = 64 * d' + lkn S m y d' (k % 64)) h' → FLy E y0 y (Ec ∨ ((k % 64).testBit l = false ∧ (lkn S m y d' (k % 64)).testBit l = true)) f' la' → Ok (r194 (nI l) w f' la' (nI y) (nI k) (x10 + 1) h') Q) :
    Ok (bX12_future_227 r129 r170 r194 (nI l) w f la (nI y) (nI k) x10 s0 s1 h) Q := by
  have l64 : 2 ^ nL m ≤ 64 := Nat.pow_le_pow_right (n := 2) (by decide) hL
  have kL := lkn_L (show nL m ≤ 10 by omega) (S := S) (y := y) (d := d') hkL
  simp only [bX12_future_227, bX12_future_300, bX12_future_296, hs, ck_of nz64, show nI k - nI k / 64 * 64 = nI (k % 64) from pk_rem (d := 64) (by omega) (by decide) (by decide), e64, ck_of (nI_inb (show 64 * d' + k % 64 < 2048 by omega) (by decide)), nI_ix (show 64 * d' + k % 64 < 2 ^ 31 by omega), R d' hd' (k % 64) hkL, ck_of (nI_inb (show 64 * d' + lkn S m y d' (k % 64) < 2048 by omega) (by decide)), nI_ix (show 64 * d' + lkn S m y d' (k % 64) < 2 ^ 31 by omega), nar1, bit_eq1, bit_eq0, bit_nI (show l < 32 by omega), lt_q]
  have a : Agr [(56, none)] h (wI h 56 (64 * d' + lkn S m y d' (k % 64)) 1) := Agr.refl.wI rfl
  have t := tbl_1 (i := 64 * d' + lkn S m y d' (k % 64)) T
  by_cases c1 : (k % 64).testBit l = true
  · rw [if_pos c1]
    exact K f la _ a t (FL_cg ⟨fun x => .inl x, fun x => by
      rcases x with x | ⟨x, _⟩
      · exact x
      · rw [c1] at x; cases x⟩ F)
  · rw [if_neg c1]
    have c1' : (k % 64).testBit l = false := by simpa using c1
    by_cases c2 : (lkn S m y d' (k % 64)).testBit l = false
    · rw [if_pos c2]
      exact K f la _ a t (FL_cg ⟨fun x => .inl x, fun x => by
        rcases x with x | ⟨_, x⟩
        · exact x
        · rw [c2] at x; cases x⟩ F)
    · rw [if_neg c2]
      have c2' : (lkn S m y d' (k % 64)).testBit l = true := by simpa using c2
      have ev := FL_cg (Ec' := Ec ∨ ((k % 64).testBit l = false ∧ (lkn S m y d' (k % 64)).testBit l = true)) ⟨fun _ => .inr ⟨c1', c2'⟩, fun _ => trivial⟩ (FL_ev (Nat.lt_trans hy (by decide)) h0y F)
      by_cases c3 : (0 : Int32) ≤ f
      · rw [if_pos c3]
        rw [if_pos c3] at ev
        exact K _ _ _ a t ev
      · rw [if_neg c3]
        rw [if_neg c3] at ev
        exact K _ _ _ a t ev
def djS (k j : Nat) : Nat := if j = 0 then k / 64 else k / 64 ||| 2 ^ (j - 1)
theorem dj_to {P k d' : Nat} : toD P (k / 64) d' ↔ ∃ j, j < P + 1 ∧ d' = djS k j := by
  unfold djS
  constructor
  · rintro (rfl | ⟨p, hp, rfl⟩)
    · exact ⟨0, by omega, by rw [if_pos rfl]⟩
    · exact ⟨p + 1, by omega, by rw [if_neg (by omega), Nat.add_sub_cancel]⟩
  · rintro ⟨j, hj, rfl⟩
    by_cases e : j = 0
    · rw [if_pos e]; exact .inl rfl
    · rw [if_neg e]; exact .inr ⟨j - 1, by omega, rfl⟩
theorem M_futP {S : Sem} {c m h : Hp} {Q : Int32 × Hp → Prop} {r129 : Int32 → Int32 → Int32 → Int32 → Int32 → Hp → Option (Int32 × Hp)} {r170 : Int32 → Int32 → Int32 → Int32 → Int32 → Int32 → Hp → Option (Int32 × Hp)} {w f la : Int32} {E : Nat → Prop} {y0 : Nat} {Ec : Prop} {TH : Nat → Prop} (D : RD0 c m) (e : Agr SM m h) (hP : nP m ≤ 5) (hL : nL m ≤ 6) {l y k : Nat} (hl : l < nL m) (hy : y < 60) (h0y : y0 ≤ y) (hk : k < 2048) (hkP : k / 64 < 2 ^ nP m) (hkL : k % 64 < 2 ^ nL m) (R : rdT S m y h) (F : FLy E y0 y Ec f la) (T : tbl 56 TH h)
    (K : ∀ f' la' h', Agr [(56, none)] h h' → tbl 56 (fun k' => TH k' ∨ ∃ d', toD (nP m) (k / 64) d' ∧ k' = 64 * d' + lkn S m y d' (k % 64)) h' → FLy E y0 y (Ec ∨ ((k % 64).testBit l = false ∧ ∃ d', toD (nP m) (k / 64) d' ∧ (lkn S m y d' (k % 64)).testBit l = true)) f' la' → Ok (r170 (nI l) w f' la' (nI y) (nI (k + 1)) h') Q) :
    Ok (lX12_future_194 r129 r170 FU (nI l) w f la (nI y) (nI k) (-1) h) Q := by
  have p32 : 2 ^ nP m ≤ 32 := Nat.pow_le_pow_right (n := 2) (by decide) hP
  have D' := D
  obtain ⟨⟨d1, d2⟩, ⟨p1, p2, p3⟩, _⟩ := D'
  rw [show (-1 : Int32) = nI 0 - 1 from rfl]
  refine up0 (fun f i (s : Int32 × Int32 × Hp) => lX12_future_194 r129 r170 f (nI l) w s.1 s.2.1 (nI y) (nI k) (nI i - 1) s.2.2) (nP m + 1) (by omega) (fun i s => Agr [(56, none)] h s.2.2 ∧ tbl 56 (fun k' => TH k' ∨ ∃ j, j < i ∧ k' = 64 * djS k j + lkn S m y (djS k j) (k % 64)) s.2.2 ∧ FLy E y0 y (Ec ∨ ((k % 64).testBit l = false ∧ ∃ j, j < i ∧ (lkn S m y (djS k j) (k % 64)).testBit l = true)) s.1 s.2.1) (f, la, h) ⟨.refl, tbl_cg (fun k' _ => ⟨fun x => .inl x, fun x => ?_⟩) T, FL_cg ⟨fun x => .inl x, fun x => ?_⟩ F⟩ ?_ ?_
  · rcases x with x | ⟨j, hj, _⟩
    · exact x
    · exact absurd hj (by omega)
  · rcases x with x | ⟨_, j, hj, _⟩
    · exact x
    · exact absurd hj (by omega)
  · rintro f2 ⟨f', la', h'⟩ ⟨a, t, F'⟩
    simp only at a t F'
    have e' : Agr SM m h' := e.trans (a.sub rfl)
    rw [lX12_future_194]
    simp only [bX12_future_194, bX12_future_306, nI_pred, e'.i 0 18 rfl, d2, ck_of (nI_inb d1 (by decide)), nI_ix (show lv m < 2 ^ 31 by omega), e'.i 11 _ rfl, p2, if_pos (nI_le (Nat.le_refl (nP m)) (show nP m < 2 ^ 31 by omega)), lt_q, nI_1]
    refine K f' la' h' a (tbl_cg (fun k' _ => ⟨fun x => ?_, fun x => ?_⟩) t) (FL_cg ⟨fun x => ?_, fun x => ?_⟩ F')
    · rcases x with x | ⟨j, hj, q⟩
      · exact .inl x
      · exact .inr ⟨djS k j, dj_to.mpr ⟨j, hj, rfl⟩, q⟩
    · rcases x with x | ⟨d', q1, q⟩
      · exact .inl x
      · obtain ⟨j, hj, rfl⟩ := dj_to.mp q1
        exact .inr ⟨j, hj, q⟩
    · rcases x with x | ⟨x, j, hj, q⟩
      · exact .inl x
      · exact .inr ⟨x, djS k j, dj_to.mpr ⟨j, hj, rfl⟩, q⟩
    · rcases x with x | ⟨x, d', q1, q⟩
      · exact .inl x
      · obtain ⟨j, hj, rfl⟩ := dj_to.mp q1
        exact .inr ⟨x, j, hj, q⟩
  · rintro f2 i ⟨f', la', h'⟩ hi ⟨a, t, F'⟩ K'
    simp only at a t F'
    have e' : Agr SM m h' := e.trans (a.sub rfl)
    have R' : rdT S m y h' := fun d hd b hb => by rw [a.i 57 _ rfl]; exact R d hd b hb
    have dl : djS k i < 2 ^ nP m := toD_lt hkP (dj_to.mpr ⟨i, hi, rfl⟩)
    have st : ∀ s0 s1 : Int32, s1 ||| s0 = nI (djS k i) → Ok (bX12_future_227 r129 r170 (lX12_future_194 r129 r170 f2) (nI l) w f' la' (nI y) (nI k) (nI i - 1) s0 s1 h') Q := fun s0 s1 hs => M_fut227 hL p32 hl hy h0y hk hkL dl hs R' F' t fun f3 la3 h3 a3 t3 F3 => by
      rw [show nI i - 1 + 1 = nI (i + 1) - 1 by rw [nI_pred, Int32.sub_add_cancel]]
      refine K' (f3, la3, h3) ⟨a.trans a3, tbl_cg (fun k' _ => ⟨fun x => ?_, fun x => ?_⟩) t3, FL_cg ⟨fun x => ?_, fun x => ?_⟩ F3⟩
      · rcases x with (x | ⟨j, hj, q⟩) | q
        · exact .inl x
        · exact .inr ⟨j, by omega, q⟩
        · exact .inr ⟨i, by omega, q⟩
      · rcases x with x | ⟨j, hj, q⟩
        · exact .inl (.inl x)
        · by_cases ee : j = i
          · subst ee; exact .inr q
          · exact .inl (.inr ⟨j, by omega, q⟩)
      · rcases x with (x | ⟨x, j, hj, q⟩) | ⟨x, q⟩
        · exact .inl x
        · exact .inr ⟨x, j, by omega, q⟩
        · exact .inr ⟨x, i, by omega, q⟩
      · rcases x with x | ⟨x, j, hj, q⟩
        · exact .inl (.inl x)
        · by_cases ee : j = i
          · subst ee; exact .inr ⟨x, q⟩
          · exact .inl (.inr ⟨x, j, by omega, q⟩)
    have kq : nI k / 64 = nI (k / 64) := pk_div (d := 64) (by omega) (by decide) (by decide)
    rw [lX12_future_194]
    cases i with
    | zero =>
      have n1 : ¬ nI (nP m) ≤ nI 0 - 1 := fun x => absurd (Int32.le_trans (nI_pos' (show nP m < 2 ^ 31 by omega)) x) (by decide)
      simp only [bX12_future_194, e'.i 0 18 rfl, d2, ck_of (nI_inb d1 (by decide)), nI_ix (show lv m < 2 ^ 31 by omega), e'.i 11 _ rfl, p2, if_neg n1, ck_of nz64, kq]
      rw [if_pos (show nI 0 - 1 = (-1 : Int32) from rfl)]
      refine st 0 _ ?_
      unfold djS
      rw [if_pos rfl, Int32.or_zero]
    | succ j =>
      have n1 : ¬ nI (nP m) ≤ nI (j + 1) - 1 := by rw [nI_pred]; exact nI_ge (by omega) (by omega)
      have n2 : ¬ nI (j + 1) - 1 = (-1 : Int32) := by
        rw [nI_pred]
        intro x
        have := nI_pos' (show j < 2 ^ 31 by omega)
        rw [x] at this
        exact absurd this (by decide)
      simp only [bX12_future_194, e'.i 0 18 rfl, d2, ck_of (nI_inb d1 (by decide)), nI_ix (show lv m < 2 ^ 31 by omega), e'.i 11 _ rfl, p2, if_neg n1, if_neg n2, ck_of nz64, kq]
      refine st _ _ ?_
      rw [nI_pred, s1l j (by omega), nI_or]
      unfold djS
      rw [if_neg (by omega), Nat.add_sub_cancel]
def nbS (S : Sem) (m : Hp) (y : Nat) (NB : Nat → Prop) (n k' : Nat) : Prop := ∃ k, k < n ∧ NB k ∧ ∃ d', toD (nP m) (k / 64) d' ∧ k' = 64 * d' + lkn S m y d' (k % 64)
def nbE (S : Sem) (m : Hp) (l y : Nat) (NB : Nat → Prop) (n : Nat) : Prop := ∃ k, k < n ∧ NB k ∧ (k % 64).testBit l = false ∧ ∃ d', toD (nP m) (k / 64) d' ∧ (lkn S m y d' (k % 64)).testBit l = true
def nbOk (m : Hp) (NB : Nat → Prop) : Prop := ∀ k, NB k → k / 64 < 2 ^ nP m ∧ k % 64 < 2 ^ nL m
theorem M_futYear {S : Sem} {c m h : Hp} {Q : Int32 × Hp → Prop} {r129 : Int32 → Int32 → Int32 → Int32 → Int32 → Hp → Option (Int32 × Hp)} {w f la : Int32} {E : Nat → Prop} {y0 : Nat} {NB : Nat → Prop} (D : RD0 c m) (e : Agr SM m h) (hP : nP m ≤ 5) (hL : nL m ≤ 6) {l y : Nat} (hl : l < nL m) (hy : y < 60) (h0y : y0 ≤ y) (ok : nbOk m NB) (R : rdT S m y h) (T : tbl 55 NB h) (hE : E y ↔ nbE S m l y NB 2048) (F : FLy E y0 y False f la)
    (K : ∀ f' la' h', Agr SM m h' → tbl 55 (nbS S m y NB 2048) h' → FLy E y0 (y + 1) False f' la' → Ok (r129 (nI l) w f' la' (nI (y + 1)) h') Q) :
    Ok (lX12_future_145 r129 FU (nI l) w f la (nI y) 0 h) Q := by
  refine up0 (fun f2 i h => lX12_future_145 r129 f2 (nI l) w f la (nI y) (nI i) h) 2048 (by decide) (fun i h' => Agr [(56, none)] h h' ∧ ∀ k, k < i → h'.1 56 k = 0) h ⟨.refl, fun k hk => absurd hk (by omega)⟩ ?_ ?_
  · rintro f1 h1 ⟨a1, hz⟩
    have e1 : Agr SM m h1 := e.trans (a1.sub rfl)
    have R1 : rdT S m y h1 := fun d hd b hb => by rw [a1.i 57 _ rfl]; exact R d hd b hb
    have T1 : tbl 55 NB h1 := fun k hk => by rw [a1.i 55 _ rfl]; exact T k hk
    rw [lX12_future_145]
    simp only [bX12_future_145, if_pos (show (2048 : Int32) ≤ nI 2048 by decide), lt_q]
    refine up0 (fun f2 i (s : Int32 × Int32 × Hp) => lX12_future_170 r129 f2 (nI l) w s.1 s.2.1 (nI y) (nI i) s.2.2) 2048 (by decide) (fun i s => Agr [(56, none)] h1 s.2.2 ∧ tbl 56 (nbS S m y NB i) s.2.2 ∧ FLy E y0 y (nbE S m l y NB i) s.1 s.2.1) (f, la, h1) ⟨.refl, fun k hk => .inr ⟨fun ⟨k0, q, _⟩ => absurd q (by omega), hz k hk⟩, FL_cg ⟨False.elim, fun ⟨k0, q, _⟩ => absurd q (by omega)⟩ F⟩ ?_ ?_
    · rintro f2 ⟨f', la', h2⟩ ⟨a2, t2, F2⟩
      simp only at a2 t2 F2
      have e2 : Agr SM m h2 := e1.trans (a2.sub rfl)
      rw [lX12_future_170]
      simp only [bX12_future_170, if_pos (show (2048 : Int32) ≤ nI 2048 by decide), lt_q]
      refine up0 (fun f3 i h => lX12_future_315 r129 f3 (nI l) w f' la' (nI y) (nI i) h) 2048 (by decide) (fun i h' => Agr SM m h' ∧ tbl 56 (nbS S m y NB 2048) h' ∧ ∀ k, k < i → h'.1 55 k = h'.1 56 k) h2 ⟨e2, t2, fun k hk => absurd hk (by omega)⟩ ?_ ?_
      · rintro f3 h3 ⟨e3, t3, hc⟩
        rw [lX12_future_315]
        simp only [bX12_future_315, if_pos (show (2048 : Int32) ≤ nI 2048 by decide), lt_q, nI_1]
        exact K f' la' h3 e3 (fun k hk => by rw [hc k hk]; exact t3 k hk) (FL_nx hE.symm F2)
      · rintro f3 i h3 hi ⟨e3, t3, hc⟩ K3
        have hb : vp_nar .boolean (h3.1 56 i) = h3.1 56 i := by
          rcases t3 i hi with ⟨_, q⟩ | ⟨_, q⟩
          · rw [q]; exact nar1
          · rw [q]; exact nar0
        rw [lX12_future_315]
        simp only [bX12_future_315, if_neg (show ¬ (2048 : Int32) ≤ nI i from nI_ge (b := 2048) hi (by decide)), ck_of (nI_inb hi (by decide)), nI_ix (show i < 2 ^ 31 by omega), hb, lt_q, nI_1]
        refine K3 _ ⟨e3.wI rfl, fun k hk => by rw [wI_k (by decide)]; exact t3 k hk, fun k hk => ?_⟩
        rw [wI_k (h := h3) (a := 56) (by decide)]
        by_cases ee : k = i
        · subst ee; rw [wI_s]
        · rw [wI_j ee]; exact hc k (by omega)
    · rintro f2 k ⟨f', la', h2⟩ hk ⟨a2, t2, F2⟩ K2
      simp only at a2 t2 F2
      have e2 : Agr SM m h2 := e1.trans (a2.sub rfl)
      have R2 : rdT S m y h2 := fun d hd b hb => by rw [a2.i 57 _ rfl]; exact R1 d hd b hb
      rw [lX12_future_170]
      simp only [bX12_future_170, bX12_future_306, if_neg (show ¬ (2048 : Int32) ≤ nI k from nI_ge (b := 2048) hk (by decide)), ck_of (nI_inb hk (by decide)), nI_ix (show k < 2 ^ 31 by omega), a2.i 55 _ rfl, lt_q, nI_1]
      rcases T1 k hk with ⟨q1, q2⟩ | ⟨q1, q2⟩
      · rw [q2, if_neg (by decide)]
        obtain ⟨o1, o2⟩ := ok k q1
        refine M_futP D e2 hP hL hl hy h0y hk o1 o2 R2 F2 t2 fun f3 la3 h3 a3 t3 F3 => K2 (f3, la3, h3) ⟨a2.trans a3, tbl_cg (fun k' _ => ⟨fun x => ?_, fun x => ?_⟩) t3, FL_cg ⟨fun x => ?_, fun x => ?_⟩ F3⟩
        · rcases x with ⟨k0, z1, z2⟩ | z
          · exact ⟨k0, by omega, z2⟩
          · exact ⟨k, by omega, q1, z⟩
        · obtain ⟨k0, z1, z2, z3⟩ := x
          by_cases ee : k0 = k
          · subst ee; exact .inr z3
          · exact .inl ⟨k0, by omega, z2, z3⟩
        · rcases x with ⟨k0, z1, z2⟩ | z
          · exact ⟨k0, by omega, z2⟩
          · exact ⟨k, by omega, q1, z⟩
        · obtain ⟨k0, z1, z2, z3⟩ := x
          by_cases ee : k0 = k
          · subst ee; exact .inr z3
          · exact .inl ⟨k0, by omega, z2, z3⟩
      · rw [q2, if_pos rfl]
        refine K2 (f', la', h2) ⟨a2, tbl_cg (fun k' _ => ⟨fun x => ?_, fun x => ?_⟩) t2, FL_cg ⟨fun x => ?_, fun x => ?_⟩ F2⟩
        · obtain ⟨k0, z1, z2⟩ := x
          exact ⟨k0, by omega, z2⟩
        · obtain ⟨k0, z1, z2, z3⟩ := x
          by_cases ee : k0 = k
          · subst ee; exact absurd z2 q1
          · exact ⟨k0, by omega, z2, z3⟩
        · obtain ⟨k0, z1, z2⟩ := x
          exact ⟨k0, by omega, z2⟩
        · obtain ⟨k0, z1, z2, z3⟩ := x
          by_cases ee : k0 = k
          · subst ee; exact absurd z2 q1
          · exact ⟨k0, by omega, z2, z3⟩
  · rintro f1 i h1 hi ⟨a1, hz⟩ K1
    rw [lX12_future_145]
    simp only [bX12_future_145, if_neg (show ¬ (2048 : Int32) ≤ nI i from nI_ge (b := 2048) hi (by decide)), ck_of (nI_inb hi (by decide)), nI_ix (show i < 2 ^ 31 by omega), nar0, lt_q, nI_1]
    refine K1 _ ⟨a1.wI rfl, fun k hk => ?_⟩
    by_cases ee : k = i
    · subst ee; rw [wI_s]
    · rw [wI_j ee]; exact hz k (by omega)
