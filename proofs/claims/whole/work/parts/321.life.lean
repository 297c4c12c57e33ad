/-- the same rules, not by evaluation -/
theorem lt_q {α β : Type} {x : α} {f : α → β} : lt x f = f x := by
  have h : ∀ y, y = lt x f → y = f x := fun y h => h
  exact h _ rfl
theorem bi_q {α β : Type} {a : α} {h : Hp} {f : α → Hp → Option β} : bi (some (a, h)) f = f a h := by
  have k : ∀ y, y = bi (some (a, h)) f → y = f a h := fun y h => h
  exact k _ rfl
theorem bv_q {β : Type} {h : Hp} {f : Hp → Option β} : bv (some h) f = f h := by
  have k : ∀ y, y = bv (some h) f → y = f h := fun y h => h
  exact k _ rfl
/-- lots -/
def mixS (a b : Int32) : Int32 := (((a ^^^ b) * 1103515245) + 12345) ^^^ (ushr (((a ^^^ b) * 1103515245) + 12345) 15)
def lotS (a b : Int32) : Int32 := (ushr (mixS (mixS a 18) b) 1) - (ushr (mixS (mixS a 18) b) 1) / 100 * 100
theorem nz100 : nz 100 = true := by decide
theorem M_lot (a b : Int32) (h : Hp) : fX12_lot a b 100 h = some (lotS a b, h) := by
  simp only [fX12_lot, fX12_mixed, lt_q, bi_q, ck_of nz100]
  rfl
theorem C_lot (a b : Int32) (h : Hp) : fX1_lot a b h = some (lotS a b, h) := by
  simp only [fX1_lot, lt_q, ck_of nz100]
  rfl
def livF (S : Sem) (seed : Int32) (y p : Nat) (R : Run) : Run := if bit (R 6 0) (nI p) = false then (if S.2.1 p y ≤ lotS seed (100 * nI y + nI p) then R else up R 6 0 (R 6 0 ||| ((1 : Int32) <<< (nI p &&& 31)))) else R
def wetF (m : Hp) (seed w : Int32) (y s : Nat) (R : Run) : Run := if w ≤ lotS seed (100 * nI y + 50 + nI s) then R else floS m (nI s) (nI y) R
def livS (S : Sem) (m : Hp) (seed w : Int32) (y : Nat) (R : Run) : Run := payS S m y (forN 4 (wetF m seed w y) (forN (nP m) (livF S seed y) R))
def lifS (S : Sem) (m : Hp) (seed w : Int32) : Nat → Run × List Nat
  | 0 => (R0S m, [])
  | y + 1 => ((lookS S m y 10 (livS S m seed w y (lifS S m seed w y).1)).1, (lifS S m seed w y).2 ++ (lookS S m y 10 (livS S m seed w y (lifS S m seed w y).1)).2)
theorem liv_e {S : Sem} {m : Hp} {seed w : Int32} {y : Nat} {R : Run} : payS S m y (forN 4 (wetF m seed w y) (forN (nP m) (livF S seed y) R)) = livS S m seed w y R := rfl
theorem lif_s {S : Sem} {m : Hp} {seed w : Int32} {y : Nat} : lifS S m seed w (y + 1) = ((lookS S m y 10 (livS S m seed w y (lifS S m seed w y).1)).1, (lifS S m seed w y).2 ++ (lookS S m y 10 (livS S m seed w y (lifS S m seed w y).1)).2) := by rw [lifS]
theorem lif_0 {S : Sem} {m : Hp} {seed w : Int32} : lifS S m seed w 0 = (R0S m, []) := by rw [lifS]
theorem stp_liv {S : Sem} {m : Hp} {seed w : Int32} {y : Nat} {R : Run} : stp R (livS S m seed w y R) := by
  refine ((stp_for (fun i T => ?_) _).trans (stp_for (fun i T => ?_) _)).trans stp_pay
  · unfold livF
    split
    · split
      · exact .refl
      · exact stp_up (by decide)
    · exact .refl
  · unfold wetF
    split
    · exact .refl
    · exact stp_flo
theorem inv_lif {S : Sem} {m : Hp} {seed w : Int32} : ∀ y, inv m y (lifS S m seed w y).1 (lifS S m seed w y).2
  | 0 => inv_0
  | y + 1 => by
    rw [lif_s]
    exact inv_look (inv_stp (inv_lif y) stp_liv)
theorem n60 : nI 60 = 60 := rfl
theorem M_livesBy {S : Sem} {c m h : Hp} (D : RD0 c m) (X : XM S m) (e : Agr SM m h) (seed w : Int32) : Ok (fX12_livesBy seed w h) (fun h' => (∃ ls, KM (nL m) (lifS S m seed w 60).1 ls h') ∧ Agr SM m h') := by
  have D' := D
  obtain ⟨⟨d1, d2⟩, ⟨p1, p2, p3⟩, _, _, ⟨s1, s2, s3⟩, _⟩ := D'
  simp only [fX12_livesBy, ok_bv, lt_q]
  refine (M_starts D e).mono ?_
  rintro h1 ⟨H1, a1⟩
  have e1 : Agr SM m h1 := e.trans (a1.sub rfl)
  refine up0 (fun f i h => lX12_livesBy_6 f seed w (nI i) h) 60 (by decide) (fun i h' => (∃ ls, KM (nL m) (lifS S m seed w i).1 ls h') ∧ Agr SM m h') h1 ⟨by rw [lif_0]; exact ⟨_, H1⟩, e1⟩ ?_ ?_
  · rintro f h2 hI
    rw [lX12_livesBy_6]
    simp only [bX12_livesBy_6, if_pos (show (60 : Int32) ≤ nI 60 by decide), ok_some]
    exact hI
  · rintro f y h2 hy ⟨⟨ls, H2⟩, e2⟩ K
    rw [lX12_livesBy_6]
    simp only [bX12_livesBy_6, if_neg (show ¬ (60 : Int32) ≤ nI y from nI_ge (b := 60) hy (by decide)), lt_q]
    refine up0 (fun g i h => lX12_livesBy_15 (lX12_livesBy_6 f) g seed w (nI y) (nI i) h) (nP m) (by omega) (fun i h' => KM (nL m) (forN i (livF S seed y) (lifS S m seed w y).1) ls h' ∧ Agr SM m h') h2 ⟨H2, e2⟩ ?_ ?_
    · rintro g h3 ⟨H3, e3⟩
      rw [lX12_livesBy_15]
      simp only [bX12_livesBy_15, e3.i 0 18 rfl, d2, ck_of (nI_inb d1 (by decide)), nI_ix (show lv m < 2 ^ 31 by omega), e3.i 11 _ rfl, p2, if_pos (nI_le (Nat.le_refl (nP m)) (show nP m < 2 ^ 31 by omega)), lt_q]
      refine up0 (fun g i h => lX12_livesBy_86 (lX12_livesBy_6 f) g seed w (nI y) (nI i) h) 4 (by decide) (fun i h' => KM (nL m) (forN i (wetF m seed w y) (forN (nP m) (livF S seed y) (lifS S m seed w y).1)) ls h' ∧ Agr SM m h') h3 ⟨H3, e3⟩ ?_ ?_
      · rintro g h4 ⟨H4, e4⟩
        rw [lX12_livesBy_86]
        simp only [bX12_livesBy_86, if_pos (show (4 : Int32) ≤ nI 4 by decide), ok_bv, lt_q, nI_1]
        refine (M_pays D X e4 H4 hy).mono ?_
        rintro h5 ⟨H5, a5⟩
        have e5 : Agr SM m h5 := e4.trans (a5.sub rfl)
        rw [liv_e] at H5
        refine (M_looksNow D X hy e5 H5).mono ?_
        rintro h6 ⟨H6, a6⟩
        refine K h6 ⟨?_, e5.trans (a6.sub rfl)⟩
        rw [lif_s]
        exact ⟨_, H6⟩
      · rintro g s h4 hs ⟨H4, e4⟩ K2
        rw [lX12_livesBy_86]
        simp only [bX12_livesBy_86, bX12_livesBy_119, if_neg (show ¬ (4 : Int32) ≤ nI s from nI_ge (b := 4) hs (by decide)), M_lot, bi_q, lt_q, nI_1]
        by_cases c1 : w ≤ lotS seed (100 * nI y + 50 + nI s)
        · rw [if_pos c1]
          refine K2 h4 ⟨?_, e4⟩
          rw [forN_s]; unfold wetF
          rw [if_pos c1]; exact H4
        · rw [if_neg c1, ok_bv]
          refine (M_floods D e4 H4 (nI s) (nI y)).mono ?_
          rintro h5 ⟨H5, a5⟩
          refine K2 h5 ⟨?_, e4.trans (a5.sub rfl)⟩
          rw [forN_s]; unfold wetF
          rw [if_neg c1]; exact H5
    · rintro g p h3 hp ⟨H3, e3⟩ K2
      rw [lX12_livesBy_15]
      simp only [bX12_livesBy_15, bX12_livesBy_77, e3.i 0 18 rfl, d2, ck_of (nI_inb d1 (by decide)), nI_ix (show lv m < 2 ^ 31 by omega), e3.i 11 _ rfl, p2, if_neg (nI_ge hp (show nP m < 2 ^ 31 by omega)), H3.de, bit_eq0, M_lot, bi_q, lt_q, nI_1]
      generalize hR : forN p (livF S seed y) (lifS S m seed w y).1 = R at *
      have fs : forN (p + 1) (livF S seed y) (lifS S m seed w y).1 = livF S seed y p R := by rw [forN_s, hR]
      by_cases c0 : bit (R 6 0) (nI p) = false
      · rw [if_pos c0, ok_bi]
        refine ((X h3 e3).2.1 p y hp hy).mono ?_
        rintro ⟨r, h4⟩ ⟨hr, a4⟩
        simp only at hr a4
        subst hr
        have H4 := KM_agr H3 a4 rfl
        have e4 : Agr SM m h4 := e3.trans (a4.sub rfl)
        simp only [H4.de]
        by_cases c1 : S.2.1 p y ≤ lotS seed (100 * nI y + nI p)
        · rw [if_pos c1]
          refine K2 h4 ⟨?_, e4⟩
          rw [fs]; unfold livF
          rw [if_pos c0, if_pos c1]; exact H4
        · rw [if_neg c1]
          refine K2 _ ⟨?_, e4.wI rfl⟩
          rw [fs]; unfold livF
          rw [if_pos c0, if_neg c1]; exact H4.de_u _
      · rw [if_neg c0]
        refine K2 h3 ⟨?_, e3⟩
        rw [fs]; unfold livF
        rw [if_neg c0]; exact H3
theorem C_livesBy {S : Sem} {c m h : Hp} (D : RD0 c m) (X : XC S c m) (e : Agr SC c h) (seed w : Int32) : Ok (fX2_lifeOf seed w h) (fun h' => KC 190 (nL m) (lifS S m seed w 60).1 (lifS S m seed w 60).2 true h' ∧ Agr SC c h') := by
  have ho : isC 190 := .inr (.inl rfl)
  have D' := D
  obtain ⟨_, ⟨p1, p2, p3⟩, _, _, ⟨s1, s2, s3⟩, _⟩ := D'
  simp only [fX2_lifeOf, fX1_liveByLots, ok_bv, lt_q]
  have b := C_begin (tr := true) D ho e
  rw [b2_t] at b
  refine b.mono ?_
  rintro h1 ⟨H1, a1⟩
  have e1 : Agr SC c h1 := e.trans (a1.agr ho)
  refine up0 (fun f i h => lX1_liveByLots_7 190 f seed w (nI i) h) 60 (by decide) (fun i h' => KC 190 (nL m) (lifS S m seed w i).1 (lifS S m seed w i).2 true h' ∧ Agr SC c h') h1 ⟨by rw [lif_0]; exact H1, e1⟩ ?_ ?_
  · rintro f h2 hI
    rw [lX1_liveByLots_7]
    simp only [bX1_liveByLots_7, if_pos (show (60 : Int32) ≤ nI 60 by decide), ok_some]
    exact hI
  · rintro f y h2 hy ⟨H2, e2⟩ K
    have hin := inv_stp (inv_lif (S := S) (m := m) (seed := seed) (w := w) y) (stp_liv (S := S) (m := m) (seed := seed) (w := w) (y := y))
    generalize hL : (lifS S m seed w y).2 = ls at *
    rw [lX1_liveByLots_7]
    simp only [bX1_liveByLots_7, if_neg (show ¬ (60 : Int32) ≤ nI y from nI_ge (b := 60) hy (by decide)), lt_q]
    refine up0 (fun g i h => lX1_liveByLots_16 190 (lX1_liveByLots_7 190 f) g seed w (nI y) (nI i) h) (nP m) (by omega) (fun i h' => KC 190 (nL m) (forN i (livF S seed y) (lifS S m seed w y).1) ls true h' ∧ Agr SC c h') h2 ⟨H2, e2⟩ ?_ ?_
    · rintro g h3 ⟨H3, e3⟩
      rw [lX1_liveByLots_16]
      simp only [bX1_liveByLots_16, e3.i 108 6 rfl, p3, if_pos (nI_le (Nat.le_refl (nP m)) (show nP m < 2 ^ 31 by omega)), lt_q]
      refine up0 (fun g i h => lX1_liveByLots_86 190 (lX1_liveByLots_7 190 f) g seed w (nI y) (nI i) h) 4 (by decide) (fun i h' => KC 190 (nL m) (forN i (wetF m seed w y) (forN (nP m) (livF S seed y) (lifS S m seed w y).1)) ls true h' ∧ Agr SC c h') h3 ⟨H3, e3⟩ ?_ ?_
      · rintro g h4 ⟨H4, e4⟩
        rw [lX1_liveByLots_86]
        simp only [bX1_liveByLots_86, if_pos (show (4 : Int32) ≤ nI 4 by decide), ok_bv, lt_q, nI_1]
        refine (C_pays D X ho e4 H4 hy).mono ?_
        rintro h5 ⟨H5, a5⟩
        have e5 : Agr SC c h5 := e4.trans (a5.agr ho)
        rw [liv_e] at H5
        refine (C_lookUp D X ho hy e5 H5 (by have := hin.1; omega)).mono ?_
        rintro h6 ⟨H6, a6⟩
        refine K h6 ⟨?_, e5.trans (a6.agr ho)⟩
        rw [lif_s, hL]
        exact H6
      · rintro g s h4 hs ⟨H4, e4⟩ K2
        rw [lX1_liveByLots_86]
        simp only [bX1_liveByLots_86, bX1_liveByLots_117, if_neg (show ¬ (4 : Int32) ≤ nI s from nI_ge (b := 4) hs (by decide)), C_lot, bi_q, lt_q, nI_1]
        by_cases c1 : w ≤ lotS seed (100 * nI y + 50 + nI s)
        · rw [if_pos c1]
          refine K2 h4 ⟨?_, e4⟩
          rw [forN_s]; unfold wetF
          rw [if_pos c1]; exact H4
        · rw [if_neg c1, ok_bv]
          refine (C_floods D ho e4 H4 (nI s) (nI y)).mono ?_
          rintro h5 ⟨H5, a5⟩
          refine K2 h5 ⟨?_, e4.trans (a5.agr ho)⟩
          rw [forN_s]; unfold wetF
          rw [if_neg c1]; exact H5
    · rintro g p h3 hp ⟨H3, e3⟩ K2
      rw [lX1_liveByLots_16]
      simp only [bX1_liveByLots_16, bX1_liveByLots_77, e3.i 108 6 rfl, p3, if_neg (nI_ge hp (show nP m < 2 ^ 31 by omega)), H3.de, C_has, b2_0, C_lot, bi_q, (X h3 e3).2.1 p y hp hy, lt_q, nI_1]
      generalize hR : forN p (livF S seed y) (lifS S m seed w y).1 = R at *
      have fs : forN (p + 1) (livF S seed y) (lifS S m seed w y).1 = livF S seed y p R := by rw [forN_s, hR]
      by_cases c0 : bit (R 6 0) (nI p) = false
      · rw [if_pos c0]
        by_cases c1 : S.2.1 p y ≤ lotS seed (100 * nI y + nI p)
        · rw [if_pos c1]
          refine K2 h3 ⟨?_, e3⟩
          rw [fs]; unfold livF
          rw [if_pos c0, if_pos c1]; exact H3
        · rw [if_neg c1]
          refine K2 _ ⟨?_, e3.wI rfl⟩
          rw [fs]; unfold livF
          rw [if_pos c0, if_neg c1]; exact H3.de_u _
      · rw [if_neg c0]
        refine K2 h3 ⟨?_, e3⟩
        rw [fs]; unfold livF
        rw [if_neg c0]; exact H3
def thoS (R : Run) (v : Int32) (l : Nat) : Bool := decide (R 0 l = v)
theorem M_those {c m h : Hp} {R : Run} {ls : List Nat} (D : RD0 c m) (e : Agr SM m h) (H : KM (nL m) R ls h) (v : Int32) : fX12_those v h = some (mskS (thoS R v) (nL m), h) := by
  obtain ⟨⟨d1, d2⟩, _, _, _, ⟨s1, s2, s3⟩, _⟩ := D
  unfold fX12_those
  rw [lt_q, lt_q, ← ok_eq]
  refine up0 (fun f i s => lX12_those_4 f v s (nI i) h) (nL m) (by omega) (fun i s => s = mskS (thoS R v) i) 0 rfl ?_ ?_
  · intro f s hs
    simp only [lX12_those_4, bX12_those_4, e.i 0 18 rfl, d2, ck_of (nI_inb d1 (by decide)), nI_ix (show lv m < 2 ^ 31 by omega), e.i 17 _ rfl, s2, if_pos (nI_le (Nat.le_refl (nL m)) (show nL m < 2 ^ 31 by omega)), ok_some]
    rw [hs]
  · intro f l s hl hs K
    simp only [lX12_those_4, bX12_those_4, bX12_those_33, e.i 0 18 rfl, d2, ck_of (nI_inb d1 (by decide)), nI_ix (show lv m < 2 ^ 31 by omega), e.i 17 _ rfl, s2, if_neg (nI_ge hl (show nL m < 2 ^ 31 by omega)), ck_of (nI_inb (n := l) (N := 10) (by omega) (by decide)), nI_ix (show l < 2 ^ 31 by omega), H.st hl, lt_q, nI_1]
    by_cases c1 : R 0 l = v
    · rw [if_pos c1]; apply K; rw [mskS_s, hs]; unfold thoS; rw [if_pos (decide_eq_true c1)]
    · rw [if_neg c1]; apply K; rw [mskS_s, hs, if_neg (by unfold thoS; rw [decide_eq_true_iff]; exact c1)]
theorem C_those {c m h : Hp} {o : Nat} {R : Run} {ls : List Nat} {tr : Bool} (D : RD0 c m) (e : Agr SC c h) (H : KC o (nL m) R ls tr h) (v : Int32) : fX1_lettersThatAre o v h = some (mskS (thoS R v) (nL m), h) := by
  obtain ⟨_, _, _, _, ⟨s1, s2, s3⟩, _⟩ := D
  unfold fX1_lettersThatAre
  rw [lt_q, lt_q, ← ok_eq]
  refine up0 (fun f i s => lX1_lettersThatAre_4 o f v s (nI i) h) (nL m) (by omega) (fun i s => s = mskS (thoS R v) i) 0 rfl ?_ ?_
  · intro f s hs
    simp only [lX1_lettersThatAre_4, bX1_lettersThatAre_4, e.i 108 9 rfl, s3, if_pos (nI_le (Nat.le_refl (nL m)) (show nL m < 2 ^ 31 by omega)), ok_some]
    rw [hs]
  · intro f l s hl hs K
    simp only [lX1_lettersThatAre_4, bX1_lettersThatAre_4, bX1_lettersThatAre_31, e.i 108 9 rfl, s3, if_neg (nI_ge hl (show nL m < 2 ^ 31 by omega)), ck_of (nI_inb (n := l) (N := 10) (by omega) (by decide)), nI_ix (show l < 2 ^ 31 by omega), H.st hl, lt_q, nI_1]
    by_cases c1 : R 0 l = v
    · rw [if_pos c1]; apply K; rw [mskS_s, hs]; unfold thoS; rw [if_pos (decide_eq_true c1)]
    · rw [if_neg c1]; apply K; rw [mskS_s, hs, if_neg (by unfold thoS; rw [decide_eq_true_iff]; exact c1)]
theorem M_lifeL {m h : Hp} {R : Run} {ls : List Nat} (H : KM (nL m) R ls h) : lX12_life_87 FU 0 0 h = some (sumS R 0 60, h) := by
  rw [← ok_eq]
  refine up0 (fun f i s => lX12_life_87 f s (nI i) h) 60 (by decide) (fun i s => s = sumS R 0 i) 0 rfl ?_ ?_
  · intro f s hs
    simp only [lX12_life_87, bX12_life_87, if_pos (show (60 : Int32) ≤ nI 60 by decide), ok_some]
    rw [hs]
  · intro f i s hi hs K
    simp only [lX12_life_87, bX12_life_87, if_neg (show ¬ (60 : Int32) ≤ nI i from nI_ge (b := 60) hi (by decide)), ck_of (nI_inb hi (by decide)), nI_ix (show i < 2 ^ 31 by omega), H.pa hi, lt_q, nI_1]
    apply K
    unfold sumS
    rw [forN_s, hs, Nat.zero_add]; rfl
theorem sim_life0 {S : Sem} {F : Nat} {c m : Hp} (a1 a2 a3 : Int32) (Q : QH S F c m) : SimQ c m (fX11_life a1 a2 a3 c) (fX12_life a1 a2 a3 m) := by
  obtain ⟨D, RF, XM', XC'⟩ := Q
  have D' := D
  obtain ⟨⟨d1, d2⟩, ⟨p1, p2, p3⟩, _⟩ := D'
  simp only [fX11_life, fX12_life, bX12_life_51, M_in, C_within, bi_q, bi_id, lt_q]
  cases h1 : rng a2 0 100
  · exact SimQ_no (-1)
  · cases h2 : rng a3 0 4
    · exact SimQ_no (-1)
    · obtain ⟨k, k4, rfl⟩ := rng_0 (n := 4) (by decide) h2
      simp only [b2_t, i10, ↓reduceIte]
      obtain ⟨c2, ec, H, a⟩ := C_livesBy D XC' .refl a1 a2
      obtain ⟨m2, em, ⟨ls, H2⟩, am⟩ := M_livesBy D XM' .refl a1 a2
      rw [ec, em, bv_q, bv_q]
      simp only [M_those D am H2, C_those D a H, M_lifeL H2, a.i 108 6 rfl, p3, am.i 0 18 rfl, d2, ck_of (nI_inb d1 (by decide)), nI_ix (show lv m < 2 ^ 31 by omega), am.i 11 _ rfl, p2, H2.de, H.de]
      have pf := C_paidFrom (a := 0) (b := 59) H (by decide) (by decide)
      rw [nI_0, n59, show 59 + 1 - 0 = 60 from rfl] at pf
      rw [pf]
      have hk : k = 0 ∨ k = 1 ∨ k = 2 ∨ k = 3 ∨ k = 4 := by omega
      generalize (lifS S m a1 a2 60).1 = R at *
      rcases hk with rfl | rfl | rfl | rfl | rfl
      · refine ⟨mskS (thoS R 1) (nL m), c2, m2, ?_, ?_, a, am⟩
        · rw [if_neg (show ¬ ((nI 0).toInt < 0 ∨ 3 < (nI 0).toInt) by decide), if_pos (show nI 0 = 0 from rfl)]
        · rw [if_neg (show ¬ (3 : Int32) ≤ nI 0 by decide), if_pos (show nI 0 = 0 from rfl)]
      · refine ⟨mskS (thoS R 4) (nL m), c2, m2, ?_, ?_, a, am⟩
        · rw [if_neg (show ¬ ((nI 1).toInt < 0 ∨ 3 < (nI 1).toInt) by decide), if_neg (show ¬ nI 1 = 0 by decide), if_pos (show nI 1 = 1 from rfl)]
        · rw [if_neg (show ¬ (3 : Int32) ≤ nI 1 by decide), if_neg (show ¬ nI 1 = 0 by decide), if_pos (show nI 1 = 1 from rfl)]
      · refine ⟨mskS (thoS R 5) (nL m), c2, m2, ?_, ?_, a, am⟩
        · rw [if_neg (show ¬ ((nI 2).toInt < 0 ∨ 3 < (nI 2).toInt) by decide), if_neg (show ¬ nI 2 = 0 by decide), if_neg (show ¬ nI 2 = 1 by decide), if_pos (show nI 2 = 2 from rfl)]
        · rw [if_neg (show ¬ (3 : Int32) ≤ nI 2 by decide), if_neg (show ¬ nI 2 = 0 by decide), if_neg (show ¬ nI 2 = 1 by decide)]
      · refine ⟨((1 : Int32) <<< (nI (nP m) &&& 31)) - 1 &&& (R 6 0 ^^^ (-1)), c2, m2, ?_, ?_, a, am⟩
        · rw [if_neg (show ¬ ((nI 3).toInt < 0 ∨ 3 < (nI 3).toInt) by decide), if_neg (show ¬ nI 3 = 0 by decide), if_neg (show ¬ nI 3 = 1 by decide), if_neg (show ¬ nI 3 = 2 by decide), if_pos (show nI 3 = 3 from rfl)]
        · rw [if_pos (show (3 : Int32) ≤ nI 3 by decide), if_pos (show nI 3 = 3 from rfl)]
      · refine ⟨sumS R 0 60, c2, m2, ?_, ?_, a, am⟩
        · rw [if_pos (show ((nI 4).toInt < 0 ∨ 3 < (nI 4).toInt) by decide)]
        · rw [if_pos (show (3 : Int32) ≤ nI 4 by decide), if_neg (show ¬ nI 4 = 3 by decide)]
theorem sim_chance0 {S : Sem} {F : Nat} {c m : Hp} (a1 a2 a3 a4 : Int32) (Q : QH S F c m) : SimQ c m (fX11_chance a1 a2 a3 a4 c) (fX12_chance a1 a2 a3 a4 m) := by
  obtain ⟨D, RF, XM', XC'⟩ := Q
  have s1 := D.2.2.2.2.1.1
  simp only [fX11_chance, fX12_chance, M_hasLetter D .refl, C_isLetter D .refl, M_in, C_within, bi_q, bi_id, lt_q]
  cases h1 : rng a1 0 (nI (nL m) - 1)
  · exact SimQ_no (-1)
  · cases h2 : rng a3 1 50
    · exact SimQ_no (-1)
    · cases h3 : rng a4 0 100
      · exact SimQ_no (-1)
      · obtain ⟨l, hl, rfl⟩ := (rng_n (by omega)).mp h1
        obtain ⟨k, k1, k50, rfl⟩ := (rng_c (a := 1) (n := 50) (by decide) (by decide)).mp h2
        simp only [b2_t, i10, ↓reduceIte]
        refine SimQ_of (forN k (fun i s => if (lifS S m (a2 + nI i) a4 60).1 0 l = 1 then s + 1 else s) 0) ?_ ?_
        · refine up0 (fun f i (s : Int32 × Hp) => lX11_chance_37 f (nI l) a2 (nI k) a4 s.1 (nI i) s.2) k (by omega) (fun i s => s.1 = forN i (fun i s => if (lifS S m (a2 + nI i) a4 60).1 0 l = 1 then s + 1 else s) 0 ∧ Agr SC c s.2) (0, c) ⟨rfl, .refl⟩ ?_ ?_
          · rintro f ⟨s, h⟩ ⟨hs, e⟩
            simp only [lX11_chance_37, bX11_chance_37, if_pos (nI_le (Nat.le_refl k) (show k < 2 ^ 31 by omega)), ok_some]
            exact ⟨hs, e⟩
          · rintro f i ⟨s, h⟩ hi ⟨hs, e⟩ K
            simp only at hs e
            simp only [lX11_chance_37, bX11_chance_37, bX11_chance_68, if_neg (nI_ge hi (show k < 2 ^ 31 by omega)), ok_bv, lt_q, nI_1]
            refine (C_livesBy D XC' e (a2 + nI i) a4).mono ?_
            rintro h2 ⟨H2, e2⟩
            have q : h2.1 191 l = (lifS S m (a2 + nI i) a4 60).1 0 l := H2.st hl
            simp only [ck_of (nI_inb (n := l) (N := 10) (by omega) (by decide)), nI_ix (show l < 2 ^ 31 by omega), q]
            by_cases c1 : (lifS S m (a2 + nI i) a4 60).1 0 l = 1
            · rw [if_pos c1]
              refine K (s + 1, h2) ⟨?_, e2⟩
              rw [forN_s, if_pos c1, ← hs]
            · rw [if_neg c1]
              refine K (s, h2) ⟨?_, e2⟩
              rw [forN_s, if_neg c1, ← hs]
        · refine up0 (fun f i (s : Int32 × Hp) => lX12_chance_37 f (nI l) a2 (nI k) a4 s.1 (nI i) s.2) k (by omega) (fun i s => s.1 = forN i (fun i s => if (lifS S m (a2 + nI i) a4 60).1 0 l = 1 then s + 1 else s) 0 ∧ Agr SM m s.2) (0, m) ⟨rfl, .refl⟩ ?_ ?_
          · rintro f ⟨s, h⟩ ⟨hs, e⟩
            simp only [lX12_chance_37, bX12_chance_37, if_pos (nI_le (Nat.le_refl k) (show k < 2 ^ 31 by omega)), ok_some]
            exact ⟨hs, e⟩
          · rintro f i ⟨s, h⟩ hi ⟨hs, e⟩ K
            simp only at hs e
            simp only [lX12_chance_37, bX12_chance_37, bX12_chance_66, if_neg (nI_ge hi (show k < 2 ^ 31 by omega)), ok_bv, lt_q, nI_1]
            refine (M_livesBy D XM' e (a2 + nI i) a4).mono ?_
            rintro h2 ⟨⟨ls, H2⟩, e2⟩
            simp only [ck_of (nI_inb (n := l) (N := 10) (by omega) (by decide)), nI_ix (show l < 2 ^ 31 by omega), H2.st hl]
            by_cases c1 : (lifS S m (a2 + nI i) a4 60).1 0 l = 1
            · rw [if_pos c1]
              refine K (s + 1, h2) ⟨?_, e2⟩
              rw [forN_s, if_pos c1, ← hs]
            · rw [if_neg c1]
              refine K (s, h2) ⟨?_, e2⟩
              rw [forN_s, if_neg c1, ← hs]
