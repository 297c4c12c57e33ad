theorem run_cg {S : Sem} {m : Hp} {n : Nat} {tr : Bool} {q q' : Nat → Bool} : ∀ Y, (∀ y, y < Y → q y = q' y) → runS S m n tr q Y = runS S m n tr q' Y := by
  intro Y
  induction Y with
  | zero => intro _; rw [runS, runS]
  | succ Y ih =>
    intro h
    have e := ih (fun y hy => h y (by omega))
    have ey : yrR S m n tr q Y = yrR S m n tr q' Y := by
      funext R; unfold yrR; rw [h Y (by omega)]
    rw [runS, runS, e, ey]
def q0 (_ : Nat) : Bool := false
def P0 (S : Sem) (m : Hp) (n a : Nat) : Run := payS S m a (facS S m n false a (runS S m n false q0 a).1)
theorem run_q0 {S : Sem} {m : Hp} {n a : Nat} : runS S m n false q0 (a + 1) = (P0 S m n a, (runS S m n false q0 a).2) := by
  rw [runS]
  unfold yrR P0
  rw [if_neg (show ¬ q0 a = true by unfold q0; decide)]
  simp only [List.append_nil]
theorem run_q0l {S : Sem} {m : Hp} {n : Nat} : ∀ a, (runS S m n false q0 a).2 = []
  | 0 => by rw [runS]
  | a + 1 => by rw [run_q0]; exact run_q0l a
theorem run_qaa {S : Sem} {m : Hp} {n a : Nat} : runS S m n false (qa a) (a + 1) = lookS S m a 10 (P0 S m n a) := by
  have e : runS S m n false (qa a) a = runS S m n false q0 a := run_cg a fun y hy => by unfold qa q0; rw [decide_eq_false (by omega)]
  rw [runS, e]
  unfold yrR
  rw [if_pos (show qa a a = true by unfold qa; rw [decide_eq_true rfl]), run_q0l, List.nil_append]
  rfl
theorem C_seek {S : Sem} {F n : Nat} {c m : Hp} (Q : QH S F c m) (hn : n ≤ F) : Ok (fX2_seekTwoLooks (nI n) c) (fun h' => Agr SC c h' ∧ ∃ x y, LK h' (forN 59 (fun a s => inB (gnB S m n (runS S m n false (qk 1) 60).1) a (59 - a) s) (-1, x, y))) := by
  have Q' := Q
  obtain ⟨D, RF, XM', XC'⟩ := Q'
  have s1 := D.2.2.2.2.1.1
  have ho : isC 190 := .inr (.inl rfl)
  have hu : isC 198 := .inr (.inr rfl)
  have hy' : isC 182 := .inl rfl
  unfold fX2_seekTwoLooks
  refine C_walk1 Q .refl hn ?_
  intro h1 H1 ar e1
  generalize (runS S m n false (qk 1) 60).1 = R1 at *
  generalize (runS S m n false (qk 1) 60).2 = l1 at *
  have b := C_begin (tr := false) D hu e1
  rw [b2_f] at b
  rw [ok_bv]
  refine b.mono ?_
  rintro h2 ⟨H2, f2⟩
  simp only [lt_q]
  have e2 := e1.trans (f2.agr hu)
  have ar2 := ARR_cf ar hu f2
  have H12 := KC_cf H1 hy' hu (by decide) f2
  refine up0 (fun f i h => lX2_seekTwoLooks_34 f (nI i) h) 59 (by decide) (fun a h' => KC 198 (nL m) (runS S m n false q0 a).1 [] false h' ∧ KC 182 (nL m) R1 l1 false h' ∧ ARR m n h' ∧ Agr SC c h' ∧ LK h' (forN a (fun a s => inB (gnB S m n R1) a (59 - a) s) (-1, h2.1 181 6, h2.1 181 7))) (wI h2 181 8 (-1)) ⟨?_, KC_w H12 hy' (by decide), ⟨fun y hy => by rw [wI_k (by decide)]; exact ar2.1 y hy, fun j hj hc => by rw [wI_k (by decide)]; exact ar2.2 j hj hc⟩, e2.wI rfl, wI_s, wI_j (by decide), wI_j (by decide)⟩ ?_ ?_
  · rw [runS]; exact KC_w H2 hu (by decide)
  · rintro f h3 ⟨_, _, _, e3, L3⟩
    rw [lX2_seekTwoLooks_34]
    simp only [bX2_seekTwoLooks_34, if_pos (show (59 : Int32) ≤ nI 59 by decide), ok_some]
    exact ⟨e3, _, _, L3⟩
  · rintro f a h3 ha ⟨H3, H13, ar3, e3, L3⟩ K
    have iv0 := inv_run (S := S) (m := m) (n := n) (tr := false) (q := q0) a
    have ivP := inv_stp iv0 ((stp_fac (S := S) (m := m) (n := n) (y := a) (tr := false)).trans (stp_pay (S := S) (m := m) (y := a)))
    rw [run_q0l] at ivP
    change inv m a (P0 S m n a) [] at ivP
    have lk : ∀ (o : Nat), isC o → ∀ (h h' : Hp), CF o h h' → ∀ s, LK h s → LK h' s := fun o hio h h' a s L => by
      have := isC_ge hio
      exact ⟨(a 181 8 (by omega) rfl).1.trans L.1, (a 181 6 (by omega) rfl).1.trans L.2.1, (a 181 7 (by omega) rfl).1.trans L.2.2⟩
    rw [lX2_seekTwoLooks_34]
    simp only [bX2_seekTwoLooks_34, if_neg (show ¬ (59 : Int32) ≤ nI a from nI_ge (b := 59) ha (by decide)), ok_bv, lt_q, nI_1]
    refine (C_takeFacts D XC' RF hn hu e3 ar3 H3 (show a < 60 by omega)).mono ?_
    rintro h4 ⟨J4, f4⟩
    have e4 := e3.trans (f4.agr hu)
    refine (C_pays D XC' hu e4 J4 (show a < 60 by omega)).mono ?_
    rintro h5 ⟨J5, f5⟩
    change KC 198 (nL m) (P0 S m n a) [] false h5 at J5
    have f35 := f4.trans f5
    have e5 := e3.trans (f35.agr hu)
    refine (C_becomeC s1 (by simp) J5).mono ?_
    rintro h6 ⟨J6, f6⟩
    have e6 := e5.trans (f6.agr ho)
    refine (C_lookUp D XC' ho (show a < 60 by omega) e6 J6 (by have := ivP.1; omega)).mono ?_
    rintro h7 ⟨J7, f7⟩
    rw [List.nil_append, ← run_qaa] at J7
    have f67 := f6.trans f7
    have e7 := e5.trans (f67.agr ho)
    have H17 := KC_cf (KC_cf H13 hy' hu (by decide) f35) hy' ho (by decide) f67
    have H37 := KC_cf J5 hu ho (by decide) f67
    have ar7 := ARR_cf (ARR_cf ar3 hu f35) ho f67
    have L7 := lk 190 ho _ _ f67 _ (lk 198 hu _ _ f35 _ L3)
    refine (C_second Q hn ha e7 ar7 H17 H37 J7 L7).mono ?_
    rintro h8 ⟨L8, H18, H38, ar8, e8⟩
    refine K h8 ⟨?_, H18, ar8, e8, ?_⟩
    · rw [run_q0]; exact H38
    · rw [forN_s]; exact L8
/-- the model's gains with two looks are the same -/
def qab (a b y : Nat) : Bool := decide (y = a) || decide (y = b)
theorem run_keep {S : Sem} {m : Hp} {n y l : Nat} {tr : Bool} {q : Nat → Bool} (h : ¬ (runS S m n tr q y).1 0 l = 0) : ∀ d, (runS S m n tr q (y + d)).1 0 l = (runS S m n tr q y).1 0 l ∧ (runS S m n tr q (y + d)).1 1 l = (runS S m n tr q y).1 1 l := by
  intro d
  induction d with
  | zero => exact ⟨rfl, rfl⟩
  | succ d ih =>
    rw [← Nat.add_assoc, runS]
    have := yr_keep (S := S) (m := m) (n := n) (y := y + d) (tr := tr) (q := q) (R := (runS S m n tr q (y + d)).1) (l := l) (by rw [ih.1]; exact h)
    exact ⟨this.1.trans ih.1, this.2.trans ih.2⟩
theorem lsum_app {g : Nat → Int32} : ∀ a b, lsum g (a ++ b) = lsum g a + lsum g b
  | [], b => by rw [List.nil_append, lsum, Int32.zero_add]
  | x :: a, b => by rw [List.cons_append, lsum, lsum, lsum_app a b, Int32.add_assoc]
theorem lsum_cg {g g' : Nat → Int32} : ∀ a, (∀ l, l ∈ a → g l = g' l) → lsum g a = lsum g' a
  | [], _ => rfl
  | x :: a, h => by rw [lsum, lsum, h x List.mem_cons_self, lsum_cg a fun l hl => h l (List.mem_cons_of_mem _ hl)]
theorem gn_eq {S : Sem} {m : Hp} {n a b : Nat} {R1 : Run} (hab : a < b) : forN (nL m) (fun l s => if (runS S m n false (qab a b) (b + 1)).1 0 l = 1 then s + gaS S R1 (runS S m n false (qab a b) (b + 1)).1 l else s) 0 = gnB S m n R1 a b := by
  have iv := inv_run (S := S) (m := m) (n := n) (tr := false) (q := qab a b) (b + 1)
  have e1 : runS S m n false (qab a b) b = runS S m n false (qa a) b := run_cg b fun y hy => by unfold qab qa; rw [decide_eq_false (show ¬ y = b by omega), Bool.or_false]
  have ea : runS S m n false (qab a b) (a + 1) = runS S m n false (qa a) (a + 1) := run_cg (a + 1) fun y hy => by unfold qab qa; rw [decide_eq_false (show ¬ y = b by omega), Bool.or_false]
  have hls : (runS S m n false (qa a) b).2 = (runS S m n false (qa a) (a + 1)).2 := by
    have := run_ls (S := S) (m := m) (n := n) (a := a) (b - (a + 1))
    rwa [show a + 1 + (b - (a + 1)) = b by omega] at this
  have eb : runS S m n false (qab a b) (b + 1) = ((lookS S m b 10 (Pab S m n a b)).1, (runS S m n false (qa a) (a + 1)).2 ++ (lookS S m b 10 (Pab S m n a b)).2) := by
    rw [runS, e1]
    unfold yrR
    rw [if_pos (show qab a b b = true by unfold qab; rw [decide_eq_true (show b = b from rfl), Bool.or_true]), hls]
    rfl
  have kp : ∀ l, l ∈ (runS S m n false (qa a) (a + 1)).2 → gaS S R1 (lookS S m b 10 (Pab S m n a b)).1 l = gaS S R1 (runS S m n false (qa a) (a + 1)).1 l := fun l hl => by
    have iva := inv_run (S := S) (m := m) (n := n) (tr := false) (q := qa a) (a + 1)
    have h1 := (iva.2.1 l hl).2.1
    have k := run_keep (S := S) (m := m) (n := n) (tr := false) (q := qab a b) (y := a + 1) (l := l) (by rw [ea, h1]; decide) (b - a)
    rw [show a + 1 + (b - a) = b + 1 by omega, eb, ea] at k
    unfold gaS latS
    rw [k.1, k.2]
  rw [← lsum_for iv.2.2.1 fun l => ⟨fun hl => ⟨(iv.2.1 l hl).1, (iv.2.1 l hl).2.1⟩, fun hl => iv.2.2.2.1 l hl.1 hl.2⟩, eb, lsum_app, lsum_cg _ kp]
  rfl
theorem M_looks {S : Sem} {F n : Nat} {c m h : Hp} {R1 : Run} (Q : QH S F c m) (hn : n ≤ F) (e : Agr SM m h) (Y : YM (nL m) R1 h) (w : Int32) : Ok (lX12_looks_39 FU (nI n) w (-1) 0 0 0 h) (fun p => Agr SM m p.2 ∧ p.1 = (if w = 0 then (forN 59 (fun a s => inB (gnB S m n R1) a (59 - a) s) (-1, 0, 0)).2.1 else if w = 1 then (forN 59 (fun a s => inB (gnB S m n R1) a (59 - a) s) (-1, 0, 0)).2.2 else (forN 59 (fun a s => inB (gnB S m n R1) a (59 - a) s) (-1, 0, 0)).1)) := by
  have Q' := Q
  obtain ⟨D, RF, XM', XC'⟩ := Q'
  refine up0 (fun f i (s : (Int32 × Int32 × Int32) × Hp) => lX12_looks_39 f (nI n) w s.1.1 s.1.2.1 s.1.2.2 (nI i) s.2) 59 (by decide) (fun a s => s.1 = forN a (fun a s => inB (gnB S m n R1) a (59 - a) s) (-1, 0, 0) ∧ Agr SM m s.2 ∧ YM (nL m) R1 s.2) ((-1, 0, 0), h) ⟨rfl, e, Y⟩ ?_ ?_
  · rintro f ⟨⟨x, y, z⟩, h1⟩ ⟨hs, e1, _⟩
    simp only at hs e1
    rw [lX12_looks_39]
    simp only [bX12_looks_39, if_pos (show (59 : Int32) ≤ nI 59 by decide)]
    rw [← hs]
    by_cases w0 : w = 0
    · rw [if_pos w0, if_pos w0, ok_some]; exact ⟨e1, rfl⟩
    · rw [if_neg w0, if_neg w0]
      by_cases w1 : w = 1
      · rw [if_pos w1, if_pos w1, ok_some]; exact ⟨e1, rfl⟩
      · rw [if_neg w1, if_neg w1, ok_some]; exact ⟨e1, rfl⟩
  · rintro f a ⟨s, h1⟩ ha ⟨hs, e1, Y1⟩ K
    simp only at hs e1 Y1
    rw [lX12_looks_39]
    simp only [bX12_looks_39, if_neg (show ¬ (59 : Int32) ≤ nI a from nI_ge (b := 59) ha (by decide)), lt_q, nI_1]
    refine upto (fun g i (s : (Int32 × Int32 × Int32) × Hp) => lX12_looks_52 (lX12_looks_39 f) g (nI n) w s.1.1 s.1.2.1 s.1.2.2 (nI a) (nI i) s.2) 60 (fun b t => a + 1 ≤ b ∧ t.1 = inB (gnB S m n R1) a (b - (a + 1)) s ∧ Agr SM m t.2 ∧ YM (nL m) R1 t.2) ?_ ?_ (60 - (a + 1)) (a + 1) (s, h1) FU rfl (by omega) (show _ < 20000 by omega) ⟨Nat.le_refl _, by rw [Nat.sub_self]; rfl, e1, Y1⟩
    · rintro g ⟨⟨x, y, z⟩, h2⟩ ⟨_, ht, e2, Y2⟩
      simp only at ht e2 Y2
      rw [lX12_looks_52]
      simp only [bX12_looks_52, if_pos (show (60 : Int32) ≤ nI 60 by decide), lt_q, nI_1]
      refine K ((x, y, z), h2) ⟨?_, e2, Y2⟩
      rw [forN_s, ← hs]
      show (x, y, z) = _
      rw [ht, show 60 - (a + 1) = 59 - a by omega]
    · rintro g b ⟨⟨x, y, z⟩, h2⟩ hb ⟨hab, ht, e2, Y2⟩ K2
      simp only at ht e2 Y2
      have hq : lkq 0 (nI a) (nI b) (qab a b) := .inl ⟨rfl, fun y hy => by
        unfold qab
        rw [decide_eq_decide.mpr (nI_eq (a := y) (b := a) (by omega) (by omega)).symm, decide_eq_decide.mpr (nI_eq (a := y) (b := b) (by omega) (by omega)).symm]⟩
      have rr := M_runs (tr := false) (la := b) D XM' RF hn hq e2 hb
      rw [b2_f] at rr
      rw [lX12_looks_52]
      simp only [bX12_looks_52, bX12_looks_98, if_neg (show ¬ (60 : Int32) ≤ nI b from nI_ge (b := 60) hb (by decide)), ok_bv, lt_q, nI_1]
      refine rr.mono ?_
      rintro h3 ⟨H3, a3⟩
      have e3 : Agr SM m h3 := e2.trans (a3.sub rfl)
      have Y3 : YM (nL m) R1 h3 := fun l hl => by rw [a3.i 52 l rfl, a3.i 53 l rfl]; exact Y2 l hl
      have iv := inv_run (S := S) (m := m) (n := n) (tr := false) (q := qab a b) (b + 1)
      rw [ok_bi]
      refine (M_gains (R1 := R1) D XM' e3 H3 Y3 fun l hl h1 => by obtain ⟨t, t1, t2⟩ := (iv.2.1 l (iv.2.2.2.1 l hl h1)).2.2; exact ⟨t, by omega, t2⟩).mono ?_
      rintro ⟨v, h4⟩ ⟨hv, a4⟩
      simp only at hv a4
      rw [gn_eq (show a < b by omega)] at hv
      have e4 : Agr SM m h4 := e3.trans (a4.sub rfl)
      have Y4 : YM (nL m) R1 h4 := fun l hl => by rw [a4.i 52 l rfl, a4.i 53 l rfl]; exact Y3 l hl
      have st : inB (gnB S m n R1) a (b + 1 - (a + 1)) s = stB (gnB S m n R1) a b (x, y, z) := by
        rw [show b + 1 - (a + 1) = b - (a + 1) + 1 by omega, ht]
        unfold inB
        rw [forN_s, show a + 1 + (b - (a + 1)) = b by omega]
      by_cases cg : x < v
      · rw [if_pos cg]
        refine K2 ((v, nI a, nI b), h4) ⟨by omega, ?_, e4, Y4⟩
        rw [st]; unfold stB
        rw [if_pos (by rw [← hv]; exact cg), ← hv]
      · rw [if_neg cg]
        refine K2 ((x, y, z), h4) ⟨by omega, ?_, e4, Y4⟩
        rw [st]; unfold stB
        rw [if_neg (by rw [← hv]; exact cg)]
/-- goods are never less than 0 -/
def GB (S : Sem) : Prop := ∀ l y t, ∃ v, v ≤ 999 ∧ S.2.2.2 l y t = nI v
theorem lsum_b {S : Sem} {R1 R2 : Run} (g : GB S) : ∀ ls : List Nat, ∃ v, v ≤ 999 * ls.length ∧ lsum (gaS S R1 R2) ls = nI v
  | [] => ⟨0, by simp, rfl⟩
  | l :: ls => by
    obtain ⟨v, hv, e⟩ := lsum_b g ls
    obtain ⟨u, hu, e2⟩ := g l (ix (R2 1 l)) (latS R1 R2 l)
    refine ⟨u + v, by rw [List.length_cons]; omega, ?_⟩
    rw [lsum, e]
    unfold gaS
    rw [e2, nI_add]
theorem forN_1 {σ : Type} {f : Nat → σ → σ} {s s' : σ} (h : f 0 s = f 0 s') : ∀ n, forN (n + 1) f s = forN (n + 1) f s'
  | 0 => h
  | n + 1 => by rw [forN_s (n := n + 1) (s := s), forN_s (n := n + 1) (s := s'), forN_1 h n]
theorem sim_looks0 {S : Sem} {F : Nat} {c m : Hp} (a1 a2 : Int32) (g : GB S) (Q : QH S F c m) : SimQ c m (fX11_looks a1 a2 c) (fX12_looks a1 a2 m) := by
  obtain ⟨D, RF, XM', XC'⟩ := Q
  have Q : QH S F c m := ⟨D, RF, XM', XC'⟩
  have s1 := D.2.2.2.2.1.1
  have h60 := RF.1
  simp only [fX11_looks, fX12_looks, M_isKnown RF .refl, C_isKnown RF .refl, M_in, C_within, bi_q, lt_q]
  cases h2 : rng a1 0 (nI F)
  · exact SimQ_no (-1)
  · cases h3 : rng a2 0 2
    · exact SimQ_no (-1)
    · obtain ⟨n, hn, rfl⟩ := rng_0 (by omega) h2
      simp only [b2_t, i10, ↓reduceIte]
      generalize hR : (runS S m n false (qk 1) 60).1 = R1
      have pos : (-1 : Int32) < gnB S m n R1 0 1 := by
        have iva := inv_run (S := S) (m := m) (n := n) (tr := false) (q := qa 0) (0 + 1)
        obtain ⟨v, hv, e1⟩ := lsum_b (R1 := R1) (R2 := (runS S m n false (qa 0) (0 + 1)).1) g (runS S m n false (qa 0) (0 + 1)).2
        obtain ⟨u, hu, e2⟩ := lsum_b (R1 := R1) (R2 := (lookS S m 1 10 (Pab S m n 0 1)).1) g (lookS S m 1 10 (Pab S m n 0 1)).2
        have l2 := (look_p (S := S) (m := m) (y := 1) 10 (Pab S m n 0 1)).2.2.2
        have k2 := kpt_le (N := nL m) (R := Pab S m n 0 1)
        have l1 := iva.1
        have b1 : v ≤ 999 * 10 := Nat.le_trans hv (Nat.mul_le_mul_left _ (by omega))
        have b2' : u ≤ 999 * 10 := Nat.le_trans hu (Nat.mul_le_mul_left _ (by omega))
        unfold gnB gnA
        rw [e1, e2, nI_add]
        exact Int32.lt_of_lt_of_le (by decide : (-1 : Int32) < 0) (nI_pos' (by omega))
      have same : ∀ x y, forN 59 (fun a s => inB (gnB S m n R1) a (59 - a) s) (-1, x, y) = forN 59 (fun a s => inB (gnB S m n R1) a (59 - a) s) (-1, 0, 0) := fun x y => by
        refine forN_1 ?_ 58
        show inB (gnB S m n R1) 0 59 (-1, x, y) = inB (gnB S m n R1) 0 59 (-1, 0, 0)
        unfold inB
        refine forN_1 ?_ 58
        show stB (gnB S m n R1) 0 1 (-1, x, y) = stB (gnB S m n R1) 0 1 (-1, 0, 0)
        unfold stB
        rw [if_pos pos, if_pos pos]
      have cs := C_seek Q hn
      rw [hR] at cs
      generalize hf : forN 59 (fun a s => inB (gnB S m n R1) a (59 - a) s) (-1, 0, 0) = fin at *
      refine SimQ_of (if a2 = 0 then fin.2.1 else if a2 = 1 then fin.2.2 else fin.1) ?_ ?_
      · rw [ok_bv]
        refine cs.mono ?_
        rintro h' ⟨e', x, y, L⟩
        rw [same x y] at L
        by_cases w0 : a2 = 0
        · rw [if_pos w0, if_pos w0, ok_some]; exact ⟨L.2.1, e'⟩
        · rw [if_neg w0, if_neg w0]
          by_cases w1 : a2 = 1
          · rw [if_pos w1, if_pos w1, ok_some]; exact ⟨L.2.2, e'⟩
          · rw [if_neg w1, if_neg w1, ok_some]; exact ⟨L.1, e'⟩
      · rw [ok_bv]
        refine (M_runsAll Q .refl hn).mono ?_
        rintro m1 ⟨H1, e1⟩
        rw [hR] at H1
        rw [ok_bv]
        refine (M_keeps s1 H1).mono ?_
        rintro m2 ⟨Y2, b2'⟩
        refine (M_looks Q hn (e1.trans (b2'.sub rfl)) Y2 a2).mono ?_
        rintro p ⟨e3, hp⟩
        rw [hf] at hp
        exact ⟨hp, e3⟩
