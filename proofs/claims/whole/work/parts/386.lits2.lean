/-- literals: records -/
def rec4 (h : Hp) (L : Nat) (s a b v : Int32) : Hp := wI (wI (wI (wI (wI h 29 L s) 30 L a) 31 L b) 32 L v) 0 42 (nI (L + 1))
theorem M_rec4 {h : Hp} {L : Nat} (hL : h.1 0 42 = nI L) (h3 : L < 300) (o tn : Bool) (x4 x5 : Int32) : bX12_literal_106 (b2 o) (b2 tn) 1 x4 x5 h = some (rec4 h L 4 (b2 tn) (b2 o) x5) ∧ bX12_literal_106 (b2 o) (b2 tn) 0 x4 x5 h = some (rec4 h L 5 (b2 tn) (b2 o) x4) := by
  unfold rec4
  constructor
  · simp only [bX12_literal_106, bX12_literal_123, bX12_literal_163, hL, i10, ↓reduceIte, ck_of (nI_inb h3 (by decide)), nI_ix (show L < 2 ^ 31 by omega), lt_q, nar_b, wI_k (show (0 : Nat) ≠ 29 by decide), wI_k (show (0 : Nat) ≠ 30 by decide), wI_k (show (0 : Nat) ≠ 31 by decide), wI_k (show (0 : Nat) ≠ 32 by decide), nI_1]
  · simp only [bX12_literal_106, bX12_literal_123, bX12_literal_163, hL, ↓reduceIte, ck_of (nI_inb h3 (by decide)), nI_ix (show L < 2 ^ 31 by omega), lt_q, nar_b, wI_k (show (0 : Nat) ≠ 29 by decide), wI_k (show (0 : Nat) ≠ 30 by decide), wI_k (show (0 : Nat) ≠ 31 by decide), wI_k (show (0 : Nat) ≠ 32 by decide), nI_1]
def W4 : Ws := [(29, none), (30, none), (31, none), (32, none), (0, some 42)]
theorem rec4_a {h : Hp} {L : Nat} {s a b v : Int32} : Agr W4 h (rec4 h L s a b v) := ((((Agr.refl.wI rfl).wI rfl).wI rfl).wI rfl).wI rfl
theorem rec4_m {h : Hp} {sd ln : Nat} {s a b v : Int32} (hl : ln < 150) : AgrM sd h (rec4 h (150 * sd + ln) s a b v) := ((((AgrM.refl.wI (pw_150 rfl hl)).wI (pw_150 rfl hl)).wI (pw_150 rfl hl)).wI (pw_150 rfl hl)).wI (pw_0 rfl)
theorem rec4_v {h : Hp} {L : Nat} {s a b v : Int32} : (rec4 h L s a b v).1 29 L = s ∧ (rec4 h L s a b v).1 30 L = a ∧ (rec4 h L s a b v).1 31 L = b ∧ (rec4 h L s a b v).1 32 L = v ∧ (rec4 h L s a b v).1 0 42 = nI (L + 1) := by
  unfold rec4
  simp [wI]
theorem rec4_f {h : Hp} {sd cd ln : Nat} {s a b v : Int32} : frM sd cd ln h (rec4 h (150 * sd + ln) s a b v) := ⟨rec4_a.sub rfl, fun j _ => ⟨rec4_a.i 35 j rfl, rec4_a.i 36 j rfl⟩, fun i hi => by
  have : i ≠ 150 * sd + ln := by omega
  unfold rec4
  simp [wI, this]⟩
theorem lit_fin {c0 m0 c m : Hp} {K sd t cs cd ln : Nat} {kd : Nat → Nat} {x : Lit} (P : PB c0 m0 K kd sd t c m) (hs : c.1 125 11 = nI (cs + (rawW x).length)) (hw : cwG c cs (rawW x)) (h4 : cs + (rawW x).length + (if x.1.2.1 = true then 1 else 0) ≤ 400) : ∃ c1, bX5_literal_195 (b2 x.1.2.1) c = some (1, c1) ∧ PB c0 m0 K kd sd t c1 m ∧ c1.1 125 11 = nI (cs + (litW x).length) ∧ cwG c1 cs (litW x) ∧ frC cs c c1 ∧ c1.1 142 8 = c.1 142 8 := by
  unfold bX5_literal_195 litW
  cases hx : x.1.2.1
  · rw [if_pos (show b2 false = 0 from rfl), ck_of zb_1, if_neg (by decide), List.append_nil]
    exact ⟨c, rfl, P, hs, hw, .refl, rfl⟩
  · rw [hx, if_pos rfl] at h4
    obtain ⟨c1, e1, e2, e3, e4, e5⟩ := C_emit (o := 27) (v := 0) hs (by omega) (by decide)
    rw [if_neg (show ¬ b2 true = 0 by decide), if_pos rfl, show (27 : Int32) = nI 27 from rfl, show (0 : Int32) = nI 0 from rfl, e1, bv_q, ck_of zb_1]
    refine ⟨c1, rfl, PB_w P e2 rfl rfl .refl ⟨rfl, rfl, rfl, rfl⟩, ?_, cwG_app (cwG_w hw e4) e5, ⟨e2.sub rfl, fun j hj => e4 j (by omega)⟩, e2.i 142 8 rfl⟩
    rw [e3, List.length_append]; rfl
theorem NmR_f {np nc nl cs sd cd ln : Nat} {c m c1 m1 : Hp} (H : NmR np nc nl c m) (fc : frC cs c c1) (fm : frM sd cd ln m m1) : NmR np nc nl c1 m1 := NmR_w H (fun s i hs _ => by
  match s, hs with
  | 0, _ => exact fc.1.l 143 i rfl
  | 1, _ => exact fc.1.l 144 i rfl
  | 2, _ => exact fc.1.l 145 i rfl) ⟨fm.1.i 0 20 rfl, fun k => fm.1.i 9 k rfl, fun k => fm.1.i 10 k rfl, fun k => fm.1.l 8 k rfl⟩
theorem sgn : ∀ a, a < 34 → (9 ≤ a ∧ a ≤ 12 → nI (kM a) - 11 = nI (a - 9)) ∧ (¬ (9 ≤ a ∧ a ≤ 12) → nI (kM a) - 11 < 0 ∨ ¬ nI (kM a) - 11 ≤ 3) := by decide +kernel
/-- a literal behind its nots -/
theorem lit_47 {c0 m0 c m cS mS : Hp} {K sd t t0 cs cd ln sl np nc nl g : Nat} {kd pl : Nat → Nat} {tn o : Bool} (X : CTX c0 m0 K kd pl sd) (L : LSt c0 m0 K kd sd t cs cd ln c m) (hc : cs + sl + (if tn = true then 1 else 0) + 1 ≤ t) (hl : 3 * ln + 1 ≤ t) (N : NmR np nc nl c m) (h24 : np + nc + nl ≤ 24) (hnp : np ≤ 10) (q6 : c.1 125 6 = nI np) (ht : t0 ≤ t) (fc : frC cs cS c) (fm : frM sd cd ln mS m) (z0 : c.1 142 8 = 0 → cS.1 142 8 = 0) (k27 : ¬ kd t = 27) {r2 : Int32 → Int32 → Hp → Option Hp} :
    R2 c0 m0 sd (bX5_literal_47 (b2 tn) c) (bX12_literal_2 r2 (b2 o) (b2 tn) m) (litOk c0 m0 K kd sd t0 cs cd ln sl np o cS mS) := by
  have L' := L
  obtain ⟨P, L2, L3, L4, L5, L6⟩ := L'
  have t4 : t < 401 := by have := P.2.2.1; have := X.1.2.1; omega
  have s2 := X.2.2
  have r := tk_row X P P.2.2.1
  have k34 : kd t < 34 := by have := r.1; omega
  have ln1 : ln < 150 := by omega
  have tb : (if tn = true then 1 else 0) ≤ 1 := by split <;> omega
  unfold bX5_literal_47 bX12_literal_2
  rw [show fX12_is 31 m = fX12_is (nI (kM 27)) m from rfl, M_is X P (by decide), decide_eq_false k27, bi_q, if_pos (show b2 false = 0 from rfl), show fX12_is 32 m = fX12_is (nI (kM 28)) m from rfl, M_is X P (by decide), bi_q, P.2.2.2.2.1]
  by_cases k28 : kd t = 28
  · -- somebody is dead
    rw [decide_eq_true k28, if_neg (show ¬ b2 true = 0 by decide), if_pos (show nI (kd t) = (28 : Int32) by rw [k28]; rfl)]
    unfold bX12_literal_46
    rw [show fX12_is 32 m = fX12_is (nI (kM 28)) m from rfl, M_is X P (by decide), bi_q, lt_q, decide_eq_true k28]
    obtain ⟨v, c1, m1, e1, e2, h⟩ := tk_goes2 X P k28 (by decide)
    rw [show (28 : Int32) = nI 28 from rfl, e1, e2, bi_q, bv_q, lt_q]
    rcases h with ⟨rfl, b1, b2', b3, b4⟩ | ⟨rfl, ⟨f, p, g1, g2, g3, g4, g5⟩, b2'⟩
    · have N1 : NmR np nc nl c1 m1 := NmR_f (cs := cs) (sd := sd) (cd := cd) (ln := ln) N (frC_a b3 rfl rfl) (frM_a b4 rfl rfl)
      obtain ⟨v, c2, e3, hv⟩ := tk_told2 (s := 0) (n := 10) X b2' N1 (by decide) hnp (by decide) (by decide) h24 (fun w h => bX12_literal_106 (b2 o) (b2 tn) 1 (nI (t + 1)) w h) (fun h => some h)
      have e3' : fX5_takeTold 143 10 (nI np) c1 = some (v, c2) := e3
      rw [if_neg (by decide), b3.i 125 6 rfl, q6, e3', bi_q, b2'.2.2.2.2.2.1]
      unfold bX5_literal_84
      have mq : (bv (fX12_must 1 m1) (fun h6 => if h6.1 0 13 ≤ 0 then (if b2 true = 0 then bX12_literal_91 (b2 o) (b2 tn) (b2 true) (nI (t + 1)) 0 h6 else bi (fX12_find (nI (t + 1)) 0 h6) (fun w8 h7 => bX12_literal_91 (b2 o) (b2 tn) (b2 true) (nI (t + 1)) w8 h7)) else some h6)) = bv (fX12_must 1 m1) (fun h2 => if h2.1 0 13 ≤ 0 then bi (fX12_find (nI (t + 1)) (nI 0) h2) (fun w4 h3 => if w4 = -1 then bv (fX12_amiss 4 (nI (t + 1)) h3) (fun h6 => bX12_literal_106 (b2 o) (b2 tn) 1 (nI (t + 1)) w4 h6) else bX12_literal_106 (b2 o) (b2 tn) 1 (nI (t + 1)) w4 h3) else some h2) := rfl
      rw [mq]
      rcases hv with ⟨v0, x, m2, e4, d1, d2, d3, d4, ⟨i, i10', rfl⟩, d6⟩ | ⟨rfl, m2, e4, f, p, g1, g2, g3, g4, g5⟩
      · have hs2 : c2.1 125 11 = nI cs := by rw [d3.i 125 11 rfl, b3.i 125 11 rfl]; exact L3
        have hl2 : m2.1 0 42 = nI (150 * sd + ln) := by rw [d4.i 0 42 rfl, b4.i 0 42 rfl]; exact L5
        obtain ⟨c3, a1, a2, a3, a4, a5⟩ := C_emit (o := 28) (v := i) hs2 (by omega) (by decide)
        have e4' := e4
        rw [(M_rec4 hl2 (by omega) o tn (nI (t + 1)) x).1] at e4'
        rw [e4', lt_q, if_pos v0, show (28 : Int32) = nI 28 from rfl, a1, bv_q]
        have P3 : PB c0 m0 K kd sd (t + 1 + 1) c3 (rec4 m2 (150 * sd + ln) 4 (b2 tn) (b2 o) x) := PB_w d2 a2 rfl rfl (rec4_m ln1) ⟨rec4_a.i 0 11 rfl, rec4_a.i 0 13 rfl, rec4_a.i 0 15 rfl, rec4_a.i 0 16 rfl⟩
        obtain ⟨c4, f1, f2, f3, f4, f5, f6⟩ := lit_fin (cd := cd) (ln := ln) (cs := cs) (x := ((4, tn, o, i), [], [])) P3 a3 a5 (by show cs + 1 + (if tn = true then 1 else 0) ≤ 400; omega)
        rw [f1]
        have frc : frC cs cS c4 := (((fc.trans (frC_a b3 rfl rfl) (Nat.le_refl _)).trans (frC_a d3 rfl rfl) (Nat.le_refl _)).trans (show frC cs c2 c3 from ⟨a2.sub rfl, a4⟩) (Nat.le_refl _)).trans f5 (Nat.le_refl _)
        have frm : frM sd cd ln mS (rec4 m2 (150 * sd + ln) 4 (b2 tn) (b2 o) x) := (((fm.trans (frM_a b4 rfl rfl) (Nat.le_refl _) (Nat.le_refl _)).trans (frM_a d4 rfl rfl) (Nat.le_refl _) (Nat.le_refl _)).trans rec4_f (Nat.le_refl _) (Nat.le_refl _))
        have ll : (litW ((4, tn, o, i), [], [])).length = 1 + (if tn = true then 1 else 0) := by
          unfold litW rawW
          cases tn <;> rfl
        refine ⟨1, c4, _, rfl, rfl, .inl ⟨rfl, t + 1 + 1, ((4, tn, o, i), [], []), cd, ⟨f2, ?_, f3, ?_, rec4_v.2.2.2.2, by omega⟩, by omega, by omega, Nat.le_refl _, ⟨by show 4 ≤ 5; decide, fun z => absurd z (by show ¬ 4 < 4; decide)⟩, rfl, by show i < 401; omega, f4, ⟨fun z => ?_, by show 4 ≤ 5; decide, rec4_v.1, rec4_v.2.1, rec4_v.2.2.1, ?_⟩, frc, frm⟩⟩
        · rw [rec4_a.i 0 12 rfl, d4.i 0 12 rfl, b4.i 0 12 rfl]; exact L2
        · rw [rec4_a.i 0 49 rfl, d4.i 0 49 rfl, b4.i 0 49 rfl]; exact L4
        · rw [f6, a2.i 142 8 rfl] at z
          obtain ⟨y1, _⟩ := d6 z
          rw [b3.i 142 8 rfl] at y1
          exact z0 y1
        · rw [if_pos (show (4 : Nat) = 4 from rfl)]
          intro z
          rw [f6, a2.i 142 8 rfl] at z
          obtain ⟨y1, y2, j, y3, y4⟩ := d6 z
          have ij : i = j := nI_inj (by omega) (by have : cntN np nc nl 0 = np := rfl; omega) y4
          subst ij
          exact ⟨by rw [rec4_v.2.2.2.1, y2], y3⟩
      · rw [e4, lt_q, if_neg (by decide), ck_of zb_0]
        exact ⟨0, c2, m2, rfl, rfl, .inr ⟨rfl, f, p, g1, g2, g3, g4, g5⟩⟩
    · rw [if_pos rfl]
      unfold bX5_literal_84
      rw [lt_q, if_neg (by decide), ck_of zb_0]
      refine R2_F g1 g2 g3 g4 rfl ?_
      rw [ok_bv]
      refine (D_must g5 1).mono fun m2 F2 => ?_
      rw [if_neg (FM_13 F2).2.1, ok_some]
      exact F2
  · rw [decide_eq_false k28, if_pos (show b2 false = 0 from rfl), if_neg (show ¬ nI (kd t) = (28 : Int32) from fun z => k28 (nI_inj (b := 28) (by omega) (by decide) z)), show fX12_is 33 m = fX12_is (nI (kM 29)) m from rfl, M_is X P (by decide), bi_q]
    by_cases k29 : kd t = 29
    · -- a letter was read
      rw [decide_eq_true k29, if_neg (show ¬ b2 true = 0 by decide), if_pos (show nI (kd t) = (29 : Int32) by rw [k29]; rfl)]
      unfold bX12_literal_46
      rw [show fX12_is 32 m = fX12_is (nI (kM 28)) m from rfl, M_is X P (by decide), bi_q, lt_q, decide_eq_false k28]
      obtain ⟨v, c1, m1, e1, e2, h⟩ := tk_goes2 X P k29 (by decide)
      rw [show (29 : Int32) = nI 29 from rfl, e1, e2, bi_q, bv_q, lt_q]
      rcases h with ⟨rfl, b1, b2', b3, b4⟩ | ⟨rfl, ⟨f, p, g1, g2, g3, g4, g5⟩, b2'⟩
      · have hs1 : c1.1 125 11 = nI cs := by rw [b3.i 125 11 rfl]; exact L3
        obtain ⟨c2, a1, a2, a3, a4, a5⟩ := C_emit (o := 29) (v := t + 1) hs1 (by omega) (by decide)
        rw [if_neg (by decide), b2'.2.2.2.1, a1, bv_q, b2'.2.2.2.2.2.1]
        have P2 : PB c0 m0 K kd sd (t + 1) c2 m1 := PB_w b2' a2 rfl rfl .refl ⟨rfl, rfl, rfl, rfl⟩
        obtain ⟨v, c3, m2, e3, e4, h⟩ := tk_must X P2 (κ := 2) (by decide) (by decide)
        rw [show (2 : Int32) = nI 2 from rfl, e3, bi_q, show fX12_must 1 m1 = fX12_must (nI (kM 2)) m1 from rfl, e4, bv_q]
        rcases h with ⟨rfl, w1, w2, w3, w4, w5⟩ | ⟨rfl, f, p, g1, g2, g3, g4, g5⟩
        · have hl2 : m2.1 0 42 = nI (150 * sd + ln) := by rw [w5.i 0 42 rfl, b4.i 0 42 rfl]; exact L5
          have q91 : bX12_literal_91 (b2 o) (b2 tn) (b2 false) (nI (t + 1)) 0 m2 = some (rec4 m2 (150 * sd + ln) 5 (b2 tn) (b2 o) (nI (t + 1))) := by
            unfold bX12_literal_91
            rw [lt_q, if_neg (by decide)]
            exact (M_rec4 hl2 (by omega) o tn (nI (t + 1)) 0).2
          rw [if_neg (by decide), if_pos (show m2.1 0 13 ≤ 0 by rw [w3.2.2.2.2.2.2.1]; decide), if_pos (show b2 false = 0 from rfl), q91]
          have hs3 : c3.1 125 11 = nI (cs + 1) := by rw [w4.i 125 11 rfl]; exact a3
          have P3 : PB c0 m0 K kd sd (t + 1 + 1) c3 (rec4 m2 (150 * sd + ln) 5 (b2 tn) (b2 o) (nI (t + 1))) := PB_w w3 (W := []) .refl rfl rfl (rec4_m ln1) ⟨rec4_a.i 0 11 rfl, rec4_a.i 0 13 rfl, rec4_a.i 0 15 rfl, rec4_a.i 0 16 rfl⟩
          obtain ⟨c4, f1, f2, f3, f4, f5, f6⟩ := lit_fin (cd := cd) (ln := ln) (cs := cs) (x := ((5, tn, o, t + 1), [], [])) P3 hs3 (cwG_w (W := [(29, t + 1)]) a5 fun j _ => w4.i 129 j rfl) (by show cs + 1 + (if tn = true then 1 else 0) ≤ 400; omega)
          rw [f1]
          have frc : frC cs cS c4 := (((fc.trans (frC_a b3 rfl rfl) (Nat.le_refl _)).trans (show frC cs c1 c2 from ⟨a2.sub rfl, a4⟩) (Nat.le_refl _)).trans (frC_a w4 rfl rfl) (Nat.le_refl _)).trans f5 (Nat.le_refl _)
          have frm : frM sd cd ln mS (rec4 m2 (150 * sd + ln) 5 (b2 tn) (b2 o) (nI (t + 1))) := (((fm.trans (frM_a b4 rfl rfl) (Nat.le_refl _) (Nat.le_refl _)).trans (frM_a w5 rfl rfl) (Nat.le_refl _) (Nat.le_refl _)).trans rec4_f (Nat.le_refl _) (Nat.le_refl _))
          have ll : (litW ((5, tn, o, t + 1), [], [])).length = 1 + (if tn = true then 1 else 0) := by
            unfold litW rawW
            cases tn <;> rfl
          refine ⟨1, c4, _, rfl, rfl, .inl ⟨rfl, t + 1 + 1, ((5, tn, o, t + 1), [], []), cd, ⟨f2, ?_, f3, ?_, rec4_v.2.2.2.2, by omega⟩, by omega, by omega, Nat.le_refl _, ⟨by show 5 ≤ 5; decide, fun z => absurd z (by show ¬ 5 < 4; decide)⟩, rfl, by show t + 1 < 401; omega, f4, ⟨fun z => ?_, by show 5 ≤ 5; decide, rec4_v.1, rec4_v.2.1, rec4_v.2.2.1, ?_⟩, frc, frm⟩⟩
          · rw [rec4_a.i 0 12 rfl, w5.i 0 12 rfl, b4.i 0 12 rfl]; exact L2
          · rw [rec4_a.i 0 49 rfl, w5.i 0 49 rfl, b4.i 0 49 rfl]; exact L4
          · rw [f6, w4.i 142 8 rfl, a2.i 142 8 rfl, b3.i 142 8 rfl] at z
            exact z0 z
          · rw [if_neg (show ¬ (5 : Nat) = 4 by decide), if_pos (show (5 : Nat) = 5 from rfl)]
            exact ⟨rec4_v.2.2.2.1, b2'.2.2.1, w1⟩
        · rw [if_pos rfl, ck_of zb_0, if_neg (FM_13 g5).2.1]
          exact ⟨0, c3, m2, rfl, rfl, .inr ⟨rfl, f, p, g1, g2, g3, g4, g5⟩⟩
      · rw [if_pos rfl, ck_of zb_0]
        refine R2_F g1 g2 g3 g4 rfl ?_
        rw [ok_bv]
        refine (D_must g5 1).mono fun m2 F2 => ?_
        rw [if_neg (FM_13 F2).2.1, ok_some]
        exact F2
    · -- a comparison
      rw [decide_eq_false k29, if_pos (show b2 false = 0 from rfl), if_neg (show ¬ nI (kd t) = (29 : Int32) from fun z => k29 (nI_inj (b := 29) (by omega) (by decide) z)), lt_q]
      obtain ⟨v, c1, m1, e1, e2, h⟩ := expr_both (sl + (if tn = true then 1 else 0)) X L (by omega)
      rw [e1, e2, bi_q, bv_q]
      rcases h with ⟨rfl, t1, ea, A1, A2, A3, A4, A5, A6, ⟨A7, A8⟩, A9, A10⟩ | ⟨rfl, f, p, g1, g2, g3, g4, g5⟩
      · have PA := A1.1
        have t41 : t1 < 401 := by have := PA.2.2.1; have := X.1.2.1; omega
        have r1 := tk_row X PA PA.2.2.1
        have k341 : kd t1 < 34 := by have := r1.1; omega
        obtain ⟨sg1, sg2⟩ := sgn (kd t1) k341
        rw [if_neg (by decide), lt_q, if_pos (show m1.1 0 13 ≤ 0 by rw [PA.2.2.2.2.2.2.1]; decide), PA.2.2.2.2.1, PA.2.2.2.2.2.1, ck_of (nI_inb (show t1 < 403 by omega) (by decide)), nI_ix (by omega), r1.2.2.2.1, C_within, bi_q]
        unfold bX12_literal_207
        rw [lt_q, if_pos PA.2.2.2.2.2.2.1]
        by_cases k9 : 9 ≤ kd t1 ∧ kd t1 ≤ 12
        · rw [show rng (nI (kd t1)) 9 12 = true from (rng_c (a := 9) (n := 12) (by decide) (by decide)).mpr ⟨kd t1, k9.1, k9.2, rfl⟩, if_neg (show ¬ b2 true = 0 by decide), sg1 k9, if_neg (nI_pos (by omega)), if_pos (show nI (kd t1 - 9) ≤ (3 : Int32) from nI_le (b := 3) (by omega) (by decide))]
          unfold bX12_literal_232
          obtain ⟨v, c2, m2, e3, e4, h⟩ := tk_goes2 X PA rfl (by omega)
          rw [e3, e4, bi_q, bv_q, lt_q]
          rcases h with ⟨rfl, b1, b2', b3, b4⟩ | ⟨rfl, ⟨f, p, g1, g2, g3, g4, g5⟩, b2'⟩
          · have LB : LSt c0 m0 K kd sd (t1 + 1) (cs + ea.length) (cd + ea.length) ln c2 m2 := ⟨b2', by rw [b4.i 0 12 rfl]; exact A1.2.1, by rw [b3.i 125 11 rfl]; exact A1.2.2.1, by rw [b4.i 0 49 rfl]; exact A1.2.2.2.1, by rw [b4.i 0 42 rfl]; exact A1.2.2.2.2.1, A1.2.2.2.2.2⟩
            obtain ⟨v, c3, m3, e5, e6, h⟩ := expr_both (sl + (if tn = true then 1 else 0) + 1) X LB (by omega)
            rw [if_neg (by decide), e5, e6, bi_q, bv_q]
            rcases h with ⟨rfl, t2, eb, B1, B2, B3, B4, B5, B6, ⟨B7, B8⟩, B9, B10⟩ | ⟨rfl, f, p, g1, g2, g3, g4, g5⟩
            · have PB' := B1.1
              have t42 : t2 < 401 := by have := PB'.2.2.1; have := X.1.2.1; omega
              have hln : m3.1 0 42 = nI (150 * sd + ln) := B1.2.2.2.2.1
              obtain ⟨c4, a1, a2, a3, a4, a5⟩ := C_emit (o := kd t1) (v := 0) B1.2.2.1 (by omega) (by omega)
              rw [if_neg (by decide), show (0 : Int32) = nI 0 from rfl, a1, bv_q, if_pos (show m3.1 0 13 ≤ nI 0 by rw [PB'.2.2.2.2.2.2.1]; decide)]
              have hcode : m2.1 0 49 = nI (420 * sd + (cd + ea.length)) := LB.2.2.2.1
              simp only [hln, ck_of (nI_inb (show 150 * sd + ln < 300 by omega) (by decide)), nI_ix (show 150 * sd + ln < 2 ^ 31 by omega), lt_q, nar_b, wI_k (show (0 : Nat) ≠ 29 by decide), wI_k (show (0 : Nat) ≠ 30 by decide), wI_k (show (0 : Nat) ≠ 31 by decide), wI_k (show (0 : Nat) ≠ 32 by decide), wI_k (show (0 : Nat) ≠ 33 by decide), wI_k (show (0 : Nat) ≠ 34 by decide), nI_1, L4, hcode, B1.2.2.2.1]
              have AX : Agr [(29, none), (30, none), (31, none), (32, none), (33, none), (34, none), (0, some 42)] m3 (wI (wI (wI (wI (wI (wI (wI m3 29 (150 * sd + ln) (nI (kd t1 - 9))) 30 (150 * sd + ln) (b2 tn)) 31 (150 * sd + ln) (b2 o)) 32 (150 * sd + ln) (nI (420 * sd + cd))) 33 (150 * sd + ln) (nI (420 * sd + (cd + ea.length)))) 34 (150 * sd + ln) (nI (420 * sd + (cd + ea.length + eb.length)))) 0 42 (nI (150 * sd + ln + 1))) := ((((((Agr.refl.wI rfl).wI rfl).wI rfl).wI rfl).wI rfl).wI rfl).wI rfl
              have AY : AgrM sd m3 (wI (wI (wI (wI (wI (wI (wI m3 29 (150 * sd + ln) (nI (kd t1 - 9))) 30 (150 * sd + ln) (b2 tn)) 31 (150 * sd + ln) (b2 o)) 32 (150 * sd + ln) (nI (420 * sd + cd))) 33 (150 * sd + ln) (nI (420 * sd + (cd + ea.length)))) 34 (150 * sd + ln) (nI (420 * sd + (cd + ea.length + eb.length)))) 0 42 (nI (150 * sd + ln + 1))) := ((((((AgrM.refl.wI (pw_150 rfl ln1)).wI (pw_150 rfl ln1)).wI (pw_150 rfl ln1)).wI (pw_150 rfl ln1)).wI (pw_150 rfl ln1)).wI (pw_150 rfl ln1)).wI (pw_0 rfl)
              have AZ : frM sd cd ln m3 (wI (wI (wI (wI (wI (wI (wI m3 29 (150 * sd + ln) (nI (kd t1 - 9))) 30 (150 * sd + ln) (b2 tn)) 31 (150 * sd + ln) (b2 o)) 32 (150 * sd + ln) (nI (420 * sd + cd))) 33 (150 * sd + ln) (nI (420 * sd + (cd + ea.length)))) 34 (150 * sd + ln) (nI (420 * sd + (cd + ea.length + eb.length)))) 0 42 (nI (150 * sd + ln + 1))) := ⟨AX.sub rfl, fun j _ => ⟨AX.i 35 j rfl, AX.i 36 j rfl⟩, fun i hi => by
                have : i ≠ 150 * sd + ln := by omega
                simp [wI, this]⟩
              have AV : (wI (wI (wI (wI (wI (wI (wI m3 29 (150 * sd + ln) (nI (kd t1 - 9))) 30 (150 * sd + ln) (b2 tn)) 31 (150 * sd + ln) (b2 o)) 32 (150 * sd + ln) (nI (420 * sd + cd))) 33 (150 * sd + ln) (nI (420 * sd + (cd + ea.length)))) 34 (150 * sd + ln) (nI (420 * sd + (cd + ea.length + eb.length)))) 0 42 (nI (150 * sd + ln + 1))).1 29 (150 * sd + ln) = nI (kd t1 - 9) ∧ (wI (wI (wI (wI (wI (wI (wI m3 29 (150 * sd + ln) (nI (kd t1 - 9))) 30 (150 * sd + ln) (b2 tn)) 31 (150 * sd + ln) (b2 o)) 32 (150 * sd + ln) (nI (420 * sd + cd))) 33 (150 * sd + ln) (nI (420 * sd + (cd + ea.length)))) 34 (150 * sd + ln) (nI (420 * sd + (cd + ea.length + eb.length)))) 0 42 (nI (150 * sd + ln + 1))).1 30 (150 * sd + ln) = b2 tn ∧ (wI (wI (wI (wI (wI (wI (wI m3 29 (150 * sd + ln) (nI (kd t1 - 9))) 30 (150 * sd + ln) (b2 tn)) 31 (150 * sd + ln) (b2 o)) 32 (150 * sd + ln) (nI (420 * sd + cd))) 33 (150 * sd + ln) (nI (420 * sd + (cd + ea.length)))) 34 (150 * sd + ln) (nI (420 * sd + (cd + ea.length + eb.length)))) 0 42 (nI (150 * sd + ln + 1))).1 31 (150 * sd + ln) = b2 o ∧ (wI (wI (wI (wI (wI (wI (wI m3 29 (150 * sd + ln) (nI (kd t1 - 9))) 30 (150 * sd + ln) (b2 tn)) 31 (150 * sd + ln) (b2 o)) 32 (150 * sd + ln) (nI (420 * sd + cd))) 33 (150 * sd + ln) (nI (420 * sd + (cd + ea.length)))) 34 (150 * sd + ln) (nI (420 * sd + (cd + ea.length + eb.length)))) 0 42 (nI (150 * sd + ln + 1))).1 32 (150 * sd + ln) = nI (420 * sd + cd) ∧ (wI (wI (wI (wI (wI (wI (wI m3 29 (150 * sd + ln) (nI (kd t1 - 9))) 30 (150 * sd + ln) (b2 tn)) 31 (150 * sd + ln) (b2 o)) 32 (150 * sd + ln) (nI (420 * sd + cd))) 33 (150 * sd + ln) (nI (420 * sd + (cd + ea.length)))) 34 (150 * sd + ln) (nI (420 * sd + (cd + ea.length + eb.length)))) 0 42 (nI (150 * sd + ln + 1))).1 33 (150 * sd + ln) = nI (420 * sd + (cd + ea.length)) ∧ (wI (wI (wI (wI (wI (wI (wI m3 29 (150 * sd + ln) (nI (kd t1 - 9))) 30 (150 * sd + ln) (b2 tn)) 31 (150 * sd + ln) (b2 o)) 32 (150 * sd + ln) (nI (420 * sd + cd))) 33 (150 * sd + ln) (nI (420 * sd + (cd + ea.length)))) 34 (150 * sd + ln) (nI (420 * sd + (cd + ea.length + eb.length)))) 0 42 (nI (150 * sd + ln + 1))).1 34 (150 * sd + ln) = nI (420 * sd + (cd + ea.length + eb.length)) ∧ (wI (wI (wI (wI (wI (wI (wI m3 29 (150 * sd + ln) (nI (kd t1 - 9))) 30 (150 * sd + ln) (b2 tn)) 31 (150 * sd + ln) (b2 o)) 32 (150 * sd + ln) (nI (420 * sd + cd))) 33 (150 * sd + ln) (nI (420 * sd + (cd + ea.length)))) 34 (150 * sd + ln) (nI (420 * sd + (cd + ea.length + eb.length)))) 0 42 (nI (150 * sd + ln + 1))).1 0 42 = nI (150 * sd + ln + 1) := by simp [wI]
              generalize wI (wI (wI (wI (wI (wI (wI m3 29 (150 * sd + ln) (nI (kd t1 - 9))) 30 (150 * sd + ln) (b2 tn)) 31 (150 * sd + ln) (b2 o)) 32 (150 * sd + ln) (nI (420 * sd + cd))) 33 (150 * sd + ln) (nI (420 * sd + (cd + ea.length)))) 34 (150 * sd + ln) (nI (420 * sd + (cd + ea.length + eb.length)))) 0 42 (nI (150 * sd + ln + 1)) = m4 at AX AY AZ AV ⊢
              obtain ⟨V1, V2, V3, V4, V5, V6, V7⟩ := AV
              have P4 : PB c0 m0 K kd sd t2 c4 m4 := PB_w PB' a2 rfl rfl AY ⟨AX.i 0 11 rfl, AX.i 0 13 rfl, AX.i 0 15 rfl, AX.i 0 16 rfl⟩
              have rw' : rawW ((kd t1 - 9, tn, o, 0), ea, eb) = ea.map ex2w ++ (eb.map ex2w ++ [(kd t1, 0)]) := by
                unfold rawW
                simp only
                rw [if_neg (by omega), if_neg (by omega), show 9 + (kd t1 - 9) = kd t1 by omega]
              have rl : (rawW ((kd t1 - 9, tn, o, 0), ea, eb)).length = ea.length + eb.length + 1 := by
                rw [rw', List.length_append, List.length_append, List.length_map, List.length_map]; simp; omega
              have w4 : cwG c4 cs (rawW ((kd t1 - 9, tn, o, 0), ea, eb)) := by
                rw [rw']
                refine cwG_app (cwG_w A5 fun j hj => ?_) (cwG_app (cwG_w (by rw [List.length_map]; exact B5) fun j hj => ?_) ?_)
                · rw [List.length_map] at hj
                  rw [a4 j (by omega), B8 j (by omega), b3.i 129 j rfl]
                · rw [List.length_map, List.length_map] at hj
                  exact a4 j hj
                · rw [List.length_map, List.length_map]; exact a5
              obtain ⟨c5, f1, f2, f3, f4, f5, f6⟩ := lit_fin (cd := cd) (ln := ln) (cs := cs) (x := ((kd t1 - 9, tn, o, 0), ea, eb)) P4 (by rw [rl, a3, show cs + ea.length + eb.length + 1 = cs + (ea.length + eb.length + 1) by omega]) w4 (by rw [rl]; show cs + (ea.length + eb.length + 1) + (if tn = true then 1 else 0) ≤ 400; omega)
              rw [f1]
              have frc : frC cs cS c5 := ((((fc.trans (show frC cs c c1 from ⟨A7.sub rfl, A8⟩) (Nat.le_refl _)).trans (frC_a b3 rfl rfl) (Nat.le_refl _)).trans (show frC (cs + ea.length) c2 c3 from ⟨B7.sub rfl, B8⟩) (by omega)).trans (show frC (cs + ea.length + eb.length) c3 c4 from ⟨a2.sub rfl, a4⟩) (by omega)).trans f5 (Nat.le_refl _)
              have frm : frM sd cd ln mS m4 := (((fm.trans (show frM sd cd ln m m1 from ⟨A9.sub rfl, A10, fun i _ => ⟨A9.i 29 i rfl, A9.i 30 i rfl, A9.i 31 i rfl, A9.i 32 i rfl, A9.i 33 i rfl, A9.i 34 i rfl⟩⟩) (Nat.le_refl _) (Nat.le_refl _)).trans (frM_a b4 rfl rfl) (Nat.le_refl _) (Nat.le_refl _)).trans (show frM sd (cd + ea.length) ln m2 m3 from ⟨B9.sub rfl, B10, fun i _ => ⟨B9.i 29 i rfl, B9.i 30 i rfl, B9.i 31 i rfl, B9.i 32 i rfl, B9.i 33 i rfl, B9.i 34 i rfl⟩⟩) (by omega) (Nat.le_refl _)).trans AZ (Nat.le_refl _) (Nat.le_refl _)
              have ll : (litW ((kd t1 - 9, tn, o, 0), ea, eb)).length = ea.length + eb.length + 1 + (if tn = true then 1 else 0) := by
                unfold litW
                rw [List.length_append, rl]
                cases tn <;> rfl
              refine ⟨1, c5, m4, rfl, rfl, .inl ⟨rfl, t2, ((kd t1 - 9, tn, o, 0), ea, eb), cd + ea.length + eb.length, ⟨f2, ?_, f3, ?_, V7, by rw [ll]; omega⟩, by omega, by omega, by omega, ⟨by show kd t1 - 9 ≤ 5; omega, fun _ => ⟨A4, B4⟩⟩, rfl, by show 0 < 401; decide, f4, ⟨fun z => ?_, by show kd t1 - 9 ≤ 5; omega, V1, V2, V3, ?_⟩, frc, frm⟩⟩
              · rw [AX.i 0 12 rfl]; exact B1.2.1
              · rw [AX.i 0 49 rfl]; exact B1.2.2.2.1
              · rw [f6, a2.i 142 8 rfl, B7.i 142 8 rfl, b3.i 142 8 rfl, A7.i 142 8 rfl] at z
                exact z0 z
              · rw [if_neg (show ¬ kd t1 - 9 = 4 by omega), if_neg (show ¬ kd t1 - 9 = 5 by omega)]
                refine ⟨420 * sd + cd, by omega, V4, by rw [V5, Nat.add_assoc], by rw [V6, Nat.add_assoc, Nat.add_assoc, Nat.add_assoc], by show 420 * sd + cd + ea.length + eb.length ≤ _; omega, cdM_w A6 fun j hj => ?_, cdM_w (by rw [← Nat.add_assoc] at B6; exact B6) fun j _ => ⟨AX.i 35 j rfl, AX.i 36 j rfl⟩⟩
                obtain ⟨y1, y2⟩ := B10 j (by show j < 420 * sd + (cd + ea.length); have : j < 420 * sd + cd + ea.length := hj; omega)
                rw [AX.i 35 j rfl, AX.i 36 j rfl, y1, y2, b4.i 35 j rfl, b4.i 36 j rfl]
                exact ⟨rfl, rfl⟩
            · rw [if_pos rfl, ck_of zb_0, if_neg (FM_13 g5).2.1]
              exact ⟨0, c3, m3, rfl, rfl, .inr ⟨rfl, f, p, g1, g2, g3, g4, g5⟩⟩
          · rw [if_pos rfl, ck_of zb_0]
            refine R2_F g1 g2 g3 g4 rfl ?_
            rw [ok_bv]
            refine (D_exp g5).mono fun h3 F3 => ?_
            rw [if_neg (FM_13 F3).2.1, ok_some]
            exact F3
        · obtain ⟨c2, m2, e3, e4, ⟨f, p, g1, g2, g3, g4, g5⟩, _⟩ := st_both X PA (f := 1) (.inl rfl)
          rw [show rng (nI (kd t1)) 9 12 = false from Bool.eq_false_iff.mpr (fun z => by
            obtain ⟨j, j1, j2, j3⟩ := (rng_c (a := 9) (n := 12) (by decide) (by decide)).mp z
            have := nI_inj (by omega) (by omega) j3
            exact k9 ⟨by omega, by omega⟩), if_pos (show b2 false = 0 from rfl), show (1 : Int32) = nI 1 from rfl, e3, bi_q, ck_of zb_0]
          have d : Ok (bX12_literal_227 (b2 o) (b2 tn) (m.1 0 49) (nI (kM (kd t1)) - 11) m1) (FM m0 sd f p) := by
            unfold bX12_literal_227
            rw [show (1 : Int32) = nI 1 from rfl, e4, bv_q]
            exact D_lit232 g5 _ _ _ _
          refine R2_F g1 g2 g3 g4 rfl ?_
          rcases sg2 k9 with z | z
          · rw [if_pos z]; exact d
          · by_cases z2 : nI (kM (kd t1)) - 11 < 0
            · rw [if_pos z2]; exact d
            · rw [if_neg z2, if_neg z]; exact d
      · rw [if_pos rfl, ck_of zb_0, if_neg (FM_13 g5).2.1]
        unfold bX12_literal_207
        rw [lt_q, if_neg (FM_13 g5).1]
        exact R2_F g1 g2 g3 g4 rfl (D_lit232 g5 _ _ _ _)
