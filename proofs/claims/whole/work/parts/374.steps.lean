/-- steps of the reading, both -/
theorem kM_inj : ∀ a, a < 34 → ∀ b, b < 34 → kM a = kM b → a = b := by decide +kernel
theorem kM_lt : ∀ a, a < 34 → kM a < 38 := by decide +kernel
theorem bv_id {o : Option Hp} : bv o (fun h => some h) = o := by cases o <;> rfl
theorem nI_inj {a b : Nat} (ha : a < 2 ^ 31) (hb : b < 2 ^ 31) (e : nI a = nI b) : a = b := (nI_eq ha hb).mp e
theorem tk_row {c0 m0 c m : Hp} {K sd t u : Nat} {kd pl : Nat → Nat} (X : CTX c0 m0 K kd pl sd) (P : PB c0 m0 K kd sd t c m) (hu : u < K) : TkRow (kd u) (pl u) (c.1 104 u) (c.1 105 u) (c.2 106 u) (m.1 3 u) (m.1 4 u) (m.1 5 u) (m.2 6 u) := by
  rw [P.1.i 104 u rfl, P.1.i 105 u rfl, P.1.l 106 u rfl, P.2.1.i 3 u rfl, P.2.1.i 4 u rfl, P.2.1.i 5 u rfl, P.2.1.l 6 u rfl]
  exact X.1.2.2.1 u hu
theorem tk_nx {c0 m0 : Hp} {K sd t : Nat} {kd pl : Nat → Nat} (X : CTX c0 m0 K kd pl sd) (ht : t < K) (h2 : 2 ≤ kd t) : t ≤ 400 ∧ (t < 400 → t + 1 < K) := by
  obtain ⟨⟨k1, k2, _, k4, k5⟩, _⟩ := X
  refine ⟨by omega, fun h => ?_⟩
  rcases Nat.lt_or_ge (t + 1) K with g | g
  · exact g
  · have e : t = K - 1 := by omega
    have := k5 (by omega)
    rw [← e] at this
    omega
theorem M_is {c0 m0 c m : Hp} {K sd t κ : Nat} {kd pl : Nat → Nat} (X : CTX c0 m0 K kd pl sd) (P : PB c0 m0 K kd sd t c m) (hκ : κ < 34) : fX12_is (nI (kM κ)) m = some (b2 (decide (kd t = κ)), m) := by
  have r := tk_row X P P.2.2.1
  have t4 : t < 401 := by have := P.2.2.1; have := X.1.2.1; omega
  unfold fX12_is
  rw [if_pos P.2.2.2.2.2.2.1, P.2.2.2.2.2.1, ck_of (nI_inb (show t < 403 by omega) (by decide)), nI_ix (by omega), r.2.2.2.1]
  by_cases c : kd t = κ
  · rw [decide_eq_true c, if_pos (by rw [c]), ck_of zb_1]; rfl
  · have a1 := kM_lt (kd t) (by have := r.1; omega)
    have a2 := kM_lt κ hκ
    rw [decide_eq_false c, if_neg (fun e => c (kM_inj _ (by have := r.1; omega) _ hκ (nI_inj (by omega) (by omega) e))), ck_of zb_0]; rfl
theorem C_fault {c0 m0 c m : Hp} {K sd t f : Nat} {kd pl : Nat → Nat} (X : CTX c0 m0 K kd pl sd) (P : PB c0 m0 K kd sd t c m) (hf : f = 1 ∨ f = 2) : ∃ c1 m1, wI (wI c 142 8 (nI f)) 142 9 (c.1 105 (ix (c.1 142 6))) = c1 ∧ inb (c.1 142 6) 401 = true ∧ fX12_fail (nI f) m = some m1 ∧ FF c0 m0 sd c1 m1 ∧ Agr [(0, some 13), (0, some 14)] m m1 := by
  have r := tk_row X P P.2.2.1
  have t4 : t < 401 := by have := P.2.2.1; have := X.1.2.1; omega
  obtain ⟨p1, p2, p3, p4, p5, p6, p7, p8⟩ := P
  refine ⟨_, wI (wI m 0 13 (nI f)) 0 14 (nI (pl t)), rfl, by rw [p4]; exact nI_inb t4 (by decide), ?_, ⟨f, pl t, r.2.1, (p1.wI rfl).wI rfl, ?_, ?_, (p2.wI (pw_0 rfl)).wI (pw_0 rfl), ?_, hf, wI_s, t, by omega, ?_⟩, (Agr.refl.wI rfl).wI rfl⟩
  · unfold fX12_fail
    rw [p7, if_pos (by decide), lt_q, wI_j (show (11 : Nat) ≠ 13 by decide), p6, ck_of (nI_inb (show t < 403 by omega) (by decide)), nI_ix (by omega), lt_q, wI_k (show (4 : Nat) ≠ 0 by decide), r.2.2.2.2.2.1]
  · rw [wI_j (by decide), wI_s]
  · rw [wI_s, p4, nI_ix (by omega), r.2.2.2.2.1]
  · rw [wI_j (by decide), wI_s]
  · rw [wI_j (by decide), wI_j (by decide)]; exact p6
theorem st_both {c0 m0 c m : Hp} {K sd t f : Nat} {kd pl : Nat → Nat} (X : CTX c0 m0 K kd pl sd) (P : PB c0 m0 K kd sd t c m) (hf : f = 1 ∨ f = 2) : ∃ c1 m1, fX5_stop (nI f) c = some (0, c1) ∧ fX12_fail (nI f) m = some m1 ∧ FF c0 m0 sd c1 m1 ∧ Agr [(0, some 13), (0, some 14)] m m1 := by
  obtain ⟨c1, m1, e1, e2, e3, e4, e5⟩ := C_fault X P hf
  refine ⟨c1, m1, ?_, e3, e4, e5⟩
  unfold fX5_stop
  rw [lt_q, wI_j (show (6 : Nat) ≠ 8 by decide), ck_of e2, lt_q, wI_k (show (105 : Nat) ≠ 142 by decide), e1, ck_of zb_0]
def W67 : Ws := [(142, some 6), (142, some 7)]
def W11 : Ws := [(0, some 11)]
theorem tk_goes {c0 m0 c m : Hp} {K sd t κ : Nat} {kd pl : Nat → Nat} (X : CTX c0 m0 K kd pl sd) (P : PB c0 m0 K kd sd t c m) (hκ : kd t = κ) (h2 : 2 ≤ κ) : R2 c0 m0 sd (fX5_take (nI κ) c) (fX12_goesOn m) (fun c1 m1 => t < 400 ∧ PB c0 m0 K kd sd (t + 1) c1 m1 ∧ Agr W67 c c1 ∧ Agr W11 m m1) := by
  obtain ⟨n1, n2⟩ := tk_nx X P.2.2.1 (by omega)
  have P' := P
  obtain ⟨p1, p2, p3, p4, p5, p6, p7, p8⟩ := P'
  by_cases c4 : t < 400
  · have hn := n2 c4
    have r := tk_row X P hn
    refine ⟨1, wI (wI c 142 6 (nI (t + 1))) 142 7 (nI (kd (t + 1))), wI m 0 11 (nI (t + 1)), ?_, ?_, .inl ⟨rfl, c4, ⟨(p1.wI rfl).wI rfl, p2.wI (pw_0 rfl), hn, ?_, wI_s, wI_s, ?_, ?_⟩, (Agr.refl.wI rfl).wI rfl, Agr.refl.wI rfl⟩⟩
    · unfold fX5_take bX5_take_13
      rw [p5, hκ, if_pos rfl, lt_q, if_neg (by decide), p4, if_pos (show nI t < (400 : Int32) from nI_lt (b := 400) c4 (by decide)), nI_1, lt_q, wI_s, ck_of (nI_inb (show t + 1 < 401 by omega) (by decide)), nI_ix (by omega), wI_k (show (104 : Nat) ≠ 142 by decide), r.2.2.1, lt_q, ck_of zb_1]
    · unfold fX12_goesOn
      rw [p6, if_neg (fun e => by have := nI_inj (b := 400) (by omega) (by decide) e; omega), lt_q, nI_1]
    · rw [wI_j (by decide), wI_s]
    · rw [wI_j (by decide)]; exact p7
    · unfold MK
      rw [wI_j (show (8 : Nat) ≠ 7 by decide), wI_j (show (8 : Nat) ≠ 6 by decide), wI_j (show (9 : Nat) ≠ 7 by decide), wI_j (show (9 : Nat) ≠ 6 by decide), wI_j (show (15 : Nat) ≠ 11 by decide), wI_j (show (16 : Nat) ≠ 11 by decide)]
      exact p8
  · have e4 : t = 400 := by omega
    obtain ⟨c1, m1, e1, e2, e3, e4', _⟩ := C_fault X P (f := 2) (.inr rfl)
    refine ⟨0, c1, m1, ?_, ?_, .inr ⟨rfl, e4'⟩⟩
    · unfold fX5_take bX5_take_13 bX5_take_28 bX5_take_38
      rw [p5, hκ, if_pos rfl, lt_q, if_neg (by decide), if_neg (show ¬ c.1 142 6 < 400 by rw [p4, e4]; decide), if_neg (by decide), lt_q, wI_j (show (6 : Nat) ≠ 8 by decide), ck_of e2, lt_q, wI_k (show (105 : Nat) ≠ 142 by decide), show (2 : Int32) = nI 2 from rfl, e1, ck_of zb_0]
    · unfold fX12_goesOn
      rw [if_pos (show m.1 0 11 = 400 by rw [p6, e4]; rfl), show (2 : Int32) = nI 2 from rfl, e3, bv_q]
theorem tk_must {c0 m0 c m : Hp} {K sd t κ : Nat} {kd pl : Nat → Nat} (X : CTX c0 m0 K kd pl sd) (P : PB c0 m0 K kd sd t c m) (h34 : κ < 34) (h2 : 2 ≤ κ) : R2 c0 m0 sd (fX5_take (nI κ) c) (fX12_must (nI (kM κ)) m) (fun c1 m1 => kd t = κ ∧ t < 400 ∧ PB c0 m0 K kd sd (t + 1) c1 m1 ∧ Agr W67 c c1 ∧ Agr W11 m m1) := by
  unfold fX12_must
  rw [M_is X P h34, bi_q]
  by_cases e : kd t = κ
  · rw [decide_eq_true e, if_neg (by decide), bv_id]
    exact (tk_goes X P e h2).mono fun _ _ h => ⟨e, h⟩
  · obtain ⟨c1, m1, e1, e2, e3, e4, _⟩ := C_fault X P (f := 1) (.inl rfl)
    have r := tk_row X P P.2.2.1
    rw [decide_eq_false e, if_pos (show b2 false = 0 from rfl), bv_id]
    refine ⟨0, c1, m1, ?_, e3, .inr ⟨rfl, e4⟩⟩
    unfold fX5_take bX5_take_13 bX5_take_28 bX5_take_38
    rw [P.2.2.2.2.1, if_neg (fun q => e (nI_inj (by have := r.1; omega) (by omega) q)), lt_q, if_pos rfl, if_pos rfl, lt_q, wI_j (show (6 : Nat) ≠ 8 by decide), ck_of e2, lt_q, wI_k (show (105 : Nat) ≠ 142 by decide), show (1 : Int32) = nI 1 from rfl, e1, ck_of zb_0]
def W89 : Ws := [(142, some 8), (142, some 9)]
def W156 : Ws := [(0, some 15), (0, some 16)]
theorem mk_both {c0 m0 c m : Hp} {K sd t u f : Nat} {kd pl : Nat → Nat} (X : CTX c0 m0 K kd pl sd) (P : PB c0 m0 K kd sd t c m) (hu : u < K) (f3 : 3 ≤ f) (f5 : f ≤ 5) : ∃ c1 m1, fX5_mark (nI f) (nI u) c = some c1 ∧ fX12_amiss (nI f) (nI u) m = some m1 ∧ fX12_amiss (nI f) (nI u) m1 = some m1 ∧ PB c0 m0 K kd sd t c1 m1 ∧ ¬ c1.1 142 8 = 0 ∧ Agr W89 c c1 ∧ Agr W156 m m1 := by
  have r := tk_row X P hu
  have u4 : u < 401 := by have := X.1.2.1; omega
  have P' := P
  obtain ⟨p1, p2, p3, p4, p5, p6, p7, p8⟩ := P'
  have c105 : c.1 105 u = nI (pl u) := r.2.2.2.2.1
  have m4 : m.1 4 u = nI (pl u) := r.2.2.2.2.2.1
  have pu := r.2.1
  -- what both do when they write
  have wr : ∃ c1 m1, wI (wI c 142 8 (nI f)) 142 9 (nI (pl u)) = c1 ∧ wI (wI m 0 15 (nI f)) 0 16 (nI (pl u)) = m1 ∧ fX12_amiss (nI f) (nI u) m1 = some m1 ∧ PB c0 m0 K kd sd t c1 m1 ∧ ¬ c1.1 142 8 = 0 ∧ Agr W89 c c1 ∧ Agr W156 m m1 := by
    refine ⟨_, _, rfl, rfl, ?_, ⟨(p1.wI rfl).wI rfl, (p2.wI (pw_0 rfl)).wI (pw_0 rfl), p3, ?_, ?_, ?_, ?_, .inr ⟨f, pl u, f3, f5, pu, ?_, wI_s, ?_, wI_s⟩⟩, ?_, (Agr.refl.wI rfl).wI rfl, (Agr.refl.wI rfl).wI rfl⟩
    · simp only [fX12_amiss, ck_of (nI_inb (show u < 403 by omega) (by decide)), nI_ix (show u < 2 ^ 31 by omega), wI_k (show (4 : Nat) ≠ 0 by decide), m4, lt_q, wI_j (show (13 : Nat) ≠ 16 by decide), wI_j (show (13 : Nat) ≠ 15 by decide), p7, wI_j (show (15 : Nat) ≠ 16 by decide), wI_s]
      rw [if_neg (by decide), if_neg (nI_ne0 (by omega) (by omega)), if_neg Int32.lt_irrefl, if_pos trivial, if_neg Int32.lt_irrefl]
    · rw [wI_j (by decide), wI_j (by decide)]; exact p4
    · rw [wI_j (by decide), wI_j (by decide)]; exact p5
    · rw [wI_j (by decide), wI_j (by decide)]; exact p6
    · rw [wI_j (by decide), wI_j (by decide)]; exact p7
    · rw [wI_j (by decide), wI_s]
    · rw [wI_j (by decide), wI_s]
    · rw [wI_j (by decide), wI_s]; exact nI_ne0 (by omega) (by omega)
  obtain ⟨c1, m1, w1, w2, w3, w4, w5, w6, w7⟩ := wr
  simp only [fX5_mark, bX5_mark_41, fX12_amiss, bX12_amiss_46, ck_of (nI_inb (show u < 401 by omega) (by decide)), ck_of (nI_inb (show u < 403 by omega) (by decide)), nI_ix (show u < 2 ^ 31 by omega), c105, m4, lt_q, p7, w1, w2]
  simp only [fX12_amiss, bX12_amiss_46, ck_of (nI_inb (show u < 403 by omega) (by decide)), nI_ix (show u < 2 ^ 31 by omega), lt_q] at w3
  rw [if_neg (show ¬ (0 : Int32) < 0 by decide)]
  rcases p8 with ⟨q1, q2, q3⟩ | ⟨g, p, g3, g5, gp, q1, q2, q3, q4⟩
  · rw [q1, q3, if_pos rfl, if_pos rfl]
    exact ⟨c1, m1, rfl, rfl, w3, w4, w5, w6, w7⟩
  · rw [q1, q2, q3, q4, if_neg (nI_ne0 (by omega) (by omega)), if_neg (nI_ne0 (by omega) (by omega))]
    have same : ∃ c1 m1, (some c : Option Hp) = some c1 ∧ (some m : Option Hp) = some m1 ∧ PB c0 m0 K kd sd t c1 m1 ∧ ¬ c1.1 142 8 = 0 ∧ Agr W89 c c1 ∧ Agr W156 m m1 := ⟨c, m, rfl, rfl, P, by rw [q1]; exact nI_ne0 (by omega) (by omega), .refl, .refl⟩
    have am : ∀ h : Hp, h = m → ck (inb (nI u) 403) (lt (h.1 4 (ix (nI u))) (fun v1 => (if 0 < (h.1 0 13) then some h else (if (h.1 0 15) = 0 then bX12_amiss_46 (nI f) v1 h else (if (h.1 0 16) < v1 then some h else (if v1 = (h.1 0 16) then (if (nI f) < (h.1 0 15) then bX12_amiss_46 (nI f) v1 h else some h) else bX12_amiss_46 (nI f) v1 h)))))) = fX12_amiss (nI f) (nI u) h := fun h _ => rfl
    rcases Nat.lt_trichotomy (pl u) p with h | h | h
    · rw [if_pos (nI_lt h (by omega)), if_neg (nI_nlt (Nat.le_of_lt h) (by omega)), if_neg (fun e => by have := nI_inj (by omega) (by omega) e; omega)]
      exact ⟨c1, m1, rfl, rfl, w3, w4, w5, w6, w7⟩
    · subst h
      rw [if_neg Int32.lt_irrefl, if_neg Int32.lt_irrefl, if_pos rfl, if_pos rfl]
      by_cases hg : g ≤ f
      · rw [if_pos (nI_le hg (by omega)), if_neg (nI_nlt hg (by omega))]
        obtain ⟨c2, m2, s1, s2, s3⟩ := same
        cases s1; cases s2
        refine ⟨c, m, rfl, rfl, ?_, s3⟩
        rw [m4, p7, q3, q4, if_neg (by decide), if_neg (nI_ne0 (by omega) (by omega)), if_neg Int32.lt_irrefl, if_pos rfl, if_neg (nI_nlt hg (by omega))]
      · rw [if_neg (nI_ge (by omega) (by omega)), if_pos (nI_lt (by omega) (by omega))]
        exact ⟨c1, m1, rfl, rfl, w3, w4, w5, w6, w7⟩
    · rw [if_neg (nI_nlt (Nat.le_of_lt h) (by omega)), if_neg (fun e => by have := nI_inj (by omega) (by omega) e; omega), if_pos (nI_lt h (by omega))]
      obtain ⟨c2, m2, s1, s2, s3⟩ := same
      cases s1; cases s2
      refine ⟨c, m, rfl, rfl, ?_, s3⟩
      rw [m4, p7, q3, q4, if_neg (by decide), if_neg (nI_ne0 (by omega) (by omega)), if_pos (nI_lt h (by omega))]
