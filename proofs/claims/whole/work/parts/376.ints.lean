/-- numbers and new names -/
theorem wI_cm {h : Hp} {k j k' j' : Nat} {v v' : Int32} (n : ¬ (k = k' ∧ j = j')) : wI (wI h k j v) k' j' v' = wI (wI h k' j' v') k j v := by
  refine Prod.ext (funext fun a => funext fun b => ?_) rfl
  simp only [wI_r]
  by_cases e1 : a = k ∧ b = j
  · by_cases e2 : a = k' ∧ b = j'
    · exact absurd ⟨e1.1.symm.trans e2.1, e1.2.symm.trans e2.2⟩ n
    · rw [if_neg e2, if_pos e1, if_pos e1]
  · rw [if_neg e1, if_neg e1]
def amS (m : Hp) (f p : Int32) : Hp := if m.1 0 15 = 0 then wI (wI m 0 15 f) 0 16 p else if m.1 0 16 < p then m else if p = m.1 0 16 then (if f < m.1 0 15 then wI (wI m 0 15 f) 0 16 p else m) else wI (wI m 0 15 f) 0 16 p
theorem M_amS {m : Hp} {u : Nat} (h13 : m.1 0 13 = 0) (hu : u < 403) (f : Int32) : fX12_amiss f (nI u) m = some (amS m f (m.1 4 u)) := by
  unfold fX12_amiss bX12_amiss_46 amS
  rw [ck_of (nI_inb hu (by decide)), nI_ix (by omega), lt_q, h13, if_neg (by decide)]
  simp only [lt_q]
  by_cases c1 : m.1 0 15 = 0
  · rw [if_pos c1, if_pos c1]
  · rw [if_neg c1, if_neg c1]
    by_cases c2 : m.1 0 16 < m.1 4 u
    · rw [if_pos c2, if_pos c2]
    · rw [if_neg c2, if_neg c2]
      by_cases c3 : m.1 4 u = m.1 0 16
      · rw [if_pos c3, if_pos c3]
        by_cases c4 : f < m.1 0 15
        · rw [if_pos c4, if_pos c4]
        · rw [if_neg c4, if_neg c4]
      · rw [if_neg c3, if_neg c3]
theorem amS_11 {m : Hp} {f p v : Int32} : amS (wI m 0 11 v) f p = wI (amS m f p) 0 11 v := by
  unfold amS
  rw [wI_j (show (15 : Nat) ≠ 11 by decide), wI_j (show (16 : Nat) ≠ 11 by decide)]
  have e : wI (wI (wI m 0 11 v) 0 15 f) 0 16 p = wI (wI (wI m 0 15 f) 0 16 p) 0 11 v := by
    rw [wI_cm (h := m) (k := 0) (j := 11) (k' := 0) (j' := 15) (by decide), wI_cm (k := 0) (j := 11) (k' := 0) (j' := 16) (by decide)]
  rw [e]
  by_cases c1 : m.1 0 15 = 0
  · rw [if_pos c1, if_pos c1]
  · rw [if_neg c1, if_neg c1]
    by_cases c2 : m.1 0 16 < p
    · rw [if_pos c2, if_pos c2]
    · rw [if_neg c2, if_neg c2]
      by_cases c3 : p = m.1 0 16
      · rw [if_pos c3, if_pos c3]
        by_cases c4 : f < m.1 0 15
        · rw [if_pos c4, if_pos c4]
        · rw [if_neg c4, if_neg c4]
      · rw [if_neg c3, if_neg c3]
theorem M_goesOn {c0 m0 c m : Hp} {K sd t : Nat} {kd : Nat → Nat} (P : PB c0 m0 K kd sd t c m) (h4 : t < 400) : fX12_goesOn m = some (wI m 0 11 (nI (t + 1))) := by
  unfold fX12_goesOn
  rw [P.2.2.2.2.2.1, if_neg (fun e => by have := nI_inj (b := 400) (by omega) (by decide) e; omega), lt_q, nI_1]
theorem tk_int {c0 m0 c m : Hp} {K sd t a b : Nat} {kd pl : Nat → Nat} (X : CTX c0 m0 K kd pl sd) (P : PB c0 m0 K kd sd t c m) (ha : a < 10000) (hb : b < 10000) : R3 c0 m0 sd (fX5_takeInt (nI a) (nI b) c) (fX12_bounded (nI a) (nI b) m) (fun v x c1 m1 => t < 400 ∧ PB c0 m0 K kd sd (t + 1) c1 m1 ∧ Agr (W67 ++ W89) c c1 ∧ Agr (W11 ++ W156) m m1 ∧ ∃ n, n ≤ 9999 ∧ v = nI n ∧ x = nI n ∧ (c1.1 142 8 = 0 → c.1 142 8 = 0 ∧ a ≤ n ∧ n ≤ b)) := by
  have t4 : t < 401 := by have := P.2.2.1; have := X.1.2.1; omega
  have r := tk_row X P P.2.2.1
  unfold fX5_takeInt fX12_bounded
  rw [P.2.2.2.1, ck_of (nI_inb t4 (by decide)), nI_ix (by omega), lt_q, lt_q, P.2.2.2.2.2.2.1, if_neg (by decide), show fX12_is 2 m = fX12_is (nI (kM 3)) m from rfl, M_is X P (by decide), bi_q]
  by_cases k3 : kd t = 3
  · obtain ⟨n, n1, n2, n3⟩ := r.2.2.2.2.2.2.1 k3
    obtain ⟨w, c1, m1, e1, e2, h⟩ := tk_goes X P (κ := 3) k3 (by decide)
    rw [decide_eq_true k3, if_neg (by decide), show (3 : Int32) = nI 3 from rfl, e1, bi_q, P.2.2.2.2.2.1, ck_of (nI_inb (show t < 403 by omega) (by decide)), nI_ix (by omega), lt_q, n2, n3, lN_i, C_within]
    rcases h with ⟨rfl, q1, q2, q3, q4⟩ | ⟨rfl, F⟩
    · rw [if_neg (by decide), bi_q]
      have em : m1 = wI m 0 11 (nI (t + 1)) := by
        have := M_goesOn P q1
        rw [e2] at this
        exact Option.some.inj this
      by_cases rg : a ≤ n ∧ n ≤ b
      · rw [(rng_c (by omega) (by omega)).mpr ⟨n, rg.1, rg.2, rfl⟩, if_neg (by decide), if_neg (nI_nlt rg.1 (by omega)), if_pos (nI_le rg.2 (by omega))]
        unfold bX12_bounded_51
        rw [e2, bv_q]
        exact ⟨nI n, c1, nI n, m1, rfl, rfl, .inl ⟨nI_pos' (by omega), q1, q2, q3.sub rfl, q4.sub rfl, n, n1, rfl, rfl, fun z => ⟨by rw [← q3.i 142 8 rfl]; exact z, rg⟩⟩⟩
      · have nr : rng (nI n) (nI a) (nI b) = false := Bool.eq_false_iff.mpr fun z => by
          obtain ⟨j, j1, j2, j3⟩ := (rng_c (by omega) (by omega)).mp z
          have := nI_inj (by omega) (by omega) j3
          exact rg ⟨by omega, by omega⟩
        obtain ⟨c2, m2, d1, d2, _, d4, d5, d6, d7⟩ := mk_both X q2 (u := t) (f := 5) P.2.2.1 (by decide) (by decide)
        have hm : bX12_bounded_42 (nI n) m = some (nI n, m2) := by
          unfold bX12_bounded_42 bX12_bounded_51
          rw [P.2.2.2.2.2.1, show (5 : Int32) = nI 5 from rfl, M_amS P.2.2.2.2.2.2.1 (by omega), bv_q]
          have g : fX12_goesOn (amS m (nI 5) (m.1 4 t)) = some m2 := by
            have e11 : (amS m (nI 5) (m.1 4 t)).1 0 11 = nI t := by
              have : (amS m (nI 5) (m.1 4 t)).1 0 11 = m.1 0 11 := by
                unfold amS
                split
                · rw [wI_j (by decide), wI_j (by decide)]
                · split
                  · rfl
                  · split
                    · split
                      · rw [wI_j (by decide), wI_j (by decide)]
                      · rfl
                    · rw [wI_j (by decide), wI_j (by decide)]
              rw [this, P.2.2.2.2.2.1]
            unfold fX12_goesOn
            rw [e11, if_neg (fun e => by have := nI_inj (b := 400) (by omega) (by decide) e; omega), lt_q, nI_1, ← amS_11]
            rw [M_amS q2.2.2.2.2.2.2.1 (by omega), em, wI_k (by decide)] at d2
            exact d2
          rw [g, bv_q]
        rw [nr, if_pos (show b2 false = 0 from rfl), show (5 : Int32) = nI 5 from rfl, d1, bv_q, hm]
        have res : R3 c0 m0 sd (some (nI n, c2)) (some (nI n, m2)) (fun v x c1 m1 => t < 400 ∧ PB c0 m0 K kd sd (t + 1) c1 m1 ∧ Agr (W67 ++ W89) c c1 ∧ Agr (W11 ++ W156) m m1 ∧ ∃ n, n ≤ 9999 ∧ v = nI n ∧ x = nI n ∧ (c1.1 142 8 = 0 → c.1 142 8 = 0 ∧ a ≤ n ∧ n ≤ b)) := ⟨nI n, c2, nI n, m2, rfl, rfl, .inl ⟨nI_pos' (by omega), q1, d4, (q3.sub rfl).trans (d6.sub rfl), (q4.sub rfl).trans (d7.sub rfl), n, n1, rfl, rfl, fun z => absurd z d5⟩⟩
        by_cases ca : n < a
        · rw [if_pos (nI_lt ca (by omega))]
          exact res
        · rw [if_neg (nI_nlt (by omega) (by omega)), if_neg (nI_ge (by omega) (by omega))]
          exact res
    · obtain ⟨f, p, g1, g2, g3, g4, g5⟩ := F
      rw [if_pos rfl]
      have t400 : t = 400 := by
        rcases Nat.lt_or_ge t 400 with h | h
        · have := M_goesOn P h
          rw [e2] at this
          have := Option.some.inj this
          rw [this] at g5
          have z := (FM_13 g5).1
          rw [wI_j (by decide)] at z
          exact absurd P.2.2.2.2.2.2.1 z
        · omega
      have dead : ∀ m', AgrM sd m m' → m'.1 0 11 = m.1 0 11 → m'.1 0 13 = m.1 0 13 → m'.1 4 t = m.1 4 t → Ok (bX12_bounded_51 (nI n) m') (fun q => FM m0 sd f p q.2) := fun m' b0 b1 b2 b3 => by
        unfold bX12_bounded_51 fX12_goesOn
        unfold fX12_goesOn at e2
        rw [P.2.2.2.2.2.1, if_pos (by rw [t400]; rfl)] at e2
        rw [b1, P.2.2.2.2.2.1, if_pos (by rw [t400]; rfl)]
        unfold fX12_fail at e2 ⊢
        rw [P.2.2.2.2.2.2.1, if_pos (by decide), lt_q, wI_j (show (11 : Nat) ≠ 13 by decide), P.2.2.2.2.2.1, ck_of (nI_inb (show t < 403 by omega) (by decide)), nI_ix (by omega), lt_q, bv_q] at e2
        rw [b2, P.2.2.2.2.2.2.1, if_pos (by decide), lt_q, wI_j (show (11 : Nat) ≠ 13 by decide), b1, P.2.2.2.2.2.1, ck_of (nI_inb (show t < 403 by omega) (by decide)), nI_ix (by omega), lt_q, bv_q, bv_q, ok_some, wI_k (show (4 : Nat) ≠ 0 by decide), b3]
        have em := Option.some.inj e2
        rw [wI_k (show (4 : Nat) ≠ 0 by decide)] at em
        obtain ⟨y1, y2, y3, y4, y5⟩ := g5
        rw [← em] at y2 y4 y5
        refine ⟨((P.2.1.trans b0).wI (pw_0 rfl)).wI (pw_0 rfl), ?_, y3, ?_, ?_⟩
        · rw [wI_j (by decide), wI_s] at y2 ⊢; exact y2
        · rw [wI_s] at y4 ⊢; exact y4
        · rw [wI_j (by decide), wI_j (by decide)] at y5 ⊢; rw [b1]; exact y5
      have fin : ∀ o, Ok o (fun (q : Int32 × Hp) => FM m0 sd f p q.2) → R3 c0 m0 sd (some (-1, c1)) o (fun v x c1 m1 => t < 400 ∧ PB c0 m0 K kd sd (t + 1) c1 m1 ∧ Agr (W67 ++ W89) c c1 ∧ Agr (W11 ++ W156) m m1 ∧ ∃ n, n ≤ 9999 ∧ v = nI n ∧ x = nI n ∧ (c1.1 142 8 = 0 → c.1 142 8 = 0 ∧ a ≤ n ∧ n ≤ b)) := fun o ⟨⟨x, m'⟩, eo, F'⟩ => ⟨-1, c1, x, m', rfl, eo, .inr ⟨rfl, f, p, g1, g2, g3, g4, F'⟩⟩
      have d42 : Ok (bX12_bounded_42 (nI n) m) (fun q => FM m0 sd f p q.2) := by
        unfold bX12_bounded_42
        obtain ⟨_, m2, _, d2, _, d4, _, _, d7⟩ := mk_both X P (u := t) (f := 5) P.2.2.1 (by decide) (by decide)
        rw [P.2.2.2.2.2.1, show (5 : Int32) = nI 5 from rfl, d2, bv_q]
        exact dead m2 (AgrM.ag rfl d7) (d7.i 0 11 rfl) (d7.i 0 13 rfl) (d7.i 4 t rfl)
      refine fin _ ?_
      by_cases ca : nI n < nI a
      · rw [if_pos ca]; exact d42
      · rw [if_neg ca]
        by_cases cb : nI n ≤ nI b
        · rw [if_pos cb]; exact dead m .refl rfl rfl rfl
        · rw [if_neg cb]; exact d42
  · obtain ⟨w, c1, m1, e1, e2, h⟩ := tk_must X P (κ := 3) (by decide) (by decide)
    rw [decide_eq_false k3, if_pos (show b2 false = 0 from rfl), show (3 : Int32) = nI 3 from rfl, e1, bi_q]
    rcases h with ⟨_, k3', _⟩ | ⟨rfl, F⟩
    · exact absurd k3' k3
    · rw [if_pos rfl]
      unfold bX12_bounded_15
      have : fX12_fail 1 m = some m1 := by
        unfold fX12_must at e2
        rw [M_is X P (by decide), bi_q, decide_eq_false k3, if_pos (show b2 false = 0 from rfl), bv_id] at e2
        exact e2
      rw [this, bv_q]
      exact ⟨-1, c1, _, m1, rfl, rfl, .inr ⟨rfl, F⟩⟩
