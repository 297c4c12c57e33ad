/-- names that were told -/
def cntN (np nc nl s : Nat) : Nat := if s = 0 then np else if s = 1 then nc else nl
def NmR (np nc nl : Nat) (c m : Hp) : Prop := m.1 0 20 = nI (np + nc + nl) ∧ ∃ es : Nat → Nat × Nat, (∀ k, k < np + nc + nl → (es k).1 < 3 ∧ (es k).2 < cntN np nc nl (es k).1 ∧ m.1 9 k = nI (es k).1 ∧ m.1 10 k = nI (es k).2 ∧ nmR (c.2 (143 + (es k).1) (es k).2) (m.2 8 k)) ∧ (∀ s i, s < 3 → i < cntN np nc nl s → ∃ k, k < np + nc + nl ∧ es k = (s, i)) ∧ ∀ k k', k < k' → k' < np + nc + nl → (es k).1 = (es k').1 → (es k).2 < (es k').2
theorem NmR_w {np nc nl : Nat} {c m c1 m1 : Hp} (H : NmR np nc nl c m) (ec : ∀ s i, s < 3 → i < cntN np nc nl s → c1.2 (143 + s) i = c.2 (143 + s) i) (em : m1.1 0 20 = m.1 0 20 ∧ (∀ k, m1.1 9 k = m.1 9 k) ∧ (∀ k, m1.1 10 k = m.1 10 k) ∧ ∀ k, m1.2 8 k = m.2 8 k) : NmR np nc nl c1 m1 := by
  obtain ⟨h0, es, h1, h2, h3⟩ := H
  refine ⟨by rw [em.1]; exact h0, es, fun k hk => ?_, h2, h3⟩
  obtain ⟨a1, a2, a3, a4, a5⟩ := h1 k hk
  exact ⟨a1, a2, by rw [em.2.1]; exact a3, by rw [em.2.2.1]; exact a4, by rw [ec _ _ a1 a2, em.2.2.2]; exact a5⟩
def oI (o : Option Nat) : Int32 := match o with
  | none => -1
  | some i => nI i
theorem C_find {q n cnt : Nat} {x : Int64} {c : Hp} (hn : cnt ≤ n) (h20 : n ≤ 20) : fX5_find q n (nI cnt) x c = some (oI ((List.range cnt).find? (fun i => decide (c.2 q i = x))), c) := by
  rw [← ok_eq]
  unfold fX5_find
  rw [lt_q]
  refine up0 (fun f i (_ : Unit) => lX5_find_3 q n f (nI cnt) x (nI i) c) cnt (by omega) (fun i _ => ∀ j, j < i → decide (c.2 q j = x) = false) () (fun j hj => absurd hj (by omega)) ?_ ?_
  · rintro f _ hI
    rw [lX5_find_3]
    simp only [bX5_find_3, if_pos (nI_le (Nat.le_refl cnt) (show cnt < 2 ^ 31 by omega)), ok_some]
    rw [fd_none hI]; rfl
  · rintro f i _ hi hI K
    rw [lX5_find_3]
    simp only [bX5_find_3, if_neg (nI_ge hi (show cnt < 2 ^ 31 by omega)), if_neg (show ¬ Int32.ofNat n ≤ nI i from nI_ge (b := n) (by omega) (by omega)), ck_of (nI_inb (show i < n by omega) (by omega)), nI_ix (show i < 2 ^ 31 by omega), lg_cmp_eq, lt_q, nI_1]
    by_cases c1 : c.2 q i = x
    · rw [if_pos c1, ok_some, fd_some hi hI (decide_eq_true c1)]; rfl
    · rw [if_neg c1]
      refine K () fun j hj => ?_
      by_cases e : j = i
      · subst e; exact decide_eq_false c1
      · exact hI j (by omega)
theorem M_find {np nc nl s u : Nat} {c m : Hp} {x : Int64} (H : NmR np nc nl c m) (h24 : np + nc + nl ≤ 24) (hs : s < 3) (hu : u < 403) (hx : nmR x (m.2 6 u)) : fX12_find (nI u) (nI s) m = some (oI ((List.range (cntN np nc nl s)).find? (fun i => decide (c.2 (143 + s) i = x))), m) := by
  obtain ⟨h0, es, h1, h2, h3⟩ := H
  rw [← ok_eq]
  unfold fX12_find
  rw [lt_q]
  have mt : ∀ k, k < np + nc + nl → (m.2 8 k = m.2 6 u ↔ c.2 (143 + (es k).1) (es k).2 = x) := fun k hk => (nmR_eq (h1 k hk).2.2.2.2 hx).symm
  refine up0 (fun f k (_ : Unit) => lX12_find_2 f (nI u) (nI s) (nI k) m) (np + nc + nl) (by omega) (fun k _ => ∀ k', k' < k → ¬ ((es k').1 = s ∧ m.2 8 k' = m.2 6 u)) () (fun j hj => absurd hj (by omega)) ?_ ?_
  · rintro f _ hI
    rw [lX12_find_2]
    simp only [bX12_find_2, h0, if_pos (nI_le (Nat.le_refl (np + nc + nl)) (show np + nc + nl < 2 ^ 31 by omega)), ok_some]
    rw [fd_none fun i hi => decide_eq_false fun e => by
      obtain ⟨k, hk, ek⟩ := h2 s i hs hi
      refine hI k hk ⟨by rw [ek], (mt k hk).mpr ?_⟩
      rw [ek]; exact e]
    rfl
  · rintro f k _ hk hI K
    obtain ⟨a1, a2, a3, a4, a5⟩ := h1 k hk
    have sk : ¬ ((es k).1 = s ∧ m.2 8 k = m.2 6 u) → Ok (lX12_find_2 f (nI u) (nI s) (nI (k + 1)) m) (fun p => p = (oI ((List.range (cntN np nc nl s)).find? (fun i => decide (c.2 (143 + s) i = x))), m)) := fun hn => K () fun k' hk' => by
      by_cases e : k' = k
      · subst e; exact hn
      · exact hI k' (by omega)
    rw [lX12_find_2]
    simp only [bX12_find_2, bX12_find_43, h0, if_neg (nI_ge hk (show np + nc + nl < 2 ^ 31 by omega)), ck_of (nI_inb (show k < 24 by omega) (by decide)), ck_of (nI_inb hu (by decide)), nI_ix (show k < 2 ^ 31 by omega), nI_ix (show u < 2 ^ 31 by omega), lg_cmp_eq, a3, a4, lt_q, nI_1]
    by_cases c1 : m.2 8 k = m.2 6 u
    · rw [if_pos c1]
      by_cases c2 : (es k).1 = s
      · rw [if_pos (by rw [c2]), ok_some]
        have hi : (es k).2 < cntN np nc nl s := by rw [← c2]; exact a2
        rw [fd_some hi (fun i hi' => decide_eq_false fun e => by
          obtain ⟨k', hk', ek⟩ := h2 s i hs (by omega)
          have lt : k' < k := by
            rcases Nat.lt_trichotomy k' k with h | h | h
            · exact h
            · subst h; rw [ek] at hi'; exact absurd hi' (by simp)
            · have := h3 k k' h hk' (by rw [c2, ek])
              rw [ek] at this
              simp only at this
              omega
          refine hI k' lt ⟨by rw [ek], (mt k' hk').mpr ?_⟩
          rw [ek]; exact e) (decide_eq_true (by have := (mt k hk).mp c1; rwa [c2] at this))]
        rfl
      · rw [if_neg (fun e => c2 (nI_inj (by omega) (by omega) e))]
        exact sk fun h => c2 h.1
    · rw [if_neg c1]
      exact sk fun h => c1 h.2
theorem find_lt {n : Nat} {p : Nat → Bool} {i : Nat} (h : (List.range n).find? p = some i) : i < n ∧ p i = true := fd_el h
/-- the name of one told ahead -/
theorem tk_told {c0 m0 c m : Hp} {K sd t np nc nl s n : Nat} {kd pl : Nat → Nat} (X : CTX c0 m0 K kd pl sd) (P : PB c0 m0 K kd sd t c m) (N : NmR np nc nl c m) (hs : s < 3) (hn : cntN np nc nl s ≤ n) (hn0 : 0 < n) (h20 : n ≤ 20) (h24 : np + nc + nl ≤ 24) : R3 c0 m0 sd (fX5_takeTold (143 + s) n (nI (cntN np nc nl s)) c) (fX12_known (nI s) m) (fun v x c1 m1 => t < 400 ∧ PB c0 m0 K kd sd (t + 1) c1 m1 ∧ Agr (W67 ++ W89) c c1 ∧ Agr (W11 ++ W156) m m1 ∧ (∃ i, i < n ∧ v = nI i) ∧ (c1.1 142 8 = 0 → c.1 142 8 = 0 ∧ x = v ∧ ∃ i, i < cntN np nc nl s ∧ v = nI i)) := by
  have t4 : t < 401 := by have := P.2.2.1; have := X.1.2.1; omega
  have r := tk_row X P P.2.2.1
  obtain ⟨w, c1, m1, e1, e2, h⟩ := tk_must X P (κ := 2) (by decide) (by decide)
  unfold fX5_takeTold fX12_known
  rw [P.2.2.2.1, ck_of (nI_inb t4 (by decide)), nI_ix (by omega), lt_q, lt_q, lt_q, show (2 : Int32) = nI 2 from rfl, e1, bi_q, show fX12_must 1 m = fX12_must (nI (kM 2)) m from rfl, e2, bv_q, P.2.2.2.2.2.1]
  rcases h with ⟨rfl, k2, q1, q2, q3, q4⟩ | ⟨rfl, F⟩
  · have hx : nmR (c.2 106 t) (m1.2 6 t) := by rw [q4.l 6 t rfl]; exact r.2.2.2.2.2.2.2 k2
    have N1 : NmR np nc nl c1 m1 := NmR_w N (fun s i hs _ => by
      match s, hs with
      | 0, _ => exact q3.l 143 i rfl
      | 1, _ => exact q3.l 144 i rfl
      | 2, _ => exact q3.l 145 i rfl) ⟨q4.i 0 20 rfl, fun k => q4.i 9 k rfl, fun k => q4.i 10 k rfl, fun k => q4.l 8 k rfl⟩
    rw [if_neg (by decide), C_find hn h20, bi_q, lt_q, if_pos (show m1.1 0 13 ≤ 0 by rw [q2.2.2.2.2.2.2.1]; decide), M_find N1 h24 hs (by omega) hx, bi_q, lt_q]
    cases ho : (List.range (cntN np nc nl s)).find? (fun i => decide (c1.2 (143 + s) i = c.2 106 t)) with
    | none =>
      obtain ⟨c2, m2, d1, d2, _, d4, d5, d6, d7⟩ := mk_both X q2 (u := t) (f := 4) P.2.2.1 (by decide) (by decide)
      show R3 c0 m0 sd (if (0 : Int32) ≤ -1 then _ else _) (if (-1 : Int32) = -1 then _ else _) _
      rw [if_neg (by decide), if_pos rfl, show (4 : Int32) = nI 4 from rfl, d1, d2, bv_q, bv_q]
      refine ⟨0, c2, -1, m2, rfl, rfl, .inl ⟨by decide, q1, d4, (q3.sub rfl).trans (d6.sub rfl), (q4.sub rfl).trans (d7.sub rfl), ⟨0, hn0, rfl⟩, fun z => absurd z d5⟩⟩
    | some i =>
      obtain ⟨i1, _⟩ := find_lt ho
      show R3 c0 m0 sd (if (0 : Int32) ≤ nI i then _ else _) (if nI i = -1 then _ else _) _
      have ne : ¬ nI i = (-1 : Int32) := fun z => by
        have := nI_pos' (show i < 2 ^ 31 by omega)
        rw [z] at this
        exact absurd this (by decide)
      rw [if_pos (nI_pos' (by omega)), if_neg ne]
      exact ⟨nI i, c1, nI i, m1, rfl, rfl, .inl ⟨nI_pos' (by omega), q1, q2, q3.sub rfl, q4.sub rfl, ⟨i, by omega, rfl⟩, fun z => ⟨by rw [← q3.i 142 8 rfl]; exact z, rfl, i, i1, rfl⟩⟩⟩
  · obtain ⟨f, p, g1, g2, g3, g4, g5⟩ := F
    rw [if_pos rfl, if_neg (FM_13 g5).2.1]
    exact ⟨-1, c1, -1, m1, rfl, rfl, .inr ⟨rfl, f, p, g1, g2, g3, g4, g5⟩⟩
