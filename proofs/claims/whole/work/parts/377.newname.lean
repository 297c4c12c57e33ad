/-- a new name -/
def R2b (c0 m0 : Hp) (sd : Nat) (oc om : Option (Int32 × Hp)) (S : Int32 → Hp → Hp → Prop) : Prop := ∃ v c1 x m1, oc = some (v, c1) ∧ om = some (x, m1) ∧ ((v = 1 ∧ S x c1 m1) ∨ (v = 0 ∧ FF c0 m0 sd c1 m1))
theorem told_iff {np nc nl : Nat} {c m : Hp} {x y : Int64} (H : NmR np nc nl c m) (hx : nmR x y) : (∃ k, k < np + nc + nl ∧ m.2 8 k = y) ↔ ∃ s i, s < 3 ∧ i < cntN np nc nl s ∧ c.2 (143 + s) i = x := by
  obtain ⟨h0, es, h1, h2, h3⟩ := H
  constructor
  · rintro ⟨k, hk, e⟩
    obtain ⟨a1, a2, _, _, a5⟩ := h1 k hk
    exact ⟨(es k).1, (es k).2, a1, a2, (nmR_eq a5 hx).mpr e⟩
  · rintro ⟨s, i, hs, hi, e⟩
    obtain ⟨k, hk, ek⟩ := h2 s i hs hi
    obtain ⟨a1, a2, _, _, a5⟩ := h1 k hk
    refine ⟨k, hk, (nmR_eq a5 hx).mp ?_⟩
    rw [ek]; exact e
theorem fd_no {n : Nat} {p : Nat → Bool} (h : (List.range n).find? p = none) {i : Nat} (hi : i < n) : p i = false := by
  have := List.find?_eq_none.mp h i (List.mem_range.mpr hi)
  simpa using this
def newW (s : Nat) : Ws := (143 + s, none) :: (W67 ++ W89)
theorem tk_new {c0 m0 c m : Hp} {K sd t np nc nl s n : Nat} {kd pl : Nat → Nat} (X : CTX c0 m0 K kd pl sd) (P : PB c0 m0 K kd sd t c m) (N : NmR np nc nl c m) (hs : s < 3) (hnp : np ≤ 10) (hnc : nc ≤ 4) (hnl : nl ≤ 10) (q6 : c.1 125 6 = nI np) (q7 : c.1 125 7 = nI nc) (q9 : c.1 125 9 = nI nl) (hn : cntN np nc nl s < n) (h20 : n ≤ 20) : R2b c0 m0 sd (fX5_takeNewName (143 + s) n (nI (cntN np nc nl s)) c) (fX12_named m) (fun x c1 m1 => x = nI t ∧ kd t = 2 ∧ t < 400 ∧ PB c0 m0 K kd sd (t + 1) c1 m1 ∧ Agr (newW s) c c1 ∧ Agr (W11 ++ W156) m m1 ∧ c1.2 (143 + s) (cntN np nc nl s) = c.2 106 t ∧ (∀ i, i ≠ cntN np nc nl s → c1.2 (143 + s) i = c.2 (143 + s) i) ∧ (c1.1 142 8 = 0 → c.1 142 8 = 0)) := by
  have t4 : t < 401 := by have := P.2.2.1; have := X.1.2.1; omega
  have r := tk_row X P P.2.2.1
  obtain ⟨w, c1, m1, e1, e2, h⟩ := tk_must X P (κ := 2) (by decide) (by decide)
  unfold fX5_takeNewName fX12_named
  rw [P.2.2.2.1, ck_of (nI_inb t4 (by decide)), nI_ix (by omega), lt_q, lt_q, lt_q, show (2 : Int32) = nI 2 from rfl, e1, bi_q, show fX12_must 1 m = fX12_must (nI (kM 2)) m from rfl, e2, bv_q, lt_q, P.2.2.2.2.2.1]
  rcases h with ⟨rfl, k2, b1, b2, b3, b4⟩ | ⟨rfl, F⟩
  · have hx : nmR (c.2 106 t) (m1.2 6 t) := by rw [b4.l 6 t rfl]; exact r.2.2.2.2.2.2.2 k2
    have N1 : NmR np nc nl c1 m1 := NmR_w N (fun s i hs _ => by
      match s, hs with
      | 0, _ => exact b3.l 143 i rfl
      | 1, _ => exact b3.l 144 i rfl
      | 2, _ => exact b3.l 145 i rfl) ⟨b4.i 0 20 rfl, fun k => b4.i 9 k rfl, fun k => b4.i 10 k rfl, fun k => b4.l 8 k rfl⟩
    have ti := told_iff N1 hx
    -- what the class does behind
    have pwq : ∀ i, wm PWc (143 + s) i = true := fun i => by
      match s, hs with
      | 0, _ => rfl
      | 1, _ => rfl
      | 2, _ => rfl
    have dj : djw [(142, some 6), (142, some 7), (142, some 8), (142, some 9)] [(143 + s, none)] = true := by
      match s, hs with
      | 0, _ => rfl
      | 1, _ => rfl
      | 2, _ => rfl
    have sb : sbw [(143 + s, none)] PWc = true := by
      match s, hs with
      | 0, _ => rfl
      | 1, _ => rfl
      | 2, _ => rfl
    have nw : ∀ i, wm [(143 + s, none)] (143 + s) i = true := fun i => by unfold wm; simp
    have sb2 : sbw [(143 + s, none)] (newW s) = true := by unfold newW sbw; simp
    have sb3 : sbw W67 (newW s) = true := by
      match s, hs with
      | 0, _ => rfl
      | 1, _ => rfl
      | 2, _ => rfl
    have sb4 : sbw W89 (newW s) = true := by
      match s, hs with
      | 0, _ => rfl
      | 1, _ => rfl
      | 2, _ => rfl
    have last : ∀ (c2 m2 : Hp), PB c0 m0 K kd sd (t + 1) c2 m2 → Agr W89 c1 c2 → Agr W156 m1 m2 → (c2.1 142 8 = 0 → c.1 142 8 = 0) → R2b c0 m0 sd (bX5_takeNewName_102 (143 + s) n (nI (cntN np nc nl s)) (c.2 106 t) c2) (some (nI t, m2)) (fun x c1 m1 => x = nI t ∧ kd t = 2 ∧ t < 400 ∧ PB c0 m0 K kd sd (t + 1) c1 m1 ∧ Agr (newW s) c c1 ∧ Agr (W11 ++ W156) m m1 ∧ c1.2 (143 + s) (cntN np nc nl s) = c.2 106 t ∧ (∀ i, i ≠ cntN np nc nl s → c1.2 (143 + s) i = c.2 (143 + s) i) ∧ (c1.1 142 8 = 0 → c.1 142 8 = 0)) := fun c2 m2 P2 a2 am2 z2 => by
      unfold bX5_takeNewName_102
      rw [if_neg (show ¬ Int32.ofNat n ≤ nI (cntN np nc nl s) from nI_ge (b := n) hn (by omega)), ck_of (nI_inb hn (by omega)), nI_ix (by omega), lt_q, ck_of zb_1]
      have a3 : Agr [(143 + s, none)] c2 (wL c2 (143 + s) (cntN np nc nl s) (c.2 106 t)) := Agr.refl.wL (nw _)
      refine ⟨1, _, nI t, m2, rfl, rfl, .inl ⟨rfl, rfl, k2, b1, PB_w P2 a3 sb dj .refl ⟨rfl, rfl, rfl, rfl⟩, (b3.sub sb3).trans ((a2.sub sb4).trans (a3.sub sb2)), (b4.sub rfl).trans (am2.sub rfl), wL_s, fun i hi => ?_, z2⟩⟩
      rw [wL_j hi]
      match s, hs with
      | 0, _ => rw [a2.l 143 i rfl, b3.l 143 i rfl]
      | 1, _ => rw [a2.l 144 i rfl, b3.l 144 i rfl]
      | 2, _ => rw [a2.l 145 i rfl, b3.l 145 i rfl]
    obtain ⟨c2, m2, d1, d2, d3, d4, d5, d6, d7⟩ := mk_both X b2 (u := t) (f := 3) P.2.2.1 (by decide) (by decide)
    -- the model's loop
    have ml : lX12_named_12 FU (nI t) 0 m1 = some (nI t, if (List.range (np + nc + nl)).any (fun k => decide (m1.2 8 k = m1.2 6 t)) = true then m2 else m1) := by
      rw [← ok_eq]
      have n20 : m1.1 0 20 = nI (np + nc + nl) := N1.1
      refine up0 (fun f k (h : Hp) => lX12_named_12 f (nI t) (nI k) h) (np + nc + nl) (by omega) (fun k h => h = if (List.range k).any (fun k => decide (m1.2 8 k = m1.2 6 t)) = true then m2 else m1) m1 rfl ?_ ?_
      · rintro f h hh
        have h20 : h.1 0 20 = nI (np + nc + nl) := by
          rw [hh]; split
          · rw [d7.i 0 20 rfl]; exact n20
          · exact n20
        rw [lX12_named_12]
        simp only [bX12_named_12, h20, if_pos (nI_le (Nat.le_refl (np + nc + nl)) (show np + nc + nl < 2 ^ 31 by omega)), ok_some]
        rw [hh]
      · rintro f k h hk hh K'
        have o : h = m1 ∨ h = m2 := by rw [hh]; split <;> simp
        have h20 : h.1 0 20 = nI (np + nc + nl) := by
          rcases o with rfl | rfl
          · exact n20
          · rw [d7.i 0 20 rfl]; exact n20
        have h13 : h.1 0 13 = 0 := by
          rcases o with rfl | rfl
          · exact b2.2.2.2.2.2.2.1
          · exact d4.2.2.2.2.2.2.1
        have h8 : h.2 8 k = m1.2 8 k := by
          rcases o with rfl | rfl
          · rfl
          · exact d7.l 8 k rfl
        have h6 : h.2 6 t = m1.2 6 t := by
          rcases o with rfl | rfl
          · rfl
          · exact d7.l 6 t rfl
        have ham : fX12_amiss 3 (nI t) h = some m2 := by
          rcases o with rfl | rfl
          · exact d2
          · exact d3
        rw [lX12_named_12]
        simp only [bX12_named_12, bX12_named_49, h20, h13, if_neg (nI_ge hk (show np + nc + nl < 2 ^ 31 by omega)), ↓reduceIte, ck_of (nI_inb (show k < 24 by omega) (by decide)), ck_of (nI_inb (show t < 403 by omega) (by decide)), nI_ix (show k < 2 ^ 31 by omega), nI_ix (show t < 2 ^ 31 by omega), lg_cmp_eq, h8, h6, ham, bv_q, lt_q, nI_1]
        by_cases e : m1.2 8 k = m1.2 6 t
        · rw [if_pos e]
          refine K' m2 ?_
          rw [List.range_succ, List.any_append]
          simp [e]
        · rw [if_neg e]
          refine K' h ?_
          rw [hh, List.range_succ, List.any_append]
          simp [e]
    have anyT : (List.range (np + nc + nl)).any (fun k => decide (m1.2 8 k = m1.2 6 t)) = true ↔ ∃ s i, s < 3 ∧ i < cntN np nc nl s ∧ c1.2 (143 + s) i = c.2 106 t := by
      rw [← ti, List.any_eq_true]
      constructor
      · rintro ⟨k, hk, e⟩; exact ⟨k, List.mem_range.mp hk, of_decide_eq_true e⟩
      · rintro ⟨k, hk, e⟩; exact ⟨k, List.mem_range.mpr hk, decide_eq_true e⟩
    rw [if_neg (by decide), ml]
    have c6 : c1.1 125 6 = nI np := by rw [b3.i 125 6 rfl]; exact q6
    have c7 : c1.1 125 7 = nI nc := by rw [b3.i 125 7 rfl]; exact q7
    have c9 : c1.1 125 9 = nI nl := by rw [b3.i 125 9 rfl]; exact q9
    have yes : (∃ s i, s < 3 ∧ i < cntN np nc nl s ∧ c1.2 (143 + s) i = c.2 106 t) → R2b c0 m0 sd (bX5_takeNewName_83 (143 + s) n (nI (cntN np nc nl s)) (c.2 106 t) (nI t) c1) (some (nI t, if (List.range (np + nc + nl)).any (fun k => decide (m1.2 8 k = m1.2 6 t)) = true then m2 else m1)) (fun x c1 m1 => x = nI t ∧ kd t = 2 ∧ t < 400 ∧ PB c0 m0 K kd sd (t + 1) c1 m1 ∧ Agr (newW s) c c1 ∧ Agr (W11 ++ W156) m m1 ∧ c1.2 (143 + s) (cntN np nc nl s) = c.2 106 t ∧ (∀ i, i ≠ cntN np nc nl s → c1.2 (143 + s) i = c.2 (143 + s) i) ∧ (c1.1 142 8 = 0 → c.1 142 8 = 0)) := fun hy => by
      unfold bX5_takeNewName_83 bX5_takeNewName_88
      rw [if_pos (anyT.mpr hy), lt_q, if_neg (by decide), show (3 : Int32) = nI 3 from rfl, d1, bv_q]
      exact last c2 m2 d4 d6 d7 (fun z => absurd z d5)
    rw [c6, C_find hnp (by decide), bi_q]
    cases f0 : (List.range np).find? (fun i => decide (c1.2 143 i = c.2 106 t)) with
    | some i =>
      obtain ⟨i1, i2⟩ := find_lt f0
      rw [if_pos (show (0 : Int32) ≤ oI (some i) from nI_pos' (by omega))]
      exact yes ⟨0, i, by decide, i1, of_decide_eq_true i2⟩
    | none =>
      rw [if_neg (show ¬ (0 : Int32) ≤ oI none by decide), c7, C_find hnc (by decide), bi_q]
      cases f1 : (List.range nc).find? (fun i => decide (c1.2 144 i = c.2 106 t)) with
      | some i =>
        obtain ⟨i1, i2⟩ := find_lt f1
        rw [if_pos (show (0 : Int32) ≤ oI (some i) from nI_pos' (by omega))]
        exact yes ⟨1, i, by decide, i1, of_decide_eq_true i2⟩
      | none =>
        rw [if_neg (show ¬ (0 : Int32) ≤ oI none by decide), c9, C_find hnl (by decide), bi_q]
        cases f2 : (List.range nl).find? (fun i => decide (c1.2 145 i = c.2 106 t)) with
        | some i =>
          obtain ⟨i1, i2⟩ := find_lt f2
          rw [if_neg (show ¬ oI (some i) < 0 from nI_pos (by omega))]
          exact yes ⟨2, i, by decide, i1, of_decide_eq_true i2⟩
        | none =>
          rw [if_pos (show oI none < 0 by decide)]
          have no : ¬ (List.range (np + nc + nl)).any (fun k => decide (m1.2 8 k = m1.2 6 t)) = true := fun z => by
            obtain ⟨s', i, hs', hi, e⟩ := anyT.mp z
            match s', hs' with
            | 0, _ => exact absurd e (of_decide_eq_false (fd_no f0 hi))
            | 1, _ => exact absurd e (of_decide_eq_false (fd_no f1 hi))
            | 2, _ => exact absurd e (of_decide_eq_false (fd_no f2 hi))
          unfold bX5_takeNewName_88
          rw [if_neg no, lt_q, if_pos rfl]
          exact last c1 m1 b2 .refl .refl (fun z => by rw [← b3.i 142 8 rfl]; exact z)
  · obtain ⟨f, p, g1, g2, g3, g4, g5⟩ := F
    rw [if_pos rfl, ck_of zb_0, show FU = 19999 + 1 from rfl, lX12_named_12]
    simp only [bX12_named_12, if_neg (FM_13 g5).1, ite_self]
    exact ⟨0, c1, nI t, m1, rfl, rfl, .inr ⟨rfl, f, p, g1, g2, g3, g4, g5⟩⟩
