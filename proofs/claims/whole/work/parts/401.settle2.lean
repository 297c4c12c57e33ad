/-- one letter's asking is settled, both -/
theorem W7_al {c c2 : Hp} {q k : Nat} (A : Agr W7 c c2) : c2.2 q k = c.2 q k ∨ wm W7 q k = true := by
  cases h : wm W7 q k
  · exact .inl (A q k h).2
  · exact .inr rfl
theorem fnd_w {nl v : Nat} {c c2 : Hp} (A : Agr W7 c c2) : fnd nl c2 v = fnd nl c v := by
  unfold fnd
  have e : (fun i => decide (c2.2 145 i = c2.2 106 v)) = fun i => decide (c.2 145 i = c.2 106 v) := funext fun i => by rw [A.l 145 i rfl, A.l 106 v rfl]
  rw [e]
theorem NmR_7 {np nc nl : Nat} {c m c2 m2 : Hp} (N : NmR np nc nl c m) (A : Agr W7 c c2) (B : Agr W32 m m2) : NmR np nc nl c2 m2 := NmR_a N A B rfl rfl
/-- one letter that is asked for, both -/
theorem read_both {c0 m0 c m : Hp} {K sd t np nc nl l j i acc v : Nat} {kd pl : Nat → Nat} {g : Nat → Option Nat} (X : CTX c0 m0 K kd pl sd) (hl : l < 10) (hnl : nl ≤ 10) (h24 : np + nc + nl ≤ 24) (hj : j < 400) (hi1 : 150 * sd ≤ i) (hi2 : i < 150 * sd + 150) (q9 : c.1 125 9 = nI nl) (hw : c.1 129 j = nI (29 + 256 * v)) (h32 : m.1 32 i = nI v) (vK : v < K) (k2 : kd v = 2) (hg : ∀ v, fnd nl c v = g v) (P : PB c0 m0 K kd sd t c m) (N : NmR np nc nl c m) (ha : c.1 (132 + l) 7 = nI acc) (h10 : acc < 2 ^ 10) : ∃ c2 m2 acc', fX5_settleRead (132 + l) (nI j) c = some c2 ∧ (∀ r9 : Int32 → Hp → Option Hp, m.1 0 42 = m.1 0 42 → ck (inb (nI i) 300) (lt (m.1 32 (ix (nI i))) (fun v1 => bi (fX12_find v1 2 m) (fun w3 h2 => ck (inb (nI i) 300) (lt (wI h2 32 (ix (nI i)) w3) (fun h4 => ck (inb (nI i) 300) ((if (h4.1 32 (ix (nI i))) = (-1) then bv (fX12_amiss 4 v1 h4) (fun h5 => bX12_findsRead_65 r9 (nI i) h5) else bX12_findsRead_65 r9 (nI i) h4))))))) = r9 (nI (i + 1)) m2) ∧ PB c0 m0 K kd sd t c2 m2 ∧ Agr W7 c c2 ∧ Agr W32 m m2 ∧ (∀ q, q ≠ j → c2.1 129 q = c.1 129 q) ∧ (∀ q, q ≠ i → m2.1 32 q = m.1 32 q) ∧ (∀ q, q < 10 → q ≠ l → c2.1 (132 + q) 7 = c.1 (132 + q) 7) ∧ c2.1 (132 + l) 7 = nI acc' ∧ acc' < 2 ^ 10 ∧ (c2.1 142 8 = 0 → c.1 142 8 = 0 ∧ c2.1 129 j = nI (29 + 256 * ag g v) ∧ m2.1 32 i = nI (ag g v) ∧ ag g v < nl ∧ acc' = acc ||| 2 ^ ag g v) := by
  have s2 := X.2.2
  have v4 : v < 401 := by have := X.1.2.1; omega
  have rv := tk_row X P vK
  have hx : nmR (c.2 106 v) (m.2 6 v) := rv.2.2.2.2.2.2.2 k2
  have hf : (List.range nl).find? (fun i => decide (c.2 145 i = c.2 106 v)) = g v := hg v
  have mf := M_find (s := 2) (u := v) N h24 (by decide) (by omega) hx
  rw [show cntN np nc nl 2 = nl from rfl, show (143 + 2 : Nat) = 145 from rfl, hf, show nI 2 = (2 : Int32) from rfl] at mf
  have cf := C_find (q := 145) (n := 10) (cnt := nl) (x := c.2 106 v) (c := c) hnl (by decide)
  rw [hf] at cf
  have pk : pwm sd 32 i = true := by
    have := pw_150 (sd := sd) (k := 32) (j := i - 150 * sd) rfl (by omega)
    rwa [show 150 * sd + (i - 150 * sd) = i by omega] at this
  have rw1 : rng (nI v) 0 400 = true := by
    unfold rng
    simp only [decide_eq_true (nI_pos' (show v < 2 ^ 31 by omega)), decide_eq_true (show nI v ≤ (400 : Int32) from nI_le (b := 400) (by omega) (by decide)), Bool.and_self]
  simp only [fX5_settleRead, ck_of (nI_inb hj (by decide)), nI_ix (show j < 2 ^ 31 by omega), hw, w_ar (show 29 < 256 by decide) (show v < 2 ^ 20 by omega), lt_q, C_within, bi_q, rw1, if_neg (show ¬ b2 true = 0 by decide), ck_of (nI_inb (show v < 401 by omega) (by decide)), nI_ix (show v < 2 ^ 31 by omega), q9, cf, ck_of (nI_inb (show i < 300 by omega) (by decide)), nI_ix (show i < 2 ^ 31 by omega), h32, mf, wI_s, bX12_findsRead_65, nI_1]
  cases ho : g v with
  | none =>
    have P' : PB c0 m0 K kd sd t c (wI m 32 i (-1)) := PB_w P (W := []) .refl rfl rfl (AgrM.refl.wI pk) ⟨wI_k (by decide), wI_k (by decide), wI_k (by decide), wI_k (by decide)⟩
    obtain ⟨c2, m2, d1, d2, _, d4, d5, d6, d7⟩ := mk_both X P' (u := v) (f := 4) vK (by decide) (by decide)
    rw [show nI 4 = (4 : Int32) from rfl] at d1 d2
    refine ⟨c2, m2, acc, ?_, fun r9 _ => ?_, d4, d6.sub rfl, (Agr.refl.wI rfl : Agr W32 m (wI m 32 i (-1))).trans (d7.sub rfl), fun q _ => d6.i 129 q rfl, fun q hq => ?_, fun q hq _ => ?_, ?_, h10, fun z => absurd z d5⟩
    · show (if (0 : Int32) ≤ -1 then _ else _) = _
      rw [if_neg (by decide), d1, bv_q]
    · show (if (-1 : Int32) = -1 then bv (fX12_amiss 4 (nI v) (wI m 32 i (-1))) _ else _) = _
      rw [if_pos rfl, d2, bv_q]
    · rw [d7.i 32 q rfl, wI_j hq]
    · have : wm W89 (132 + q) 7 = false := by
        match q, hq with
        | 0, _ => rfl
        | 1, _ => rfl
        | 2, _ => rfl
        | 3, _ => rfl
        | 4, _ => rfl
        | 5, _ => rfl
        | 6, _ => rfl
        | 7, _ => rfl
        | 8, _ => rfl
        | 9, _ => rfl
      exact d6.i _ 7 this
    · have : wm W89 (132 + l) 7 = false := by
        match l, hl with
        | 0, _ => rfl
        | 1, _ => rfl
        | 2, _ => rfl
        | 3, _ => rfl
        | 4, _ => rfl
        | 5, _ => rfl
        | 6, _ => rfl
        | 7, _ => rfl
        | 8, _ => rfl
        | 9, _ => rfl
      rw [d6.i _ 7 this]; exact ha
  | some q =>
    have hq : q < nl := (find_lt (by rw [hf, ho])).1
    have av : ag g v = q := by unfold ag; rw [ho]; rfl
    have ne : ¬ nI q = (-1 : Int32) := fun z => by
      have := nI_pos' (show q < 2 ^ 31 by omega)
      rw [z] at this
      exact absurd this (by decide)
    have eo : nI acc ||| ((1 : Int32) <<< (nI q &&& 31)) = nI (acc ||| 2 ^ q) := by
      rw [s1l q (by omega)]
      apply bit_ext
      intro b hb
      rw [bit_or hb, bit_nI hb, bit_nI hb, bit_nI hb, Nat.testBit_or]
    have A1 : Agr W7a c (wI (wI c 129 j (nI (29 + 256 * q))) (132 + l) 7 (nI (acc ||| 2 ^ q))) := (Agr.refl.wI rfl).wI (wm_7 hl)
    refine ⟨wI (wI c 129 j (nI (29 + 256 * q))) (132 + l) 7 (nI (acc ||| 2 ^ q)), wI m 32 i (nI q), acc ||| 2 ^ q, ?_, fun r9 _ => ?_, PB_w P A1 rfl rfl (AgrM.refl.wI pk) ⟨wI_k (by decide), wI_k (by decide), wI_k (by decide), wI_k (by decide)⟩, A1.sub rfl, Agr.refl.wI rfl, fun q' hq' => ?_, fun q' hq' => wI_j hq', fun q' _ hq' => ?_, wI_s, Nat.or_lt_two_pow h10 (Nat.pow_lt_pow_right (by decide) (by omega)), fun z => ?_⟩
    · show (if (0 : Int32) ≤ nI q then _ else _) = _
      have e29 : (29 : Int32) ||| (nI q <<< ((8 : Int32) &&& 31)) = nI (29 + 256 * q) := em_w (o := 29) (by decide)
      rw [if_pos (nI_pos' (by omega))]
      show some (wI (wI c 129 j ((29 : Int32) ||| (nI q <<< ((8 : Int32) &&& 31)))) (132 + l) 7 ((wI c 129 j ((29 : Int32) ||| (nI q <<< ((8 : Int32) &&& 31)))).1 (132 + l) 7 ||| ((1 : Int32) <<< (nI q &&& 31)))) = _
      rw [e29, wI_k (by omega), ha, eo]
    · show (if nI q = -1 then _ else r9 (nI (i + 1)) (wI m 32 i (nI q))) = _
      rw [if_neg ne]
    · rw [wI_k (by omega), wI_j hq']
    · rw [wI_k (by omega), wI_k (by omega)]
    · have e8 : (wI (wI c 129 j (nI (29 + 256 * q))) (132 + l) 7 (nI (acc ||| 2 ^ q))).1 142 8 = c.1 142 8 := by rw [wI_k (by omega), wI_k (by omega)]
      rw [e8] at z
      rw [av]
      exact ⟨z, by rw [wI_k (by omega), wI_s], wI_s, hq, rfl⟩
