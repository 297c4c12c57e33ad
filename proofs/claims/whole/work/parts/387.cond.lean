/-- literals and conditions, both -/
theorem lit_loop {c0 m0 cS mS : Hp} {K sd t0 cs cd ln sl np nc nl : Nat} {kd pl : Nat → Nat} {o : Bool} (X : CTX c0 m0 K kd pl sd) (h24 : np + nc + nl ≤ 24) (hnp : np ≤ 10) : ∀ (n t i : Nat) (tn : Bool) (c m : Hp) (fc fm : Nat), 401 - t ≤ n → LSt c0 m0 K kd sd t cs cd ln c m → cs + sl + (if tn = true then 1 else 0) + 1 ≤ t → 3 * ln + 1 ≤ t → NmR np nc nl c m → c.1 125 6 = nI np → i ≤ t → t0 ≤ t → n < fc → n < fm → frC cs cS c → frM sd cd ln mS m → (c.1 142 8 = 0 → cS.1 142 8 = 0) → R2 c0 m0 sd (lX5_literal_4 fc (b2 tn) (nI i) c) (lX12_literal_2 fm (b2 o) (b2 tn) m) (litOk c0 m0 K kd sd t0 cs cd ln sl np o cS mS) := by
  intro n
  induction n with
  | zero =>
    intro t i tn c m fc fm hn L
    have := L.1.2.2.1; have := X.1.2.1; omega
  | succ n ih =>
    intro t i tn c m fc fm hn L hc hl N q6 hi ht h1 h2 frc frm z0
    obtain ⟨gc, rfl⟩ : ∃ g, fc = g + 1 := ⟨fc - 1, by omega⟩
    obtain ⟨gm, rfl⟩ : ∃ g, fm = g + 1 := ⟨fm - 1, by omega⟩
    have P := L.1
    have t4 : t < 401 := by have := P.2.2.1; have := X.1.2.1; omega
    have r := tk_row X P P.2.2.1
    have k34 : kd t < 34 := by have := r.1; omega
    rw [lX5_literal_4, lX12_literal_2]
    unfold bX5_literal_4
    rw [if_neg (show ¬ (400 : Int32) < nI i from nI_nlt (a := 400) (by omega) (by decide)), P.2.2.2.2.1]
    by_cases k27 : kd t = 27
    · rw [if_pos (show nI (kd t) = (27 : Int32) by rw [k27]; rfl)]
      unfold bX12_literal_2 bX12_literal_20 bX5_literal_40
      rw [show fX12_is 31 m = fX12_is (nI (kM 27)) m from rfl, M_is X P (by decide), decide_eq_true k27, bi_q, if_neg (show ¬ b2 true = 0 by decide)]
      have mm : (if b2 tn = 0 then lt 1 (fun v1 => bv (fX12_goesOn m) (fun h2 => lX12_literal_2 gm (b2 o) v1 h2)) else lt 0 (fun v1 => bv (fX12_goesOn m) (fun h2 => lX12_literal_2 gm (b2 o) v1 h2))) = bv (fX12_goesOn m) (fun h2 => lX12_literal_2 gm (b2 o) (b2 (!tn)) h2) := by cases tn <;> rfl
      have cc : ∀ h : Hp, (if b2 tn = 0 then lt 1 (fun v1 => lt (nI i + 1) (fun v2 => lX5_literal_4 gc v1 v2 h)) else lt 0 (fun v1 => lt (nI i + 1) (fun v2 => lX5_literal_4 gc v1 v2 h))) = lX5_literal_4 gc (b2 (!tn)) (nI (i + 1)) h := fun h => by
        rw [nI_1]
        cases tn <;> rfl
      simp only [cc]
      rw [mm]
      have st := tk_goes X P k27 (by decide)
      rw [show nI 27 = (27 : Int32) from rfl] at st
      refine R2_seq st ?_ ?_
      · rintro c1 m1 ⟨b1, b2', b3, b4⟩
        refine ih (t + 1) (i + 1) (!tn) c1 m1 gc gm (by omega) ⟨b2', by rw [b4.i 0 12 rfl]; exact L.2.1, by rw [b3.i 125 11 rfl]; exact L.2.2.1, by rw [b4.i 0 49 rfl]; exact L.2.2.2.1, by rw [b4.i 0 42 rfl]; exact L.2.2.2.2.1, L.2.2.2.2.2⟩ ?_ (by omega) (NmR_f (cs := cs) (sd := sd) (cd := cd) (ln := ln) N (frC_a b3 rfl rfl) (frM_a b4 rfl rfl)) (by rw [b3.i 125 6 rfl]; exact q6) (by omega) (by omega) (by omega) (by omega) (frc.trans (frC_a b3 rfl rfl) (Nat.le_refl _)) (frm.trans (frM_a b4 rfl rfl) (Nat.le_refl _) (Nat.le_refl _)) (fun z => z0 (by rw [← b3.i 142 8 rfl]; exact z))
        cases tn
        · show cs + sl + 1 + 1 ≤ t + 1
          have : cs + sl + 0 + 1 ≤ t := hc
          omega
        · show cs + sl + 0 + 1 ≤ t + 1
          have : cs + sl + 1 + 1 ≤ t := hc
          omega
      · intro f p m1 F
        obtain ⟨g, rfl⟩ : ∃ g, gm = g + 1 := ⟨gm - 1, by omega⟩
        exact D_lit F g _ _
    · rw [if_neg (show ¬ nI (kd t) = (27 : Int32) from fun z => k27 (nI_inj (b := 27) (by omega) (by decide) z))]
      exact lit_47 (g := 0) X L hc hl N h24 hnp q6 ht frc frm z0 k27
theorem literal_both {c0 m0 c m : Hp} {K sd t cs cd ln sl np nc nl : Nat} {kd pl : Nat → Nat} {o : Bool} (X : CTX c0 m0 K kd pl sd) (h24 : np + nc + nl ≤ 24) (hnp : np ≤ 10) (L : LSt c0 m0 K kd sd t cs cd ln c m) (hc : cs + sl + 1 ≤ t) (hl : 3 * ln + 1 ≤ t) (N : NmR np nc nl c m) (q6 : c.1 125 6 = nI np) : R2 c0 m0 sd (fX5_literal c) (fX12_literal (b2 o) m) (litOk c0 m0 K kd sd t cs cd ln sl np o c m) := by
  unfold fX5_literal fX12_literal
  rw [lt_q, lt_q, lt_q]
  exact lit_loop X h24 hnp 401 t 0 false c m FU FU (by omega) L (by show cs + sl + 0 + 1 ≤ t; omega) hl N q6 (by omega) (Nat.le_refl _) (by decide) (by decide) .refl .refl id
/-- conditions: the code without the last or -/
def cndP : List Lit → Bool → Cd
  | [], _ => []
  | x :: r, ow => if x.1.2.2.1 = true then (if ow = true then [(25, 0)] else []) ++ (litW x ++ cndP r true) else litW x ++ ([(26, 0)] ++ cndP r ow)
def cndO (r : List Lit) (ow : Bool) : Bool := ow || r.any (fun x => x.1.2.2.1)
theorem cndO_c {x : Lit} {r : List Lit} {ow : Bool} : cndO (x :: r) ow = cndO r (x.1.2.2.1 || ow) := by
  unfold cndO
  rw [List.any_cons, ← Bool.or_assoc, Bool.or_comm ow]
theorem cnd_PW : ∀ {r : List Lit} {ow : Bool}, cndW r ow = cndP r ow ++ (if cndO r ow = true then [(25, 0)] else [])
  | [], ow => by
    unfold cndO
    rw [cndW, cndP, List.any_nil, Bool.or_false, List.nil_append]
  | x :: r, ow => by
    rw [cndW, cndP, cndO_c]
    cases h : x.1.2.2.1
    · rw [if_neg (by decide), if_neg (by decide), cnd_PW (r := r) (ow := ow), Bool.false_or, List.append_assoc, List.append_assoc]
    · rw [if_pos rfl, if_pos rfl, cnd_PW (r := r) (ow := true), Bool.true_or, List.append_assoc, List.append_assoc]
theorem cndP_s {x : Lit} : ∀ {r : List Lit} {ow : Bool}, cndP (r ++ [x]) ow = cndP r ow ++ (if x.1.2.2.1 = true then (if cndO r ow = true then [(25, 0)] else []) ++ litW x else litW x ++ [(26, 0)])
  | [], ow => by
    rw [List.nil_append, cndP, cndP, cndP, List.nil_append]
    unfold cndO
    rw [List.any_nil, Bool.or_false]
    cases x.1.2.2.1
    · rw [if_neg (by decide), if_neg (by decide)]; rfl
    · rw [if_pos rfl, if_pos rfl]
      show (if ow = true then [(25, 0)] else []) ++ (litW x ++ []) = _
      rw [List.append_nil]
  | y :: r, ow => by
    rw [List.cons_append, cndP, cndP, cndO_c]
    cases h : y.1.2.2.1
    · rw [if_neg (by decide), if_neg (by decide), cndP_s (r := r) (ow := ow), Bool.false_or, List.append_assoc, List.append_assoc]
    · rw [if_pos rfl, if_pos rfl, cndP_s (r := r) (ow := true), Bool.true_or, List.append_assoc, List.append_assoc]
theorem cndO_s {x : Lit} {r : List Lit} {ow : Bool} : cndO (r ++ [x]) ow = (cndO r ow || x.1.2.2.1) := by
  unfold cndO
  rw [List.any_append, List.any_cons, List.any_nil, Bool.or_false, Bool.or_assoc]
