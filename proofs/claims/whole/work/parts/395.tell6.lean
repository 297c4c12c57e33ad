/-- letters are told: the end -/
theorem wo_l {W : Ws} {nl j : Nat} (hnl : nl < 10) (h : ∀ l, l < 10 → wm W (132 + l) j = false) : wm W (132 + nl) j = false := h nl hnl
theorem bv_as {o : Option Hp} {f g : Hp → Option Hp} : bv (bv o f) g = bv o (fun h => bv (f h) g) := by cases o <;> rfl
theorem TL_i {nl k j : Nat} {c c1 : Hp} (a : Agr (TL nl) c c1) (hk : k < 132 ∨ 142 ≤ k) (hnl : nl < 10) (h : wm TL0 k j = false) : c1.1 k j = c.1 k j ∧ c1.2 k j = c.2 k j := a k j (by unfold TL; rw [wm_ne (by omega)]; exact h)
theorem TL_o {nl l j : Nat} {c c1 : Hp} (a : Agr (TL nl) c c1) (hl : l < 10) (hne : l ≠ nl) : c1.1 (132 + l) j = c.1 (132 + l) j := (a _ j (by
  unfold TL
  rw [wm_ne (by omega)]
  match l, hl with
  | 0, _ => rfl
  | 1, _ => rfl
  | 2, _ => rfl
  | 3, _ => rfl
  | 4, _ => rfl
  | 5, _ => rfl
  | 6, _ => rfl
  | 7, _ => rfl
  | 8, _ => rfl
  | 9, _ => rfl)).1
theorem W67_o {nl j : Nat} {c c1 : Hp} (a : Agr W67 c c1) (hnl : nl < 10) : c1.1 (132 + nl) j = c.1 (132 + nl) j := (a _ j (by
  match nl, hnl with
  | 0, _ => rfl
  | 1, _ => rfl
  | 2, _ => rfl
  | 3, _ => rfl
  | 4, _ => rfl
  | 5, _ => rfl
  | 6, _ => rfl
  | 7, _ => rfl
  | 8, _ => rfl
  | 9, _ => rfl)).1
theorem W69_o {nl j : Nat} {c c1 : Hp} (a : Agr (W67 ++ W89) c c1) (hnl : nl < 10) : c1.1 (132 + nl) j = c.1 (132 + nl) j := (a _ j (by
  match nl, hnl with
  | 0, _ => rfl
  | 1, _ => rfl
  | 2, _ => rfl
  | 3, _ => rfl
  | 4, _ => rfl
  | 5, _ => rfl
  | 6, _ => rfl
  | 7, _ => rfl
  | 8, _ => rfl
  | 9, _ => rfl)).1
/-- rows of other letters -/
def lrow (sd nl : Nat) (m m1 : Hp) : Prop := ∀ l, l < nl → ∀ k, ltk k = true → m1.1 k (10 * sd + l) = m.1 k (10 * sd + l)
theorem lrow_w {sd nl k : Nat} {m m1 : Hp} {v : Int32} (h : lrow sd nl m m1) : lrow sd nl m (wI m1 k (10 * sd + nl) v) := fun l hl k' hk' => by
  rw [wI_j (by omega)]; exact h l hl k' hk'
theorem lrow_a {sd nl : Nat} {m m1 m2 : Hp} {W : Ws} (h : lrow sd nl m m1) (a : Agr W m1 m2) (hd : djw [(18, none), (19, none), (20, none), (21, none), (22, none), (23, none), (24, none)] W = true) : lrow sd nl m m2 := fun l hl k hk => by
  have : wm [(18, none), (19, none), (20, none), (21, none), (22, none), (23, none), (24, none)] k (10 * sd + l) = true := by
    unfold ltk at hk
    simp at hk
    rcases hk with rfl | rfl | rfl | rfl | rfl | rfl | rfl <;> rfl
  rw [(a k _ (djw_wm hd this)).1]; exact h l hl k hk
theorem letter_end {c0 m0 c m cX mX : Hp} {K sd t t1 np nc nb nl cs cd ln cs1 cd1 ln1 : Nat} {kd pl : Nat → Nat} {A : Nat → Option Cd} {Ls : Nat → List Lit} {as bs : Nat → Nat} (ls : List Lit) (X : CTX c0 m0 K kd pl sd) (T : TSt c0 m0 K kd sd t np nc nb nl cs cd ln A Ls as bs c m) (hnl : nl < 10) (ht : t < t1) (tn : t + 1 < K) (k2 : kd (t + 1) = 2)
    (E1 : LSt c0 m0 K kd sd t1 cs1 cd1 ln1 cX mX) (hc1 : cs1 ≤ t1) (hl1 : 3 * ln1 ≤ t1) (N1 : NmR np nc nl cX mX) (aC : Agr (TL nl) c cX) (p129 : ∀ j, j < cs → cX.1 129 j = c.1 129 j) (q9 : cX.1 125 9 = nI (nl + 1)) (n145 : cX.2 145 nl = c.2 106 (t + 1)) (aM : Agr TLm m mX) (fT : frT sd cd ln m mX) (lr : lrow sd nl m mX) (hcs : cs1 = cs + (letW ls).length) (hcd : cd ≤ cd1) (hln : ln1 = ln + ls.length) (cw : cwG cX cs (letW ls)) (f5 : cX.1 (132 + nl) 5 = nI cs) (f23 : mX.1 23 (10 * sd + nl) = nI (150 * sd + ln)) (fo : ∀ x r, ls = x :: r → x.1.2.2.1 = true) (ok : ∀ y, y ∈ ls → okL y ∧ y.1.2.2.2 < 401) (lt' : lsT K kd sd np cd1 (cX.1 142 8 = 0) mX (150 * sd + ln) ls) (uu : cX.1 142 8 = 0 → c.1 142 8 = 0)
    (fl : cX.1 142 8 = 0 → cX.1 (132 + nl) 0 = mX.1 18 (10 * sd + nl) ∧ cX.1 (132 + nl) 1 = mX.1 19 (10 * sd + nl) ∧ cX.1 (132 + nl) 2 = mX.1 20 (10 * sd + nl) ∧ cX.1 (132 + nl) 3 = mX.1 21 (10 * sd + nl) ∧ cX.1 (132 + nl) 4 = mX.1 22 (10 * sd + nl) ∧ (∃ w, w < np ∧ mX.1 18 (10 * sd + nl) = nI w) ∧ (∃ w, w < np ∧ mX.1 19 (10 * sd + nl) = nI w) ∧ ∃ s, s < 4 ∧ mX.1 20 (10 * sd + nl) = nI s) :
    R2 c0 m0 sd (bX5_tellLetter_178 (132 + nl) cX) (bX12_tellLetter_118 (nI (10 * sd + nl)) (nI (t + 1)) mX) (TellOk c0 m0 K kd sd t) := by
  obtain ⟨L, C, N, hc, hl, TD⟩ := T
  obtain ⟨C1, C2, C3, C4, C5, C6, C7, C8, C9, C10, C11, C12, C13⟩ := C
  have s2 := X.2.2
  have t4 : t + 1 < 401 := by have := X.1.2.1; omega
  unfold bX5_tellLetter_178 bX12_tellLetter_118
  rw [ck_of (nI_inb (show 10 * sd + nl < 20 by omega) (by decide)), nI_ix (by omega), lt_q, lt_q, E1.2.2.1, E1.2.2.2.2.1]
  obtain ⟨P2, N2⟩ := ls_w E1.1 N1 hnl 6 (nI cs1) (k := 24) rfl (nI (150 * sd + ln1))
  have mu : R2 c0 m0 sd (fX5_take 4 (wI cX (132 + nl) 6 (nI cs1))) (fX12_must 4 (wI mX 24 (10 * sd + nl) (nI (150 * sd + ln1)))) (fun c1 m1 => kd t1 = 4 ∧ t1 < 400 ∧ PB c0 m0 K kd sd (t1 + 1) c1 m1 ∧ Agr W67 (wI cX (132 + nl) 6 (nI cs1)) c1 ∧ Agr W11 (wI mX 24 (10 * sd + nl) (nI (150 * sd + ln1))) m1) := tk_must X P2 (κ := 4) (by decide) (by decide)
  refine R2_seqw mu ?_ ?_
  · rintro c5 m4 ⟨_, w2, w3, w4, w5⟩
    have s19 : m4.1 0 19 = nI sd := by rw [w3.2.1.i 0 19 rfl]; exact X.2.1
    have n17 : m4.1 17 sd = nI nl := by rw [w5.i 17 sd rfl, wI_k (by decide), aM.i 17 sd rfl]; exact C12
    have n20 : m4.1 0 20 = nI (np + nc + nl) := by rw [w5.i 0 20 rfl]; exact N2.1
    rw [if_pos (show m4.1 0 13 ≤ 0 by rw [w3.2.2.2.2.2.2.1]; decide), s19, ck_of (nI_inb s2 (by decide)), nI_ix (by omega), n17, M_notes n20 (by omega) (show t + 1 < 403 by omega), bv_q]
    simp only [wI_j (show (19 : Nat) ≠ 20 by decide), wI_k (show (0 : Nat) ≠ 10 by decide), wI_k (show (0 : Nat) ≠ 9 by decide), wL_i, s19, ck_of (nI_inb s2 (by decide)), nI_ix (show sd < 2 ^ 31 by omega), wI_k (show (17 : Nat) ≠ 0 by decide), wI_k (show (17 : Nat) ≠ 10 by decide), wI_k (show (17 : Nat) ≠ 9 by decide), n17, nI_1, lt_q]
    have tn6 : m4.2 6 (t + 1) = m.2 6 (t + 1) := by rw [w5.l 6 _ rfl, wI_l, aM.l 6 _ rfl]
    rw [tn6]
    have AM : AgrM sd m4 (wI (wI (wI (wI (wL m4 8 (np + nc + nl) (m.2 6 (t + 1))) 9 (np + nc + nl) 2) 10 (np + nc + nl) (nI nl)) 0 20 (nI (np + nc + nl + 1))) 17 sd (nI (nl + 1))) := ((((AgrM.refl.wL (pw_0 rfl)).wI (pw_0 rfl)).wI (pw_0 rfl)).wI (pw_0 rfl)).wI (pw_1 rfl)
    have AG : Agr [(8, none), (9, none), (10, none), (0, some 20), (17, none)] m4 (wI (wI (wI (wI (wL m4 8 (np + nc + nl) (m.2 6 (t + 1))) 9 (np + nc + nl) 2) 10 (np + nc + nl) (nI nl)) 0 20 (nI (np + nc + nl + 1))) 17 sd (nI (nl + 1))) := ((((Agr.refl.wL rfl).wI rfl).wI rfl).wI rfl).wI rfl
    have VV : (wI (wI (wI (wI (wL m4 8 (np + nc + nl) (m.2 6 (t + 1))) 9 (np + nc + nl) 2) 10 (np + nc + nl) (nI nl)) 0 20 (nI (np + nc + nl + 1))) 17 sd (nI (nl + 1))).1 17 sd = nI (nl + 1) ∧ (wI (wI (wI (wI (wL m4 8 (np + nc + nl) (m.2 6 (t + 1))) 9 (np + nc + nl) 2) 10 (np + nc + nl) (nI nl)) 0 20 (nI (np + nc + nl + 1))) 17 sd (nI (nl + 1))).1 0 20 = nI (np + nc + nl + 1) ∧ (wI (wI (wI (wI (wL m4 8 (np + nc + nl) (m.2 6 (t + 1))) 9 (np + nc + nl) 2) 10 (np + nc + nl) (nI nl)) 0 20 (nI (np + nc + nl + 1))) 17 sd (nI (nl + 1))).2 8 (np + nc + nl) = m.2 6 (t + 1) ∧ (wI (wI (wI (wI (wL m4 8 (np + nc + nl) (m.2 6 (t + 1))) 9 (np + nc + nl) 2) 10 (np + nc + nl) (nI nl)) 0 20 (nI (np + nc + nl + 1))) 17 sd (nI (nl + 1))).1 9 (np + nc + nl) = nI 2 ∧ (wI (wI (wI (wI (wL m4 8 (np + nc + nl) (m.2 6 (t + 1))) 9 (np + nc + nl) 2) 10 (np + nc + nl) (nI nl)) 0 20 (nI (np + nc + nl + 1))) 17 sd (nI (nl + 1))).1 10 (np + nc + nl) = nI nl ∧ ∀ k, k < np + nc + nl → (wI (wI (wI (wI (wL m4 8 (np + nc + nl) (m.2 6 (t + 1))) 9 (np + nc + nl) 2) 10 (np + nc + nl) (nI nl)) 0 20 (nI (np + nc + nl + 1))) 17 sd (nI (nl + 1))).1 9 k = m4.1 9 k ∧ (wI (wI (wI (wI (wL m4 8 (np + nc + nl) (m.2 6 (t + 1))) 9 (np + nc + nl) 2) 10 (np + nc + nl) (nI nl)) 0 20 (nI (np + nc + nl + 1))) 17 sd (nI (nl + 1))).1 10 k = m4.1 10 k ∧ (wI (wI (wI (wI (wL m4 8 (np + nc + nl) (m.2 6 (t + 1))) 9 (np + nc + nl) 2) 10 (np + nc + nl) (nI nl)) 0 20 (nI (np + nc + nl + 1))) 17 sd (nI (nl + 1))).2 8 k = m4.2 8 k := by
      refine ⟨by simp [wI], by simp [wI], by simp [wI, wL], by simp [wI, wL]; rfl, by simp [wI, wL], fun k hk => ?_⟩
      have : k ≠ np + nc + nl := by omega
      simp [wI, wL, this]
    generalize wI (wI (wI (wI (wL m4 8 (np + nc + nl) (m.2 6 (t + 1))) 9 (np + nc + nl) 2) 10 (np + nc + nl) (nI nl)) 0 20 (nI (np + nc + nl + 1))) 17 sd (nI (nl + 1)) = m7 at AM AG VV ⊢
    obtain ⟨V2, V3, V4, V5, V6, V7⟩ := VV
    have P7 : PB c0 m0 K kd sd (t1 + 1) c5 m7 := PB_w w3 (W := []) .refl rfl rfl AM ⟨AG.i 0 11 rfl, AG.i 0 13 rfl, AG.i 0 15 rfl, AG.i 0 16 rfl⟩
    -- the class from cX on
    have k6 : ∀ k j, (k < 132 ∨ 143 ≤ k) → c5.1 k j = cX.1 k j ∧ c5.2 k j = cX.2 k j := fun k j hk => by
      have a : wm W67 k j = false := by
        unfold W67 wm
        simp
        omega
      obtain ⟨z1, z2⟩ := w4 k j a
      rw [z1, z2, wI_k (by omega)]
      exact ⟨rfl, rfl⟩
    have k8 : c5.1 142 8 = cX.1 142 8 := by rw [w4.i 142 8 rfl, wI_k (by omega)]
    have ko : ∀ l j, l < 10 → (l ≠ nl ∨ j ≠ 6) → c5.1 (132 + l) j = cX.1 (132 + l) j := fun l j hl' hne => by
      rw [W67_o w4 hl', wI_r, if_neg]
      rintro ⟨z1, z2⟩
      rcases hne with z | z
      · omega
      · exact z z2
    have ko6 : c5.1 (132 + nl) 6 = nI cs1 := by rw [W67_o w4 hnl, wI_s]
    -- the model from mX on
    have g7 : ∀ k j, k ≠ 24 → wm [(0, some 11), (8, none), (9, none), (10, none), (0, some 20), (17, none)] k j = false → m7.1 k j = mX.1 k j := fun k j hk hw => by
      have a1 : wm [(8, none), (9, none), (10, none), (0, some 20), (17, none)] k j = false := by
        unfold wm at hw ⊢
        simp at hw ⊢
        exact hw.2
      have a2 : wm W11 k j = false := by
        unfold W11 wm
        unfold wm at hw
        simp at hw ⊢
        exact hw.1
      rw [(AG k j a1).1, (w5 k j a2).1, wI_k hk]
    have g24 : m7.1 24 (10 * sd + nl) = nI (150 * sd + ln1) := by rw [AG.i 24 _ rfl, w5.i 24 _ rfl, wI_s]
    have g24' : ∀ l, l < nl → m7.1 24 (10 * sd + l) = mX.1 24 (10 * sd + l) := fun l hl' => by rw [AG.i 24 _ rfl, w5.i 24 _ rfl, wI_j (by omega)]
    obtain ⟨CC, VVc, RR⟩ := TD
    have cR : ∀ k j, (k < 132 ∨ 143 ≤ k) → wm TL0 k j = false → c5.1 k j = c.1 k j := fun k j hk h0 => by
      rw [(k6 k j hk).1, (TL_i aC (by omega) hnl h0).1]
    have c142 : c5.1 142 8 = 0 → c.1 142 8 = 0 := fun z => uu (by rw [← k8]; exact z)
    have cp : ∀ j, j < cs → c5.1 129 j = c.1 129 j := fun j hj => by rw [(k6 129 j (by omega)).1, p129 j hj]
    have fT7 : frT sd cd ln m m7 := ⟨fun j hj => by
      obtain ⟨z1, z2⟩ := fT.1 j hj
      rw [g7 35 j (by decide) rfl, g7 36 j (by decide) rfl, z1, z2]; exact ⟨rfl, rfl⟩, fun i hi => by
      obtain ⟨z1, z2, z3, z4, z5, z6⟩ := fT.2 i hi
      rw [g7 29 i (by decide) rfl, g7 30 i (by decide) rfl, g7 31 i (by decide) rfl, g7 32 i (by decide) rfl, g7 33 i (by decide) rfl, g7 34 i (by decide) rfl, z1, z2, z3, z4, z5, z6]; exact ⟨rfl, rfl, rfl, rfl, rfl, rfl⟩⟩
    obtain ⟨u1, u2, u3, u4, u5⟩ := CC
    have Lnew : LetC K kd sd np cs1 cd1 (c5.1 142 8 = 0) nl cs ln ls c5 m7 := by
      refine ⟨by omega, by rw [ko nl 5 hnl (.inr (by decide))]; exact f5, by rw [ko6, hcs], cwG_w cw fun j _ => (k6 129 j (by omega)).1, fo, ok, by rw [g7 23 _ (by decide) rfl]; exact f23, by rw [g24, hln, Nat.add_assoc], fun i hi => ?_⟩
      exact ltT_h (ln := ln1) (lt' i hi) (fun j _ => ⟨g7 35 j (by decide) rfl, g7 36 j (by decide) rfl⟩) (fun i _ => ⟨g7 29 i (by decide) rfl, g7 30 i (by decide) rfl, g7 31 i (by decide) rfl, g7 32 i (by decide) rfl, g7 33 i (by decide) rfl, g7 34 i (by decide) rfl⟩) (by omega) (Nat.le_refl _) (fun z => by rw [← k8]; exact z) (Nat.le_refl _)
    refine ⟨m7, rfl, t1 + 1, np, nc, nb, nl + 1, cs1, cd1, ln1, A, (fun l => if l = nl then ls else Ls l), (fun l => if l = nl then cs else as l), (fun l => if l = nl + 1 then ln1 else bs l), by omega, ⟨P7, by rw [g7 0 12 (by decide) rfl]; exact E1.2.1, by rw [(k6 125 11 (by omega)).1]; exact E1.2.2.1, by rw [g7 0 49 (by decide) rfl]; exact E1.2.2.2.1, by rw [g7 0 42 (by decide) rfl]; exact E1.2.2.2.2.1, E1.2.2.2.2.2⟩, ⟨C1, C2, C3, by omega, by rw [cR 125 6 (by omega) rfl]; exact C5, by rw [cR 125 7 (by omega) rfl]; exact C6, by rw [cR 125 8 (by omega) rfl]; exact C7, by rw [(k6 125 9 (by omega)).1]; exact q9, by rw [g7 11 sd (by decide) rfl, aM.i 11 sd rfl]; exact C9, by rw [g7 13 sd (by decide) rfl, aM.i 13 sd rfl]; exact C10, by rw [g7 14 sd (by decide) rfl, aM.i 14 sd rfl]; exact C11, V2, by rw [cR 125 10 (by omega) rfl, g7 25 sd (by decide) rfl, aM.i 25 sd rfl]; exact C13⟩, ?_, by omega, by omega, ⟨?_, ?_, ?_, ?_, ?_⟩, fun z => ?_, fun r hr => ?_⟩
    · refine NmR_add (s := 2) (y := c.2 106 (t + 1)) N1 (by decide) (fun s' => ?_) (by omega) ?_ (fun s' i hs' hn hi => ?_) V3 ?_ V5 V6 (fun k hk => ?_)
      · unfold cntN
        by_cases z : s' = 0
        · subst z; rfl
        · by_cases z1 : s' = 1
          · subst z1; rfl
          · simp [z, z1]
      · rw [(k6 145 _ (by omega)).2]; exact n145
      · exact (k6 _ i (by omega)).2
      · rw [V4]
        exact (tk_row X L.1 tn).2.2.2.2.2.2.2 k2
      · obtain ⟨z1, z2, z3⟩ := V7 k hk
        rw [z1, z2, z3, w5.i 9 k rfl, w5.i 10 k rfl, w5.l 8 k rfl, wI_k (by decide), wI_k (by decide), wI_l]
        exact ⟨rfl, rfl, rfl⟩
    · show (if 0 = nl + 1 then ln1 else bs 0) = 0
      rw [if_neg (by omega)]; exact u1
    · show (if nl + 1 = nl + 1 then ln1 else bs (nl + 1)) = ln1
      rw [if_pos rfl]
    · intro l hl'
      show (if l + 1 = nl + 1 then ln1 else bs (l + 1)) = (if l = nl + 1 then ln1 else bs l) + (if l = nl then ls else Ls l).length
      by_cases e : l = nl
      · subst e
        rw [if_pos rfl, if_neg (by omega), if_pos rfl, hln, u2]
      · rw [if_neg (by omega), if_neg (by omega), if_neg e]
        exact u3 l (by omega)
    · intro l l' hll hl'
      show (if l = nl then cs else as l) + (letW (if l = nl then ls else Ls l)).length ≤ (if l' = nl then cs else as l')
      rw [if_neg (by omega), if_neg (by omega)]
      by_cases e : l' = nl
      · rw [if_pos e]; exact (u5 l (by omega)).1.1
      · rw [if_neg e]; exact u4 l l' hll (by omega)
    · intro l hl'
      show LetC K kd sd np cs1 cd1 (c5.1 142 8 = 0) l (if l = nl then cs else as l) (if l = nl + 1 then ln1 else bs l) (if l = nl then ls else Ls l) c5 m7 ∧ (if l = nl + 1 then ln1 else bs l) + (if l = nl then ls else Ls l).length ≤ ln1
      by_cases e : l = nl
      · subst e
        rw [if_pos rfl, if_neg (by omega), if_pos rfl, u2]
        exact ⟨Lnew, by omega⟩
      · rw [if_neg e, if_neg (by omega), if_neg e]
        obtain ⟨h1, h2⟩ := u5 l (by omega)
        refine ⟨LetC_h h1 h2 ⟨?_, ?_⟩ cp ⟨?_, ?_⟩ fT7 (by omega) hcd c142 (Nat.le_refl _), by omega⟩
        · rw [ko l 5 (by omega) (.inl e), TL_o aC (by omega) e]
        · rw [ko l 6 (by omega) (.inl e), TL_o aC (by omega) e]
        · rw [g7 23 _ (by decide) rfl]; exact lr l (by omega) 23 rfl
        · rw [g24' l (by omega)]; exact lr l (by omega) 24 rfl
    · obtain ⟨z1, z2, z3⟩ := VVc (c142 z)
      refine ⟨fun p hp => by rw [cR 126 p (by omega) rfl, g7 12 _ (by decide) rfl, aM.i 12 _ rfl]; exact z1 p hp, fun q p hq hp => ?_, fun l hl' => ?_⟩
      · rw [cR 127 q (by omega) rfl, z2 q p hq hp]
        unfold barT
        congr 1
        funext k
        rw [g7 15 _ (by decide) rfl, g7 16 _ (by decide) rfl, aM.i 15 _ rfl, aM.i 16 _ rfl]
      · rw [g7 18 _ (by decide) rfl, g7 19 _ (by decide) rfl, g7 20 _ (by decide) rfl, g7 21 _ (by decide) rfl, g7 22 _ (by decide) rfl]
        by_cases e : l = nl
        · subst e
          rw [ko l 0 hnl (.inr (by decide)), ko l 1 hnl (.inr (by decide)), ko l 2 hnl (.inr (by decide)), ko l 3 hnl (.inr (by decide)), ko l 4 hnl (.inr (by decide))]
          exact fl (by rw [← k8]; exact z)
        · rw [ko l 0 (by omega) (.inl e), ko l 1 (by omega) (.inl e), ko l 2 (by omega) (.inl e), ko l 3 (by omega) (.inl e), ko l 4 (by omega) (.inl e), TL_o aC (by omega) e, TL_o aC (by omega) e, TL_o aC (by omega) e, TL_o aC (by omega) e, TL_o aC (by omega) e, lr l (by omega) 18 rfl, lr l (by omega) 19 rfl, lr l (by omega) 20 rfl, lr l (by omega) 21 rfl, lr l (by omega) 22 rfl]
          exact z3 l (by omega)
    · have h := RR r hr
      cases hA : A r with
      | none =>
        rw [hA] at h
        simp only at h ⊢
        rw [cR 130 r (by omega) rfl, g7 26 _ (by decide) rfl, aM.i 26 _ rfl]; exact h
      | some e =>
        rw [hA] at h
        simp only at h ⊢
        obtain ⟨y1, y2, ⟨a, y3, y4, y5, y6⟩, b, y7, y8, y9, y10⟩ := h
        exact ⟨y1, by rw [g7 26 _ (by decide) rfl, aM.i 26 _ rfl]; exact y2, ⟨a, by omega, by rw [cR 130 r (by omega) rfl]; exact y4, by rw [cR 131 r (by omega) rfl]; exact y5, cwG_w y6 fun j hj => cp j (by rw [List.length_map] at hj; omega)⟩, b, by omega, by rw [g7 27 _ (by decide) rfl, aM.i 27 _ rfl]; exact y8, by rw [g7 28 _ (by decide) rfl, aM.i 28 _ rfl]; exact y9, cdM_w y10 fun j hj => fT7.1 j (by omega)⟩
  · intro f p m4 F
    rw [if_neg (FM_13 F).2.1, ok_some]
    exact F
