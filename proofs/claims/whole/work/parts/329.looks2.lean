theorem KC_w {o N a b : Nat} {R : Run} {ls : List Nat} {tr : Bool} {h : Hp} {v : Int32} (H : KC o N R ls tr h) (ho : isC o) (ha : a < 182) : KC o N R ls tr (wI h a b v) := by
  have h0 := isC_ge ho
  have q : ∀ k j, o ≤ k → (wI h a b v).1 k j = h.1 k j := fun k j hk => wI_k (by omega)
  refine ⟨fun k j hd => ?_, ?_, fun i hi => ?_, ?_⟩
  · have := cC_c (o := o) hd
    rw [q _ _ (by omega)]; exact H.1 k j hd
  · rw [q _ _ (by omega)]; exact H.2.1
  · rw [q _ _ (by omega)]; exact H.2.2.1 i hi
  · rw [q _ _ (by omega)]; exact H.2.2.2
theorem C_shut {m h : Hp} {R : Run} {ps ns : List Nat} {tr : Bool} (hN : nL m ≤ 10) (hlen : (ps ++ ns).length ≤ 10) (hns : ∀ l, l ∈ ns → l < nL m) (H : KC 190 (nL m) R (ps ++ ns) tr h) (v : Int32) : Ok (fX1_shutAgain 190 (nI ps.length) v h) (fun h' => KC 190 (nL m) (up (shuS ns R) 6 1 v) ps tr h' ∧ CF 190 h h') := by
  have ll : (ps ++ ns).length = ps.length + ns.length := List.length_append
  unfold fX1_shutAgain
  rw [lt_q]
  refine upto (fun f i h => lX1_shutAgain_2 190 f (nI ps.length) v (nI i) h) (ps ++ ns).length (fun i h' => ps.length ≤ i ∧ CF 190 h h' ∧ KC 190 (nL m) (shuS (ns.take (i - ps.length)) R) (ps ++ ns) tr h') ?_ ?_ ((ps ++ ns).length - ps.length) ps.length h FU rfl (by omega) (show _ < 20000 by omega) ⟨Nat.le_refl _, .refl, by rw [Nat.sub_self, List.take_zero]; exact H⟩
  · rintro f h1 ⟨_, a1, H1⟩
    rw [lX1_shutAgain_2]
    simp only [bX1_shutAgain_2, H1.2.1, if_pos (nI_le (Nat.le_refl (ps ++ ns).length) (show (ps ++ ns).length < 2 ^ 31 by omega)), lt_q, ok_some]
    rw [show (ps ++ ns).length - ps.length = ns.length by omega, List.take_length] at H1
    refine ⟨?_, (a1.wI (by omega)).wI (by omega)⟩
    have H2 : KC 190 (nL m) (shuS ns R) ps tr (wI h1 190 10 (nI ps.length)) := by
      refine ⟨fun k j hd => ?_, wI_s, fun i hi => ?_, ?_⟩
      · have := cC_c (o := 190) hd
        rw [wI_r, if_neg (by omega)]; exact H1.1 k j hd
      · rw [wI_k (by decide), ← getD_l (ns := ns) hi]; exact H1.2.2.1 i (by omega)
      · rw [wI_j (by decide)]; exact H1.2.2.2
    exact H2.be_u v
  · rintro f i h1 hi ⟨hpi, a1, H1⟩ K
    have hin : i - ps.length < ns.length := by omega
    have hl := hns _ (getD_mem hin)
    have q : h1.1 195 i = nI (ns.getD (i - ps.length) 0) := by
      have := H1.2.2.1 i hi
      rw [getD_r hpi] at this
      exact this
    rw [lX1_shutAgain_2]
    simp only [bX1_shutAgain_2, H1.2.1, if_neg (nI_ge hi (show (ps ++ ns).length < 2 ^ 31 by omega)), ck_of (nI_inb (n := i) (N := 10) (by omega) (by decide)), nI_ix (show i < 2 ^ 31 by omega), Nat.reduceAdd, q, ok_bv, lt_q, nI_1]
    refine (C_endAs H1 hN hl 0 (-2)).mono ?_
    rintro h2 ⟨H2, a2⟩
    refine K h2 ⟨by omega, a1.trans a2, ?_⟩
    rw [show i + 1 - ps.length = (i - ps.length) + 1 by omega, List.take_succ_eq_append_getElem hin]
    unfold shuS
    rw [List.foldl_append]
    have eg : ns.getD (i - ps.length) 0 = ns[i - ps.length] := by rw [List.getD_eq_getElem?_getD, List.getElem?_eq_getElem hin]; rfl
    rw [eg] at H2
    exact H2
/-- two looks -/
def qa (a y : Nat) : Bool := decide (y = a)
def Pab (S : Sem) (m : Hp) (n a b : Nat) : Run := payS S m b (facS S m n false b (runS S m n false (qa a) b).1)
def gnA (S : Sem) (m : Hp) (n : Nat) (R1 : Run) (a : Nat) : Int32 := lsum (gaS S R1 (runS S m n false (qa a) (a + 1)).1) (runS S m n false (qa a) (a + 1)).2
def gnB (S : Sem) (m : Hp) (n : Nat) (R1 : Run) (a b : Nat) : Int32 := gnA S m n R1 a + lsum (gaS S R1 (lookS S m b 10 (Pab S m n a b)).1) (lookS S m b 10 (Pab S m n a b)).2
def stB (G : Nat → Nat → Int32) (a b : Nat) (s : Int32 × Int32 × Int32) : Int32 × Int32 × Int32 := if s.1 < G a b then (G a b, nI a, nI b) else s
def inB (G : Nat → Nat → Int32) (a k : Nat) (s : Int32 × Int32 × Int32) : Int32 × Int32 × Int32 := forN k (fun i s => stB G a (a + 1 + i) s) s
theorem run_qa {S : Sem} {m : Hp} {n a b : Nat} (h : b ≠ a) : runS S m n false (qa a) (b + 1) = (Pab S m n a b, (runS S m n false (qa a) b).2) := by
  rw [runS]
  unfold yrR Pab
  rw [if_neg (show ¬ qa a b = true by unfold qa; rw [decide_eq_true_iff]; exact h)]
  simp only [List.append_nil]
theorem run_ls {S : Sem} {m : Hp} {n a : Nat} : ∀ d, (runS S m n false (qa a) (a + 1 + d)).2 = (runS S m n false (qa a) (a + 1)).2 := by
  intro d
  induction d with
  | zero => rfl
  | succ d ih =>
    rw [← Nat.add_assoc, run_qa (by omega)]
    exact ih
def LK (h : Hp) (s : Int32 × Int32 × Int32) : Prop := h.1 181 8 = s.1 ∧ h.1 181 6 = s.2.1 ∧ h.1 181 7 = s.2.2
theorem C_second {S : Sem} {F n a : Nat} {c m h : Hp} {R1 R3 : Run} {l1 l3 : List Nat} {s : Int32 × Int32 × Int32} (Q : QH S F c m) (hn : n ≤ F) (ha : a < 59) (e : Agr SC c h) (ar : ARR m n h) (H1 : KC 182 (nL m) R1 l1 false h) (H3 : KC 198 (nL m) R3 l3 false h) (H2 : KC 190 (nL m) (runS S m n false (qa a) (a + 1)).1 (runS S m n false (qa a) (a + 1)).2 false h) (L : LK h s) :
    Ok (fX2_trySecondLooks (nI a) h) (fun h' => LK h' (inB (gnB S m n R1) a (59 - a) s) ∧ KC 182 (nL m) R1 l1 false h' ∧ KC 198 (nL m) R3 l3 false h' ∧ ARR m n h' ∧ Agr SC c h') := by
  obtain ⟨D, RF, XM', XC'⟩ := Q
  have s1 := D.2.2.2.2.1.1
  have ho : isC 190 := .inr (.inl rfl)
  have iv := inv_run (S := S) (m := m) (n := n) (tr := false) (q := qa a) (a + 1)
  have ivl := iv.1
  have lk : ∀ (h h' : Hp), CF 190 h h' → ∀ s, LK h s → LK h' s := fun h h' a s L => ⟨(a 181 8 (by omega) rfl).1.trans L.1, (a 181 6 (by omega) rfl).1.trans L.2.1, (a 181 7 (by omega) rfl).1.trans L.2.2⟩
  unfold fX2_trySecondLooks
  have gg := C_gainsFrom (r := 0) D XC' e H1 H2 (by omega) (by omega) (fun l hl => ⟨(iv.2.1 l hl).1, by obtain ⟨t, t1, t2⟩ := (iv.2.1 l hl).2.2; exact ⟨t, by omega, t2⟩⟩)
  rw [nI_0, List.drop_zero] at gg
  rw [ok_bi]
  refine gg.mono ?_
  rintro ⟨g, h1⟩ ⟨hg, a1⟩
  simp only at hg a1
  have f1 : CF 190 h h1 := CF.refl.ev a1
  have e1 : Agr SC c h1 := e.trans (f1.agr ho)
  have K2 := KC_ev H2 ho a1
  simp only [lt_q, K2.2.1, nI_1]
  refine upto (fun f i h => lX2_trySecondLooks_19 f (nI a) g (nI (runS S m n false (qa a) (a + 1)).2.length) (nI i) h) 60 (fun b h' => a + 1 ≤ b ∧ b ≤ 60 ∧ KC 190 (nL m) (runS S m n false (qa a) b).1 (runS S m n false (qa a) (a + 1)).2 false h' ∧ KC 182 (nL m) R1 l1 false h' ∧ KC 198 (nL m) R3 l3 false h' ∧ ARR m n h' ∧ Agr SC c h' ∧ LK h' (inB (gnB S m n R1) a (b - (a + 1)) s)) ?_ ?_ (60 - (a + 1)) (a + 1) h1 FU rfl (by omega) (show _ < 20000 by omega) ⟨Nat.le_refl _, by omega, K2, KC_ev H1 (.inl rfl) a1, KC_ev H3 (.inr (.inr rfl)) a1, ARR_cf ar ho f1, e1, by rw [Nat.sub_self]; exact lk _ _ f1 _ L⟩
  · rintro f h2 ⟨_, _, _, H1', H3', ar', e', L'⟩
    rw [lX2_trySecondLooks_19]
    simp only [bX2_trySecondLooks_19, if_pos (show (60 : Int32) ≤ nI 60 by decide), ok_some]
    rw [show 60 - (a + 1) = 59 - a by omega] at L'
    exact ⟨L', H1', H3', ar', e'⟩
  · rintro f b h2 hb ⟨hab, _, H2', H1', H3', ar', e', L'⟩ K
    have hls : (runS S m n false (qa a) b).2 = (runS S m n false (qa a) (a + 1)).2 := by
      have := run_ls (S := S) (m := m) (n := n) (a := a) (b - (a + 1))
      rwa [show a + 1 + (b - (a + 1)) = b by omega] at this
    have ivb := inv_run (S := S) (m := m) (n := n) (tr := false) (q := qa a) b
    have ivP := inv_stp ivb ((stp_fac (S := S) (m := m) (n := n) (y := b) (tr := false)).trans (stp_pay (S := S) (m := m) (y := b)))
    have ivL := inv_look (S := S) (n := 10) ivP
    rw [hls] at ivP ivL
    rw [lX2_trySecondLooks_19]
    simp only [bX2_trySecondLooks_19, bX2_trySecondLooks_97, if_neg (show ¬ (60 : Int32) ≤ nI b from nI_ge (b := 60) hb (by decide)), ok_bv, lt_q]
    refine (C_takeFacts D XC' RF hn ho e' ar' H2' hb).mono ?_
    rintro h3 ⟨J3, f3⟩
    have e3 := e'.trans (f3.agr ho)
    refine (C_pays D XC' ho e3 J3 hb).mono ?_
    rintro h4 ⟨J4, f4⟩
    have e4 := e3.trans (f4.agr ho)
    change KC 190 (nL m) (Pab S m n a b) (runS S m n false (qa a) (a + 1)).2 false h4 at J4
    change inv m b (Pab S m n a b) (runS S m n false (qa a) (a + 1)).2 at ivP
    change inv m (b + 1) (lookS S m b 10 (Pab S m n a b)).1 ((runS S m n false (qa a) (a + 1)).2 ++ (lookS S m b 10 (Pab S m n a b)).2) at ivL
    have hP : runS S m n false (qa a) (b + 1) = (Pab S m n a b, (runS S m n false (qa a) b).2) := run_qa (by omega)
    have hG : gnB S m n R1 a b = gnA S m n R1 a + lsum (gaS S R1 (lookS S m b 10 (Pab S m n a b)).1) (lookS S m b 10 (Pab S m n a b)).2 := rfl
    have hg' : g = gnA S m n R1 a := hg
    have pn := (look_p (S := S) (m := m) (y := b) 10 (Pab S m n a b)).1
    have sl := shu_look (S := S) (m := m) (y := b) (n := 10) (R := Pab S m n a b) ivP.2.2.2.2
    generalize (runS S m n false (qa a) (a + 1)).2 = ps at *
    refine (C_lookUp D XC' ho hb e4 J4 (by have := ivP.1; omega)).mono ?_
    rintro h5 ⟨J5, f5⟩
    have e5 := e4.trans (f5.agr ho)
    have f35 : CF 190 h2 h5 := (f3.trans f4).trans f5
    have H15 := KC_cf H1' (.inl rfl) ho (by decide) f35
    have H35 := KC_cf H3' (.inr (.inr rfl)) ho (by decide) f35
    have L5 := lk _ _ f35 _ L'
    have ar5 := ARR_cf ar' ho f35
    generalize lookS S m b 10 (Pab S m n a b) = lo at *
    have g5 := C_gainsFrom (r := ps.length) D XC' e5 H15 J5 (by have := ivL.1; omega) (by rw [List.length_append]; omega) (fun l hl => ⟨(ivL.2.1 l hl).1, by obtain ⟨t, t1, t2⟩ := (ivL.2.1 l hl).2.2; exact ⟨t, by omega, t2⟩⟩)
    rw [List.drop_left] at g5
    rw [ok_bi]
    refine g5.mono ?_
    rintro ⟨v, h6⟩ ⟨hv, a6⟩
    simp only at hv a6
    have f6 : CF 190 h5 h6 := CF.refl.ev a6
    have e6 := e5.trans (f6.agr ho)
    have J6 := KC_ev J5 ho a6
    have H16 := KC_ev H15 (.inl rfl) a6
    have H36 := KC_ev H35 (.inr (.inr rfl)) a6
    have L6 := lk _ _ f6 _ L5
    have ar6 := ARR_cf ar5 ho f6
    have gv : g + v = gnB S m n R1 a b := by rw [hG, hv, hg']
    have J4b : h4.1 190 12 = Pab S m n a b 6 1 := J4.be
    rw [gv, J4b]
    have fin : ∀ h7, Agr SC c h7 → KC 190 (nL m) lo.1 (ps ++ lo.2) false h7 → KC 182 (nL m) R1 l1 false h7 → KC 198 (nL m) R3 l3 false h7 → ARR m n h7 → LK h7 (stB (gnB S m n R1) a b (inB (gnB S m n R1) a (b - (a + 1)) s)) → Ok (fX1_shutAgain 190 (nI ps.length) (Pab S m n a b 6 1) h7) (fun p => Ok (lX2_trySecondLooks_19 f (nI a) g (nI ps.length) (nI b + 1) p) (fun h' => LK h' (inB (gnB S m n R1) a (59 - a) s) ∧ KC 182 (nL m) R1 l1 false h' ∧ KC 198 (nL m) R3 l3 false h' ∧ ARR m n h' ∧ Agr SC c h')) := by
      intro h7 e7 J7 H17 H37 ar7 L7
      refine (C_shut s1 (by have := ivL.1; omega) (fun l hl => (pn l hl).1) J7 (Pab S m n a b 6 1)).mono ?_
      rintro h8 ⟨J8, f8⟩
      rw [sl] at J8
      rw [nI_1]
      refine K h8 ⟨by omega, by omega, ?_, KC_cf H17 (.inl rfl) ho (by decide) f8, KC_cf H37 (.inr (.inr rfl)) ho (by decide) f8, ARR_cf ar7 ho f8, e7.trans (f8.agr ho), ?_⟩
      · rw [hP]; exact J8
      · rw [show b + 1 - (a + 1) = b - (a + 1) + 1 by omega]
        unfold inB at L7 ⊢
        rw [forN_s, show a + 1 + (b - (a + 1)) = b by omega]
        exact lk _ _ f8 _ L7
    generalize inB (gnB S m n R1) a (b - (a + 1)) s = t at *
    rw [L6.1]
    by_cases cg : gnB S m n R1 a b ≤ t.1
    · rw [if_pos cg, ok_bv]
      refine fin h6 e6 J6 H16 H36 ar6 ?_
      unfold stB
      rw [if_neg (i_nlt.mpr cg)]; exact L6
    · rw [if_neg cg, ok_bv]
      refine fin _ (((e6.wI rfl).wI rfl).wI rfl) (KC_w (KC_w (KC_w J6 ho (by decide)) ho (by decide)) ho (by decide)) (KC_w (KC_w (KC_w H16 (.inl rfl) (by decide)) (.inl rfl) (by decide)) (.inl rfl) (by decide)) (KC_w (KC_w (KC_w H36 (.inr (.inr rfl)) (by decide)) (.inr (.inr rfl)) (by decide)) (.inr (.inr rfl)) (by decide)) ⟨fun y hy => ?_, fun j hj hc => ?_⟩ ?_
      · rw [wI_k (by decide), wI_k (by decide), wI_k (by decide)]; exact ar6.1 y hy
      · rw [wI_k (by decide), wI_k (by decide), wI_k (by decide)]; exact ar6.2 j hj hc
      · unfold stB
        rw [if_pos (i_nle.mp cg)]
        refine ⟨?_, ?_, ?_⟩
        · rw [wI_j (by decide), wI_j (by decide), wI_s]
        · rw [wI_j (by decide), wI_s]
        · rw [wI_s]
