/-- signs come out -/
theorem C_clo {x : Nat} (hx : x < 34) (h : Hp) : fX5_closenessOf (nI x) h = some (nI (clo x), h) := by
  have e : ∀ x, x < 34 → (if (nI x).toInt < 5 ∨ 8 < (nI x).toInt then some (0 : Int32) else if nI x = 5 then some 1 else if nI x = 6 then some 1 else if nI x = 7 then some 2 else if nI x = 8 then some 2 else none) = some (nI (clo x)) := by decide +kernel
  have := e x hx
  unfold fX5_closenessOf
  by_cases c0 : (nI x).toInt < 5 ∨ 8 < (nI x).toInt
  · rw [if_pos c0] at this ⊢; rw [Option.some.inj this]
  · rw [if_neg c0] at this ⊢
    by_cases c5 : nI x = 5
    · rw [if_pos c5] at this ⊢; rw [Option.some.inj this]
    · rw [if_neg c5] at this ⊢
      by_cases c6 : nI x = 6
      · rw [if_pos c6] at this ⊢; rw [Option.some.inj this]
      · rw [if_neg c6] at this ⊢
        by_cases c7 : nI x = 7
        · rw [if_pos c7] at this ⊢; rw [Option.some.inj this]
        · rw [if_neg c7] at this ⊢
          by_cases c8 : nI x = 8
          · rw [if_pos c8] at this ⊢; rw [Option.some.inj this]
          · rw [if_neg c8] at this; cases this
def popC (k s : Nat) (st : List Nat) (c c1 : Hp) : Prop := Agr W129 c c1 ∧ c1.1 125 11 = nI (s + (popE k st).length) ∧ (∀ j, j < s → c1.1 129 j = c.1 129 j) ∧ cwG c1 s ((popE k st).map ex2w)
theorem C_pop {r9 : Int32 → Int32 → Int32 → Int32 → Hp → Option (Int32 × Hp)} {k : Nat} (hk : 1 ≤ k) (k2 : k ≤ 2) {x2 x3 x4 x5 : Int32} : ∀ (st : List Nat) (s f : Nat) (c : Hp), okS st = true → st.length ≤ 20 → st.length < f → c.1 125 11 = nI s → s + ops st ≤ 400 → skC st c → ∃ c1, lX5_expression_142 r9 f (nI st.length) x2 x3 x4 x5 (nI k) c = bX5_expression_179 r9 (nI (popR k st).length) x2 x3 x4 x5 c1 ∧ popC k s st c c1 := by
  intro st
  induction st with
  | nil =>
    intro s f c _ _ hf hs _ _
    obtain ⟨g, rfl⟩ : ∃ g, f = g + 1 := ⟨f - 1, by omega⟩
    refine ⟨c, ?_, .refl, hs, fun _ _ => rfl, cwG_n⟩
    rw [lX5_expression_142]
    simp only [bX5_expression_142, List.length_nil, if_pos (show nI 0 ≤ (0 : Int32) by decide)]
    rfl
  | cons x r ih =>
    intro s f c ok h20 hf hs h4 sk
    obtain ⟨g, rfl⟩ : ∃ g, f = g + 1 := ⟨f - 1, by omega⟩
    rw [List.length_cons] at h20 hf
    obtain ⟨ok1, hx⟩ := okS_h ok
    have x34 : x < 34 := by omega
    rw [lX5_expression_142]
    simp only [bX5_expression_142, List.length_cons, if_neg (show ¬ nI (r.length + 1) ≤ (0 : Int32) from nI_nle (by omega) (by omega)), nI_pred, ck_of (nI_inb (show r.length < 64 by omega) (by decide)), nI_ix (show r.length < 2 ^ 31 by omega), sk.1, C_clo x34, bi_q, lt_q, show nI (r.length + 1) + (-1) = nI r.length from by rw [← Int32.sub_eq_add_neg]; exact nI_pred _]
    by_cases c1 : k ≤ clo x
    · have b : 5 ≤ x ∧ x ≤ 8 := by
        rcases hx with rfl | hx
        · exact absurd c1 (by show ¬ k ≤ clo 14; have : clo 14 = 0 := rfl; omega)
        · omega
      have ne : ¬ x = 14 := by omega
      rw [ops, if_neg ne] at h4
      have cl := (clo_34 x x34).2.1
      obtain ⟨c2, e1, e2, e3, e4, e5⟩ := C_emit (v := 0) hs (show s < 400 by omega) (show x < 256 by omega)
      rw [if_neg (nI_nlt c1 (by omega)), show (0 : Int32) = nI 0 from rfl, e1, bv_q]
      obtain ⟨c3, g1, g2, g3, g4, g5⟩ := ih (s + 1) g c2 ok1 (by omega) (by omega) e3 (by omega) (skC_w sk.2 fun j _ => e2.i 146 j rfl)
      refine ⟨c3, ?_, ?_⟩
      · rw [g1, popR, if_pos c1]
      · unfold popC
        rw [popE, if_pos c1, List.length_cons, List.map_cons, show ex2w (x - 3, 0) = (x, 0) from by unfold ex2w; simp only; rw [if_neg (by omega), if_neg (by omega), show x - 3 + 3 = x by omega]]
        refine ⟨e2.trans g2, by rw [g3, show s + 1 + (popE k r).length = s + ((popE k r).length + 1) by omega], fun j hj => by rw [g4 j (by omega), e4 j hj], ?_⟩
        exact cwG_app (V := [(x, 0)]) (cwG_w e5 fun j hj => g4 j (by simp at hj; omega)) g5
    · have cl := (clo_34 x x34).2.1
      rw [if_pos (nI_lt (by omega) (by omega)), popR, if_neg c1]
      refine ⟨c, rfl, ?_⟩
      unfold popC
      rw [popE, if_neg c1]
      exact ⟨.refl, hs, fun _ _ => rfl, cwG_n⟩
def WPm : Ws := [(35, none), (36, none), (0, some 49), (0, some 53)]
def popM (k b : Nat) (st : List Nat) (m m1 : Hp) : Prop := Agr WPm m m1 ∧ m1.1 0 49 = nI (b + (popE k st).length) ∧ m1.1 0 53 = nI (popR k st).length ∧ (∀ j, j < b → m1.1 35 j = m.1 35 j ∧ m1.1 36 j = m.1 36 j) ∧ cdM m1 b (popE k st)
theorem kM_op : ∀ x, x < 34 → (5 ≤ x ∧ x ≤ 8 → ¬ nI (kM x) = 6 ∧ (nI (kM x) = 8 ↔ x = 5) ∧ (nI (kM x) = 9 ↔ x = 6) ∧ (nI (kM x) = 10 ↔ x = 7)) := by decide +kernel
theorem M_pop {k sd : Nat} (hk : k = 1 ∨ k = 2) : ∀ (st : List Nat) (b f : Nat) (m : Hp), okS st = true → st.length ≤ 20 → st.length < f → m.1 0 49 = nI b → b + ops st ≤ 840 → m.1 0 53 = nI st.length → skM st m → 420 * sd ≤ b → b + ops st ≤ 420 * sd + 420 → ∃ m1, lX12_comesOut_0 f (b2 (decide (k = 2))) m = some m1 ∧ popM k b st m m1 ∧ AgrM sd m m1 := by
  intro st
  induction st with
  | nil =>
    intro b f m _ _ hf hb _ h53 _ _ _
    obtain ⟨g, rfl⟩ : ∃ g, f = g + 1 := ⟨f - 1, by omega⟩
    refine ⟨m, ?_, ⟨.refl, hb, h53, fun _ _ => ⟨rfl, rfl⟩, cdM_n⟩, .refl⟩
    rw [lX12_comesOut_0]
    simp only [bX12_comesOut_0, h53, List.length_nil, if_pos (show nI 0 ≤ (0 : Int32) by decide)]
  | cons x r ih =>
    intro b f m ok h20 hf hb h8 h53 sk r1 r2
    obtain ⟨g, rfl⟩ : ∃ g, f = g + 1 := ⟨f - 1, by omega⟩
    rw [List.length_cons] at h20 hf h53
    obtain ⟨ok1, hx⟩ := okS_h ok
    have x34 : x < 34 := by omega
    rw [lX12_comesOut_0]
    simp only [bX12_comesOut_0, h53, if_neg (show ¬ nI (r.length + 1) ≤ (0 : Int32) from nI_nle (by omega) (by omega)), nI_pred, ck_of (nI_inb (show r.length < 64 by omega) (by decide)), nI_ix (show r.length < 2 ^ 31 by omega), sk.1, lt_q, b2_0]
    have stay : ¬ k ≤ clo x → ∃ m1, some m = some m1 ∧ popM k b (x :: r) m m1 ∧ AgrM sd m m1 := fun c => by
      refine ⟨m, rfl, ?_, .refl⟩
      unfold popM
      rw [popE, popR, if_neg c, if_neg c, List.length_cons]
      exact ⟨.refl, hb, h53, fun _ _ => ⟨rfl, rfl⟩, cdM_n⟩
    rcases hx with rfl | ⟨x5, x8, _⟩
    · rw [if_pos (show nI (kM 14) = 6 from rfl)]
      exact stay (by show ¬ k ≤ clo 14; have : clo 14 = 0 := rfl; omega)
    · obtain ⟨n6, n8, n9, n10⟩ := kM_op x x34 ⟨x5, x8⟩
      have ne : ¬ x = 14 := by omega
      rw [ops, if_neg ne] at h8 r2
      rw [if_neg n6]
      have go : k ≤ clo x → ∃ m1, bX12_comesOut_42 (lX12_comesOut_0 g) (b2 (decide (k = 2))) (nI (kM x)) m = some m1 ∧ popM k b (x :: r) m m1 ∧ AgrM sd m m1 := fun c => by
        have ha : Agr WPm m (wI m 0 53 (nI r.length)) := Agr.refl.wI rfl
        have hb' : (wI m 0 53 (nI r.length)).1 0 49 = nI b := by rw [wI_j (by decide)]; exact hb
        obtain ⟨m2, e1, e2, e3, e4, e5, e6⟩ := M_emit (o := x - 3) (v := 0) hb' (show b < 840 by omega)
        obtain ⟨m3, g1, ⟨g2, g3, g4, g5, g6⟩, g7⟩ := ih (b + 1) g m2 ok1 (by omega) (by omega) e3 (by omega) (by rw [e2.i 0 53 rfl, wI_s]) (skM_w sk.2 fun j _ => by rw [e2.i 37 j rfl, wI_k (by decide)]) (by omega) (by omega)
        refine ⟨m3, ?_, ?_, (AgrM.refl.wI (pw_0 rfl)).trans ((e6 sd r1 (by omega)).trans g7)⟩
        · unfold bX12_comesOut_42 bX12_comesOut_84
          rw [h53, nI_pred, lt_q]
          have em : ∀ o : Nat, o = x - 3 → bv (fX12_emit (nI o) 0 (wI m 0 53 (nI r.length))) (fun h1 => lX12_comesOut_0 g (b2 (decide (k = 2))) h1) = some m3 := fun o ho => by
            subst ho
            rw [show (0 : Int32) = nI 0 from rfl, e1, bv_q]; exact g1
          by_cases d5 : x = 5
          · rw [if_pos (n8.mpr d5)]; exact em 2 (by omega)
          · rw [if_neg (fun z => d5 (n8.mp z))]
            by_cases d6 : x = 6
            · rw [if_pos (n9.mpr d6)]; exact em 3 (by omega)
            · rw [if_neg (fun z => d6 (n9.mp z))]
              by_cases d7 : x = 7
              · rw [if_pos (n10.mpr d7)]; exact em 4 (by omega)
              · rw [if_neg (fun z => d7 (n10.mp z))]; exact em 5 (by omega)
        · unfold popM
          rw [popE, popR, if_pos c, if_pos c, List.length_cons]
          refine ⟨ha.trans ((e2.sub rfl).trans g2), by rw [g3, show b + 1 + (popE k r).length = b + ((popE k r).length + 1) by omega], g4, fun j hj => ?_, ?_⟩
          · obtain ⟨a1, a2⟩ := g5 j (by omega)
            obtain ⟨b1, b2⟩ := e4 j hj
            rw [a1, a2, b1, b2, wI_k (by decide), wI_k (by decide)]
            exact ⟨rfl, rfl⟩
          · exact cdM_app (V := [(x - 3, 0)]) (cdM_w e5 fun j hj => g5 j (by simp at hj; omega)) g6
      rcases hk with rfl | rfl
      · rw [if_pos (by decide)]
        exact go (by
          have : ∀ x, x < 34 → 5 ≤ x ∧ x ≤ 8 → 1 ≤ clo x := by decide
          exact this x x34 ⟨x5, x8⟩)
      · rw [if_neg (by decide)]
        by_cases d5 : x = 5
        · rw [if_pos (n8.mpr d5)]; exact stay (by subst d5; decide)
        · rw [if_neg (fun z => d5 (n8.mp z))]
          by_cases d6 : x = 6
          · rw [if_pos (n9.mpr d6)]; exact stay (by subst d6; decide)
          · rw [if_neg (fun z => d6 (n9.mp z))]
            exact go (by
              have : x = 7 ∨ x = 8 := by omega
              rcases this with rfl | rfl <;> decide)
