/-- the relation of class and model -/
def RelAO (c m : Hp) : Prop := ∃ T F A Ls cs, T ≤ 2000 ∧ RTn T c m ∧ c.1 100 12 = m.1 0 17 ∧ BK A Ls cs c m ∧ RFn (nP m) (nL m) F c m ∧ RHn (nP m) (nL m) c m ∧ KWc c ∧ KWm m ∧ fwC c
def RLc : Ws := [(108, none), (110, none), (112, none), (113, none), (114, none), (115, none), (116, none), (117, none), (118, none), (119, none), (120, none), (121, none), (122, none), (123, none), (124, none), (150, none), (151, none), (152, some 6), (153, none), (154, none), (155, none), (156, none), (100, some 11), (160, none), (161, none), (162, none), (163, none), (164, none), (165, none), (166, none), (167, none), (168, none), (169, none), (170, none), (171, none), (172, none), (173, none), (174, none), (175, none), (176, none), (177, none), (178, none), (179, none), (180, none), (107, none), (207, none)]
theorem djw_sub {V W U : Ws} (hs : sbw V W = true) (hd : djw W U = true) : ∀ k j, wm V k j = true → wm U k j = false := fun k j h => djw_wm hd (sbw_wm hs h)
theorem RFn_e {P L n : Nat} {c m c1 m1 : Hp} (H : RFn P L n c m) (ec : ∀ k j, wm WFc k j = true → c1.1 k j = c.1 k j) (e59 : m1.1 0 59 = m.1 0 59) (e40 : ∀ k j, 40 ≤ k → k ≤ 43 → m1.1 k j = m.1 k j) : RFn P L n c1 m1 := by
  obtain ⟨h1, h2, h3, h4, h5⟩ := H
  refine ⟨h1, by rw [ec 152 6 rfl]; exact h2, by rw [e59]; exact h3, fun i hi => ?_, fun i hi => ?_⟩
  · rw [ec 153 i rfl, ec 154 i rfl, ec 155 i rfl, ec 156 i rfl, e40 40 i (by decide) (by decide), e40 41 i (by decide) (by decide), e40 42 i (by decide) (by decide), e40 43 i (by decide) (by decide)]
    exact h4 i hi
  · rw [e40 40 i (by decide) (by decide), e40 41 i (by decide) (by decide), e40 42 i (by decide) (by decide)]
    exact h5 i hi
theorem RHn_e {P L : Nat} {c m c1 m1 : Hp} (H : RHn P L c m) (ec : ∀ k j, wm WHc k j = true → c1.1 k j = c.1 k j) (e60 : ∀ k j, 60 ≤ k → k ≤ 64 → m1.1 k j = m.1 k j) : RHn P L c1 m1 := by
  obtain ⟨a, h1, h2, h3⟩ := H
  refine ⟨a, h1, by rw [ec 100 11 rfl]; exact h2, fun s hs => ?_⟩
  have h := h3 s hs
  have q : ∀ k j, k < 7 → c1.1 (160 + 7 * s + k) j = c.1 (160 + 7 * s + k) j := fun k j hk => ec _ _ (WHc_s hs hk)
  have f61 : ∀ k, 60 ≤ k → k ≤ 64 → m1.1 k = m.1 k := fun k k1 k2 => funext fun j => e60 k j k1 k2
  unfold slt at h ⊢
  rw [f61 60 (by decide) (by decide), f61 61 (by decide) (by decide), f61 62 (by decide) (by decide), f61 63 (by decide) (by decide), f61 64 (by decide) (by decide)]
  have q0 := q 0
  simp only [Nat.add_zero] at q0
  rw [q0 6 (by decide)]
  have f1 : ∀ k, k < 7 → c1.1 (160 + 7 * s + k) = c.1 (160 + 7 * s + k) := fun k hk => funext fun j => q k j hk
  rw [f1 1 (by decide), f1 2 (by decide), f1 3 (by decide), f1 4 (by decide)]
  exact h
theorem Rel_w {c m c1 m1 : Hp} {W : Ws} {T1 : Nat} (H : RelAO c m) (ec : Agr W c c1) (hc : djw RLc W = true) (em : bkE (lv m) m m1) (e59 : m1.1 0 59 = m.1 0 59) (e40 : ∀ k j, 40 ≤ k → k ≤ 43 → m1.1 k j = m.1 k j) (e60 : ∀ k j, 60 ≤ k → k ≤ 64 → m1.1 k j = m.1 k j) (e7 : ∀ j, m1.2 7 j = m.2 7 j) (t1 : T1 ≤ 2000) (rt : RTn T1 c1 m1) (pl : c1.1 100 12 = m1.1 0 17) : RelAO c1 m1 := by
  obtain ⟨T, F, A, Ls, cs, h1, h2, h3, h4, h5, h6, h7, h8, h9⟩ := H
  have q : ∀ V : Ws, sbw V RLc = true → ∀ k j, wm V k j = true → c1.1 k j = c.1 k j := fun V hs k j w => (ec k j (djw_sub hs hc k j w)).1
  obtain ⟨l0, p0, _, b0, n0⟩ := BK_num h4.1 em
  have hB : djw BVc W = true := by
    have : ∀ (V U : Ws), sbw BVc RLc = true → djw RLc U = true → djw BVc U = true := fun V U s d => by
      unfold djw sbw at *
      revert s d
      simp only [List.all_eq_true]
      intro s d x hx
      exact d x (by
        have := s x hx
        revert hx
        have hx' : ∀ y, y ∈ BVc → y ∈ RLc := by decide
        exact fun hx => hx' x hx)
    exact this [] W rfl hc
  refine ⟨T1, F, A, Ls, cs, t1, rt, pl, BK_w h4 ec hB em, ?_, ?_, fun i hi => ?_, fun i hi => ?_, fun i hi => ?_⟩
  · rw [p0, n0]
    exact RFn_e h5 (q WFc rfl) e59 e40
  · rw [p0, n0]
    exact RHn_e h6 (q WHc rfl) e60
  · rw [(ec 107 i (djw_wm hc rfl)).2]; exact h7 i hi
  · rw [e7]; exact h8 i hi
  · rw [(ec 207 i (djw_wm hc rfl)).1]; exact h9 i hi
theorem RTn_e {T : Nat} {c m c1 m1 : Hp} (H : RTn T c m) (e1 : c1.1 101 1 = c.1 101 1) (e2 : ∀ j, c1.1 102 j = c.1 102 j) (e3 : m1.1 0 2 = m.1 0 2) (e4 : ∀ j, m1.1 1 j = m.1 1 j) : RTn T c1 m1 := by
  obtain ⟨h1, h2, h3⟩ := H
  exact ⟨by rw [e1]; exact h1, by rw [e3]; exact h2, fun i hi => by rw [e2, e4]; exact h3 i hi⟩
theorem Rel_q {c m c1 m1 : Hp} (H : RelAO c m) (ec : Agr SC c c1) (em : Agr SM m m1) : RelAO c1 m1 := by
  have H' := H
  obtain ⟨T, F, A, Ls, cs, h1, h2, h3, _⟩ := H'
  refine Rel_w H ec rfl (bk_ag em rfl) (em.i 0 59 rfl) (fun k j k1 k2 => ?_) (fun k j k1 k2 => ?_) (fun j => em.l 7 j rfl) h1 (RTn_e h2 (ec.i 101 1 rfl) (fun j => ec.i 102 j rfl) (em.i 0 2 rfl) fun j => em.i 1 j rfl) (by rw [ec.i 100 12 rfl, em.i 0 17 rfl]; exact h3)
  · obtain rfl | rfl | rfl | rfl : k = 40 ∨ k = 41 ∨ k = 42 ∨ k = 43 := by omega
    all_goals exact em.i _ j rfl
  · obtain rfl | rfl | rfl | rfl | rfl : k = 60 ∨ k = 61 ∨ k = 62 ∨ k = 63 ∨ k = 64 := by omega
    all_goals exact em.i _ j rfl
theorem Rel_s {α : Type} {c m : Hp} {oc om : Option (α × Hp)} (H : RelAO c m) (S : SimQ c m oc om) : ∃ (r : α) (c1 m1 : Hp), oc = some (r, c1) ∧ om = some (r, m1) ∧ RelAO c1 m1 := by
  obtain ⟨r, c1, m1, e1, e2, a1, a2⟩ := S
  exact ⟨r, c1, m1, e1, e2, Rel_q H a1 a2⟩
