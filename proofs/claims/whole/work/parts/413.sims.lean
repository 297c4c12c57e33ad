/-- all questions, both -/
theorem Rel_F {n : Nat} {c m c1 m1 : Hp} (H : RelAO c m) (R : RFn (nP m) (nL m) n c1 m1) (ec : Agr WFc c c1) (em : Agr WFm m m1) : RelAO c1 m1 := by
  obtain ⟨T, F, A, Ls, cs, h1, h2, h3, h4, h5, h6, h7, h8, h9⟩ := H
  have bk : bkE (lv m) m m1 := bk_ag em rfl
  obtain ⟨l0, p0, _, b0, n0⟩ := BK_num h4.1 bk
  refine ⟨T, n, A, Ls, cs, h1, RTn_e h2 (ec.i 101 1 rfl) (fun j => ec.i 102 j rfl) (em.i 0 2 rfl) (fun j => em.i 1 j rfl), by rw [ec.i 100 12 rfl, em.i 0 17 rfl]; exact h3, BK_w h4 ec rfl bk, by rw [p0, n0]; exact R, ?_, fun i hi => by rw [ec.l 107 i rfl]; exact h7 i hi, fun i hi => by rw [em.l 7 i rfl]; exact h8 i hi, fun i hi => by rw [ec.i 207 i rfl]; exact h9 i hi⟩
  rw [p0, n0]
  refine RHn_e h6 (fun k j w => (ec k j (djw_wm (show djw WHc WFc = true from rfl) w)).1) fun k j k1 k2 => ?_
  obtain rfl | rfl | rfl | rfl | rfl : k = 60 ∨ k = 61 ∨ k = 62 ∨ k = 63 ∨ k = 64 := by omega
  all_goals exact em.i _ j rfl
theorem Rel_H {c m c1 m1 : Hp} (H : RelAO c m) (R : RHn (nP m) (nL m) c1 m1) (ec : Agr WHc c c1) (em : Agr WHm m m1) : RelAO c1 m1 := by
  obtain ⟨T, F, A, Ls, cs, h1, h2, h3, h4, h5, h6, h7, h8, h9⟩ := H
  have bk : bkE (lv m) m m1 := bk_ag em rfl
  obtain ⟨l0, p0, _, b0, n0⟩ := BK_num h4.1 bk
  refine ⟨T, F, A, Ls, cs, h1, RTn_e h2 (ec.i 101 1 rfl) (fun j => ec.i 102 j rfl) (em.i 0 2 rfl) (fun j => em.i 1 j rfl), by rw [ec.i 100 12 rfl, em.i 0 17 rfl]; exact h3, BK_w h4 ec rfl bk, ?_, by rw [p0, n0]; exact R, fun i hi => by rw [ec.l 107 i rfl]; exact h7 i hi, fun i hi => by rw [em.l 7 i rfl]; exact h8 i hi, fun i hi => by rw [ec.i 207 i rfl]; exact h9 i hi⟩
  rw [p0, n0]
  refine RFn_e h5 (fun k j w => (ec k j (djw_wm (show djw WFc WHc = true from rfl) w)).1) (em.i 0 59 rfl) fun k j k1 k2 => ?_
  obtain rfl | rfl | rfl | rfl : k = 40 ∨ k = 41 ∨ k = 42 ∨ k = 43 := by omega
  all_goals exact em.i _ j rfl
theorem Rel_T {c m c1 m1 : Hp} {T1 : Nat} (H : RelAO c m) (t1 : T1 ≤ 2000) (rt : RTn T1 c1 m1) (ec : Agr WTc c c1) (em : Agr WTm m m1) : RelAO c1 m1 := by
  have H' := H
  obtain ⟨T, F, A, Ls, cs, h1, h2, h3, _⟩ := H'
  refine Rel_w H ec rfl (bk_ag em rfl) (em.i 0 59 rfl) (fun k j k1 k2 => ?_) (fun k j k1 k2 => ?_) (fun j => em.l 7 j rfl) t1 rt (by rw [ec.i 100 12 rfl, em.i 0 17 rfl]; exact h3)
  · obtain rfl | rfl | rfl | rfl : k = 40 ∨ k = 41 ∨ k = 42 ∨ k = 43 := by omega
    all_goals exact em.i _ j rfl
  · obtain rfl | rfl | rfl | rfl | rfl : k = 60 ∨ k = 61 ∨ k = 62 ∨ k = 63 ∨ k = 64 := by omega
    all_goals exact em.i _ j rfl
theorem Rel_FS {c m : Hp} {oc om : Option (Int32 × Hp)} (H : RelAO c m) (S : FS (nP m) (nL m) c m oc om) : ∃ (r : Int32) (c1 m1 : Hp), oc = some (r, c1) ∧ om = some (r, m1) ∧ RelAO c1 m1 := by
  obtain ⟨r, c1, m1, e1, e2, ⟨n, R⟩, a1, a2⟩ := S
  exact ⟨r, c1, m1, e1, e2, Rel_F H R a1 a2⟩
theorem Rel_I {c m : Hp} {oc om : Option (Int32 × Hp)} (H : RelAO c m) (S : ∃ r, oc = some (r, c) ∧ om = some (r, m)) : ∃ (r : Int32) (c1 m1 : Hp), oc = some (r, c1) ∧ om = some (r, m1) ∧ RelAO c1 m1 := by
  obtain ⟨r, e1, e2⟩ := S
  exact ⟨r, c, m, e1, e2, H⟩
theorem sem_DB {A : Nat → Option Cd} {Ls : Nat → List Lit} {m : Hp} : DB (semS A Ls m) := fun _ _ => di_b
theorem sims_AO : Sims RelAO := by
  have D : ∀ {c m}, RelAO c m → RD0 c m := fun H => by obtain ⟨_, _, _, _, _, _, _, _, h4, _⟩ := H; exact h4.1
  have R : ∀ {c m}, RelAO c m → ∃ F, RFn (nP m) (nL m) F c m := fun H => by obtain ⟨_, F, _, _, _, _, _, _, _, h5, _⟩ := H; exact ⟨F, h5⟩
  have Hh : ∀ {c m}, RelAO c m → RHn (nP m) (nL m) c m := fun H => by obtain ⟨_, _, _, _, _, _, _, _, _, _, h6, _⟩ := H; exact h6
  have Q : ∀ {c m}, RelAO c m → ∃ S F, QH S F c m ∧ GB S ∧ DB S := fun H => by
    obtain ⟨_, F, A, Ls, _, _, _, _, h4, h5, _⟩ := H
    exact ⟨_, F, BK_QH h4 h5, sem_GB, sem_DB⟩
  have XX : ∀ {c m}, RelAO c m → ∃ A, XA A c m := fun H => by
    obtain ⟨_, F, A, Ls, _, _, _, _, h4, _⟩ := H
    exact ⟨_, BK_XA h4⟩
  have FW : ∀ {c m}, RelAO c m → fwC c := fun H => by obtain ⟨_, _, _, _, _, _, _, _, _, _, _, _, _, h9⟩ := H; exact h9
  refine ⟨?_, ?_, ?_, ?_, ?_, ?_, ?_, ?_, ?_, ?_, ?_, ?_, ?_, ?_, ?_, ?_, ?_, ?_, ?_, ?_, ?_, ?_, ?_, ?_, ?_, ?_, ?_, ?_, ?_, ?_, ?_, ?_, ?_, ?_, ?_, ?_, ?_, ?_, ?_, ?_, ?_, ?_, ?_⟩
  · intro a1 a2 a3 a4 a5 c m H
    obtain ⟨T, _, _, _, _, h1, h2, _⟩ := id H
    obtain ⟨r, c1, m1, e1, e2, ⟨T1, t1, rt⟩, b1, b2⟩ := sim_feed0 a1 a2 a3 a4 a5 h2 h1
    exact ⟨r, c1, m1, e1, e2, Rel_T H t1 rt b1 b2⟩
  · intro a1 c m H
    obtain ⟨T, _, _, _, _, h1, h2, _⟩ := id H
    obtain ⟨r, c1, m1, e1, e2, ⟨T1, t1, rt⟩, b1, b2⟩ := sim_back0 a1 h2 h1
    exact ⟨r, c1, m1, e1, e2, Rel_T H t1 rt b1 b2⟩
  · intro c m H; exact sim_read1 H
  · intro c m H
    obtain ⟨T, _, _, _, _, h1, h2, h3, _⟩ := id H
    exact ⟨c.1 100 12, c, m, rfl, by rw [h3]; rfl, H⟩
  · intro a1 a2 c m H; exact Rel_I H (sim_letter0 a1 a2 (D H))
  · intro a1 a2 c m H; obtain ⟨S, F, q, _⟩ := Q H; exact Rel_s H (sim_dies0 a1 a2 q)
  · intro a1 a2 c m H; obtain ⟨S, F, q, _⟩ := Q H; exact Rel_s H (sim_fee0 a1 a2 q)
  · intro a1 c m H; exact Rel_I H (sim_clerk0 a1 (D H))
  · intro a1 a2 c m H; exact Rel_I H (sim_barred0 a1 a2 (D H))
  · intro a1 a2 a3 c m H; obtain ⟨F, f⟩ := R H; exact Rel_FS H (sim_rumour0 a1 a2 a3 (D H) f)
  · intro a1 a2 c m H; obtain ⟨F, f⟩ := R H; exact Rel_FS H (sim_death0 a1 a2 (D H) f)
  · intro a1 a2 c m H; obtain ⟨F, f⟩ := R H; exact Rel_FS H (sim_takeBack0 a1 a2 (D H) f)
  · intro a1 a2 c m H; obtain ⟨F, f⟩ := R H; exact Rel_FS H (sim_early0 a1 a2 (D H) f)
  · intro a1 a2 a3 c m H; obtain ⟨F, f⟩ := R H; exact Rel_FS H (sim_date0 a1 a2 a3 (D H) f)
  · intro a1 a2 c m H; obtain ⟨F, f⟩ := R H; exact Rel_FS H (sim_flood0 a1 a2 (D H) f)
  · intro a1 c m H; obtain ⟨F, f⟩ := R H; exact Rel_FS H (sim_annul0 a1 f)
  · intro a1 a2 c m H; obtain ⟨F, f⟩ := R H; exact Rel_I H (sim_fact0 a1 a2 f)
  · intro a1 a2 a3 c m H; obtain ⟨F, f⟩ := R H; exact Rel_I H (sim_weighs0 a1 a2 a3 (D H) f)
  · intro a1 a2 a3 a4 c m H; obtain ⟨S, F, q, _⟩ := Q H; exact Rel_s H (sim_run0 a1 a2 a3 a4 q)
  · intro a1 a2 a3 c m H; obtain ⟨S, F, q, _⟩ := Q H; exact Rel_s H (sim_opened0 a1 a2 a3 q)
  · intro a1 a2 a3 c m H; obtain ⟨S, F, q, _⟩ := Q H; exact Rel_s H (sim_why0 a1 a2 a3 q)
  · intro a1 c m H; obtain ⟨S, F, q, _⟩ := Q H; exact Rel_s H (sim_harm0 a1 q)
  · intro a1 c m H; obtain ⟨S, F, q, _⟩ := Q H; exact Rel_s H (sim_tooSoon0 a1 q)
  · intro a1 a2 a3 c m H; obtain ⟨F, f⟩ := R H; exact Rel_I H (sim_wrong0 a1 a2 a3 (D H) f)
  · intro a1 a2 a3 c m H; obtain ⟨S, F, q, _⟩ := Q H; exact Rel_s H (sim_late0 a1 a2 a3 q)
  · intro a1 a2 c m H; obtain ⟨S, F, q, _⟩ := Q H; exact Rel_s H (sim_watch0 a1 a2 q)
  · intro a1 a2 c m H; obtain ⟨S, F, q, _⟩ := Q H; exact Rel_s H (sim_gain0 a1 a2 q)
  · intro a1 a2 a3 c m H; obtain ⟨S, F, q, _⟩ := Q H; exact Rel_s H (sim_income0 a1 a2 a3 q)
  · intro a1 a2 c m H; obtain ⟨S, F, q, _⟩ := Q H; exact Rel_s H (sim_next0 a1 a2 q)
  · intro a1 a2 c m H; obtain ⟨S, F, q, g, _⟩ := Q H; exact Rel_s H (sim_looks0 a1 a2 g q)
  · intro a1 a2 a3 a4 a5 c m H; obtain ⟨S, F, q, _⟩ := Q H; exact Rel_s H (sim_need0 a1 a2 a3 a4 a5 q (FW H))
  · intro a1 c m H; obtain ⟨A, x⟩ := XX H; exact Rel_s H (sim_asks0 a1 (D H) x)
  · intro a1 c m H; obtain ⟨A, x⟩ := XX H; exact Rel_s H (sim_ring0 a1 (D H) x)
  · intro c m H; obtain ⟨A, x⟩ := XX H; exact Rel_s H (sim_rings0 (D H) x)
  · intro c m H; obtain ⟨A, x⟩ := XX H; exact Rel_s H (sim_burn0 (D H) x)
  · intro a1 a2 a3 a4 a5 c m H; obtain ⟨S, F, q, _⟩ := Q H; exact Rel_s H (sim_future0 a1 a2 a3 a4 a5 q)
  · intro a1 a2 a3 c m H; obtain ⟨S, F, q, _⟩ := Q H; exact Rel_s H (sim_lives0 a1 a2 a3 q)
  · intro a1 a2 a3 c m H; obtain ⟨S, F, q, _, d⟩ := Q H; exact Rel_s H (sim_odds0 a1 a2 a3 q d)
  · intro a1 a2 a3 c m H; obtain ⟨S, F, q, _⟩ := Q H; exact Rel_s H (sim_life0 a1 a2 a3 q)
  · intro a1 a2 a3 a4 c m H; obtain ⟨S, F, q, _⟩ := Q H; exact Rel_s H (sim_chance0 a1 a2 a3 a4 q)
  · intro a1 c m H
    obtain ⟨F, f⟩ := R H
    obtain ⟨r, c1, m1, e1, e2, h, b1, b2⟩ := sim_hold0 a1 f (Hh H)
    exact ⟨r, c1, m1, e1, e2, Rel_H H h b1 b2⟩
  · intro a1 c m H
    obtain ⟨F, f⟩ := R H
    obtain ⟨r, c1, m1, e1, e2, ⟨n, h⟩, b1, b2⟩ := sim_restore0 a1 f (Hh H)
    exact ⟨r, c1, m1, e1, e2, Rel_F H h b1 b2⟩
  · intro a1 c m H
    obtain ⟨F, f⟩ := R H
    obtain ⟨T, _, _, _, _, h1, h2, _⟩ := id H
    exact Rel_I H (sim_count0 a1 (D H) f (Hh H) h2)
