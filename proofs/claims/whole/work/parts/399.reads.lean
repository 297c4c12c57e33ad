/-- words that ask whether a letter was read -/
theorem dep_ops : ∀ {e : Cd} {d r : Nat}, dep e d = some r → ∀ x, x ∈ e → x.1 ≤ 5 ∧ (x.1 = 1 → x.2 < 4)
  | [], _, _, _, x, hx => by cases hx
  | y :: e, d, r, h, x, hx => by
    rw [dep] at h
    by_cases c2 : y.1 < 2
    · rw [if_pos c2] at h
      by_cases c3 : d < 60 ∧ (y.1 = 1 → y.2 < 4)
      · rw [if_pos c3] at h
        rcases List.mem_cons.mp hx with rfl | hx
        · exact ⟨by omega, c3.2⟩
        · exact dep_ops h x hx
      · rw [if_neg c3] at h; cases h
    · rw [if_neg c2] at h
      by_cases c3 : y.1 ≤ 5 ∧ 2 ≤ d
      · rw [if_pos c3] at h
        rcases List.mem_cons.mp hx with rfl | hx
        · exact ⟨c3.1, fun z => by omega⟩
        · exact dep_ops h x hx
      · rw [if_neg c3] at h; cases h
def wOk (w : Nat × Nat) : Prop := w.1 < 256 ∧ w.2 < 2 ^ 20
theorem ex_ok {e : Cd} (h : okCd e) {w : Nat × Nat} (hw : w ∈ e.map ex2w) : wOk w ∧ w.1 ≠ 29 := by
  obtain ⟨x, hx, rfl⟩ := List.mem_map.mp hw
  obtain ⟨a, b⟩ := dep_ops h.1 x hx
  have d := h.2 x hx
  unfold wOk ex2w
  by_cases c0 : x.1 = 0
  · rw [if_pos c0]; exact ⟨⟨(by show 3 < 256; decide), d⟩, (by show 3 ≠ 29; decide)⟩
  · rw [if_neg c0]
    by_cases c1 : x.1 = 1
    · rw [if_pos c1]
      have := b c1
      exact ⟨⟨(by show 30 + x.2 < 256; omega), (by show 0 < 2 ^ 20; decide)⟩, (by show 30 + x.2 ≠ 29; omega)⟩
    · rw [if_neg c1]
      exact ⟨⟨(by show x.1 + 3 < 256; omega), (by show 0 < 2 ^ 20; decide)⟩, (by show x.1 + 3 ≠ 29; omega)⟩
def rdW (W : Cd) : List Nat := W.filterMap (fun w => if w.1 = 29 then some w.2 else none)
def rdL (ls : List Lit) : List Nat := ls.filterMap (fun x => if x.1.1 = 5 then some x.1.2.2.2 else none)
def wS (g : Nat → Nat) (w : Nat × Nat) : Nat × Nat := if w.1 = 29 then (29, g w.2) else w
def lS (g : Nat → Nat) (x : Lit) : Lit := if x.1.1 = 5 then ((5, x.1.2.1, x.1.2.2.1, g x.1.2.2.2), x.2) else x
theorem rdW_app (V W : Cd) : rdW (V ++ W) = rdW V ++ rdW W := List.filterMap_append
theorem rdW_no {W : Cd} (h : ∀ w, w ∈ W → w.1 ≠ 29) : rdW W = [] := by
  unfold rdW
  rw [List.filterMap_eq_nil_iff]
  intro w hw
  rw [if_neg (h w hw)]
theorem wS_no {g : Nat → Nat} {W : Cd} (h : ∀ w, w ∈ W → w.1 ≠ 29) : W.map (wS g) = W := by
  conv => rhs; rw [← List.map_id W]
  exact List.map_congr_left fun w hw => by unfold wS; rw [if_neg (h w hw)]; rfl
/-- one literal -/
theorem lit_all {x : Lit} (h : okL x) (h4 : x.1.2.2.2 < 401) (g : Nat → Nat) : (∀ w, w ∈ litW x → wOk w) ∧ rdW (litW x) = rdL [x] ∧ (litW x).map (wS g) = litW (lS g x) := by
  have nt : ∀ w, w ∈ (if x.1.2.1 = true then [((27 : Nat), (0 : Nat))] else []) → wOk w ∧ w.1 ≠ 29 := fun w hw => by
    split at hw
    · rw [List.mem_singleton] at hw
      subst hw
      exact ⟨⟨by decide, by decide⟩, by decide⟩
    · cases hw
  unfold litW
  rw [rdW_app, rdW_no fun w hw => (nt w hw).2, List.append_nil, List.map_append, wS_no fun w hw => (nt w hw).2]
  by_cases c5 : x.1.1 = 5
  · have e1 : rawW x = [(29, x.1.2.2.2)] := by unfold rawW; rw [if_neg (by omega), if_pos c5]
    have e2 : lS g x = ((5, x.1.2.1, x.1.2.2.1, g x.1.2.2.2), x.2) := by unfold lS; rw [if_pos c5]
    rw [e1, e2]
    refine ⟨fun w hw => ?_, ?_, ?_⟩
    · rcases List.mem_append.mp hw with hw | hw
      · rw [List.mem_singleton] at hw
        subst hw
        exact ⟨(by show 29 < 256; decide), (by show x.1.2.2.2 < 2 ^ 20; omega)⟩
      · exact (nt w hw).1
    · show rdW [(29, x.1.2.2.2)] = rdL [x]
      unfold rdW rdL
      rw [List.filterMap_cons, List.filterMap_cons, if_pos c5, if_pos rfl]
      rfl
    · rfl
  · have e2 : lS g x = x := by unfold lS; rw [if_neg c5]
    have no : ∀ w, w ∈ rawW x → wOk w ∧ w.1 ≠ 29 := fun w hw => by
      unfold rawW at hw
      by_cases c4 : x.1.1 = 4
      · rw [if_pos c4, List.mem_singleton] at hw
        subst hw
        exact ⟨⟨(by show 28 < 256; decide), (by show x.1.2.2.2 < 2 ^ 20; omega)⟩, (by show 28 ≠ 29; decide)⟩
      · rw [if_neg c4, if_neg c5] at hw
        obtain ⟨o1, o2⟩ := h.2 (by have := h.1; omega)
        rcases List.mem_append.mp hw with hw | hw
        · exact ex_ok o1 hw
        · rcases List.mem_append.mp hw with hw | hw
          · exact ex_ok o2 hw
          · rw [List.mem_singleton] at hw
            subst hw
            have := h.1
            exact ⟨⟨(by show 9 + x.1.1 < 256; omega), (by show 0 < 2 ^ 20; decide)⟩, (by show 9 + x.1.1 ≠ 29; omega)⟩
    rw [e2, wS_no fun w hw => (no w hw).2, rdW_no fun w hw => (no w hw).2]
    refine ⟨fun w hw => ?_, ?_, rfl⟩
    · rcases List.mem_append.mp hw with hw | hw
      · exact (no w hw).1
      · exact (nt w hw).1
    · unfold rdL
      rw [List.filterMap_cons, if_neg c5]
      rfl
theorem lS_13 {g : Nat → Nat} {x : Lit} : (lS g x).1.2.2.1 = x.1.2.2.1 ∧ (lS g x).1.2.1 = x.1.2.1 ∧ (lS g x).1.1 = x.1.1 ∧ (lS g x).2 = x.2 := by
  unfold lS
  split
  · next h => exact ⟨rfl, rfl, h.symm, rfl⟩
  · exact ⟨rfl, rfl, rfl, rfl⟩
theorem rdL_c (x : Lit) (r : List Lit) : rdL (x :: r) = rdL [x] ++ rdL r := by
  rw [show x :: r = [x] ++ r from rfl]
  exact List.filterMap_append
theorem cnd_all (g : Nat → Nat) : ∀ (r : List Lit) (o : Bool), (∀ y, y ∈ r → okL y ∧ y.1.2.2.2 < 401) → (∀ w, w ∈ cndW r o → wOk w) ∧ rdW (cndW r o) = rdL r ∧ (cndW r o).map (wS g) = cndW (r.map (lS g)) o
  | [], o, _ => by
    have nt : ∀ w, w ∈ (if o = true then [((25 : Nat), (0 : Nat))] else []) → wOk w ∧ w.1 ≠ 29 := fun w hw => by
      split at hw
      · rw [List.mem_singleton] at hw
        subst hw
        exact ⟨⟨by decide, by decide⟩, by decide⟩
      · cases hw
    rw [List.map_nil, cndW]
    exact ⟨fun w hw => (nt w hw).1, rdW_no fun w hw => (nt w hw).2, wS_no fun w hw => (nt w hw).2⟩
  | x :: r, o, h => by
    have nt : ∀ w, w ∈ (if o = true then [((25 : Nat), (0 : Nat))] else []) → wOk w ∧ w.1 ≠ 29 := fun w hw => by
      split at hw
      · rw [List.mem_singleton] at hw
        subst hw
        exact ⟨⟨by decide, by decide⟩, by decide⟩
      · cases hw
    obtain ⟨hx1, hx2⟩ := h x (by simp)
    obtain ⟨a1, a2, a3⟩ := lit_all hx1 hx2 g
    have hr : ∀ y, y ∈ r → okL y ∧ y.1.2.2.2 < 401 := fun y hy => h y (by simp [hy])
    rw [List.map_cons, cndW, cndW, lS_13.1, rdL_c]
    by_cases c : x.1.2.2.1 = true
    · obtain ⟨b1, b2, b3⟩ := cnd_all g r true hr
      rw [if_pos c, if_pos c, rdW_app, rdW_app, rdW_no fun w hw => (nt w hw).2, a2, b2, List.map_append, List.map_append, wS_no fun w hw => (nt w hw).2, a3, b3]
      refine ⟨fun w hw => ?_, rfl, rfl⟩
      rcases List.mem_append.mp hw with hw | hw
      · exact (nt w hw).1
      · rcases List.mem_append.mp hw with hw | hw
        · exact a1 w hw
        · exact b1 w hw
    · obtain ⟨b1, b2, b3⟩ := cnd_all g r o hr
      rw [if_neg c, if_neg c, rdW_app, rdW_app, a2, b2, List.map_append, List.map_append, a3, b3]
      refine ⟨fun w hw => ?_, rfl, rfl⟩
      rcases List.mem_append.mp hw with hw | hw
      · exact a1 w hw
      · rcases List.mem_append.mp hw with hw | hw
        · rw [List.mem_singleton] at hw
          subst hw
          exact ⟨by decide, by decide⟩
        · exact b1 w hw
theorem let_all (g : Nat → Nat) {ls : List Lit} (h : ∀ y, y ∈ ls → okL y ∧ y.1.2.2.2 < 401) : (∀ w, w ∈ letW ls → wOk w) ∧ rdW (letW ls) = rdL ls ∧ (letW ls).map (wS g) = letW (ls.map (lS g)) := by
  cases ls with
  | nil => exact ⟨fun w hw => (by cases hw), rfl, rfl⟩
  | cons x r =>
    obtain ⟨hx1, hx2⟩ := h x (by simp)
    obtain ⟨a1, a2, a3⟩ := lit_all hx1 hx2 g
    obtain ⟨b1, b2, b3⟩ := cnd_all g r false fun y hy => h y (by simp [hy])
    rw [List.map_cons, letW, letW, rdW_app, a2, b2, rdL_c x r, List.map_append, a3, b3]
    refine ⟨fun w hw => ?_, rfl, rfl⟩
    rcases List.mem_append.mp hw with hw | hw
    · exact a1 w hw
    · exact b1 w hw
theorem okL_S {g : Nat → Nat} {x : Lit} (h : okL x) : okL (lS g x) := by
  unfold okL
  rw [lS_13.2.2.1, lS_13.2.2.2]
  exact h
