def g_tpC : List (Nat × Shp) := [(101, .inl (8, [some 102, none])), (102, .inr (.inl (2, 2000)))]
def g_tkC : List (Nat × Shp) := [(103, .inl (9, [some 104, some 105, some 106, some 107, none])), (104, .inr (.inl (0, 401))), (105, .inr (.inl (0, 401))), (106, .inr (.inl (1, 401))), (107, .inr (.inl (1, 18)))]
def g_paC : List (Nat × Shp) := [(142, .inl (5, [some 103, some 125, some 143, some 144, some 145, some 146, none, none, none, none])), (143, .inr (.inl (1, 10))), (144, .inr (.inl (1, 4))), (145, .inr (.inl (1, 10))), (146, .inr (.inl (0, 64)))]
def g_reC : List (Nat × Shp) := [(147, .inl (6, [some 108, some 148, some 149, some 150, some 151, none, none, none])), (148, .inr (.inl (0, 64))), (149, .inr (.inl (0, 4))), (150, .inr (.inl (0, 600))), (151, .inr (.inl (0, 240)))]
def g_faC : List (Nat × Shp) := [(152, .inl (3, [some 153, some 154, some 155, some 156, some 157, some 158, none])), (153, .inr (.inl (0, 60))), (154, .inr (.inl (0, 60))), (155, .inr (.inl (0, 60))), (156, .inr (.inl (0, 60))), (157, .inr (.inl (0, 60))), (158, .inr (.inl (0, 61)))]
def g_slC : List (Nat × Shp) := [(159, .inr (.inr (4, [160, 167, 174]))), (160, .inl (3, [some 161, some 162, some 163, some 164, some 165, some 166, none])), (161, .inr (.inl (0, 60))), (162, .inr (.inl (0, 60))), (163, .inr (.inl (0, 60))), (164, .inr (.inl (0, 60))), (165, .inr (.inl (0, 60))), (166, .inr (.inl (0, 61))), (167, .inl (3, [some 168, some 169, some 170, some 171, some 172, some 173, none])), (168, .inr (.inl (0, 60))), (169, .inr (.inl (0, 60))), (170, .inr (.inl (0, 60))), (171, .inr (.inl (0, 60))), (172, .inr (.inl (0, 60))), (173, .inr (.inl (0, 61))), (174, .inl (3, [some 175, some 176, some 177, some 178, some 179, some 180, none])), (175, .inr (.inl (0, 60))), (176, .inr (.inl (0, 60))), (177, .inr (.inl (0, 60))), (178, .inr (.inl (0, 60))), (179, .inr (.inl (0, 60))), (180, .inr (.inl (0, 61)))]
def g_coC : List (Nat × Shp) := [(181, .inl (2, [some 108, some 152, some 147, some 182, some 190, some 198, none, none, none])), (182, .inl (1, [some 108, some 152, some 147, some 183, some 184, some 185, some 186, some 187, some 188, some 189, none, none, none, none, none])), (183, .inr (.inl (0, 10))), (184, .inr (.inl (0, 10))), (185, .inr (.inl (0, 10))), (186, .inr (.inl (0, 10))), (187, .inr (.inl (0, 10))), (188, .inr (.inl (0, 10))), (189, .inr (.inl (0, 60))), (190, .inl (1, [some 108, some 152, some 147, some 191, some 192, some 193, some 194, some 195, some 196, some 197, none, none, none, none, none])), (191, .inr (.inl (0, 10))), (192, .inr (.inl (0, 10))), (193, .inr (.inl (0, 10))), (194, .inr (.inl (0, 10))), (195, .inr (.inl (0, 10))), (196, .inr (.inl (0, 10))), (197, .inr (.inl (0, 60))), (198, .inl (1, [some 108, some 152, some 147, some 199, some 200, some 201, some 202, some 203, some 204, some 205, none, none, none, none, none])), (199, .inr (.inl (0, 10))), (200, .inr (.inl (0, 10))), (201, .inr (.inl (0, 10))), (202, .inr (.inl (0, 10))), (203, .inr (.inl (0, 10))), (204, .inr (.inl (0, 10))), (205, .inr (.inl (0, 60)))]
def g_riC : List (Nat × Shp) := [(209, .inl (7, [some 108, some 210])), (210, .inr (.inl (0, 10)))]
set_option maxRecDepth 20000 in
theorem cv_tape {cy : Nat → ClassId} {a : Nat} {w1 : va_W} (h : ∃ q1 : Nat, w1 = [(a, .inr (8, [.ref q1, .int 0])), (q1, .inl (cy 2, 2000, .inl (fun _ => 0)))]) : ∃ q : Nat → Nat, q 101 = a ∧ w1 = WD g_tpC q cy h00 := by
  obtain ⟨q1, rfl⟩ := h
  exact ⟨fun k => [a, q1].getD (k - 101) 0, rfl, rfl⟩
set_option maxRecDepth 20000 in
theorem cv_pars {cy : Nat → ClassId} {a r1 r2 : Nat} {w1 : va_W} (h : ∃ q1 q2 q3 q4 : Nat, w1 = [(a, .inr (5, [.ref r1, .ref r2, .ref q1, .ref q2, .ref q3, .ref q4, .int 0, .int 0, .int 0, .int 0])), (q1, .inl (cy 1, 10, .inr (.inl (fun _ => 0)))), (q2, .inl (cy 1, 4, .inr (.inl (fun _ => 0)))), (q3, .inl (cy 1, 10, .inr (.inl (fun _ => 0)))), (q4, .inl (cy 0, 64, .inl (fun _ => 0)))]) : ∃ q : Nat → Nat, q 142 = a ∧ q 103 = r1 ∧ q 125 = r2 ∧ w1 = WD g_paC q cy h00 := by
  obtain ⟨q1, q2, q3, q4, rfl⟩ := h
  exact ⟨fun k => if k = 103 then r1 else if k = 125 then r2 else [a, q1, q2, q3, q4].getD (k - 142) 0, rfl, rfl, rfl, rfl⟩
set_option maxRecDepth 20000 in
theorem cv_reck {cy : Nat → ClassId} {a r1 : Nat} {w1 : va_W} (h : ∃ q1 q2 q3 q4 : Nat, w1 = [(a, .inr (6, [.ref r1, .ref q1, .ref q2, .ref q3, .ref q4, .int 0, .int 0, .int 0])), (q1, .inl (cy 0, 64, .inl (fun _ => 0))), (q2, .inl (cy 0, 4, .inl (fun _ => 0))), (q3, .inl (cy 0, 600, .inl (fun _ => 0))), (q4, .inl (cy 0, 240, .inl (fun _ => 0)))]) : ∃ q : Nat → Nat, q 147 = a ∧ q 108 = r1 ∧ w1 = WD g_reC q cy h00 := by
  obtain ⟨q1, q2, q3, q4, rfl⟩ := h
  exact ⟨fun k => if k = 108 then r1 else [a, q1, q2, q3, q4].getD (k - 147) 0, rfl, rfl, rfl⟩
set_option maxRecDepth 20000 in
theorem cv_fact {cy : Nat → ClassId} {a : Nat} {w1 : va_W} (h : ∃ q1 q2 q3 q4 q5 q6 : Nat, w1 = [(a, .inr (3, [.ref q1, .ref q2, .ref q3, .ref q4, .ref q5, .ref q6, .int 0])), (q1, .inl (cy 0, 60, .inl (fun _ => 0))), (q2, .inl (cy 0, 60, .inl (fun _ => 0))), (q3, .inl (cy 0, 60, .inl (fun _ => 0))), (q4, .inl (cy 0, 60, .inl (fun _ => 0))), (q5, .inl (cy 0, 60, .inl (fun _ => 0))), (q6, .inl (cy 0, 61, .inl (fun _ => 0)))]) : ∃ q : Nat → Nat, q 152 = a ∧ w1 = WD g_faC q cy h00 := by
  obtain ⟨q1, q2, q3, q4, q5, q6, rfl⟩ := h
  exact ⟨fun k => [a, q1, q2, q3, q4, q5, q6].getD (k - 152) 0, rfl, rfl⟩
set_option maxRecDepth 20000 in
theorem cv_cour {cy : Nat → ClassId} {a r1 r2 r3 : Nat} {w1 : va_W} (h : ∃ o1 o1b o1c o1d o1e o1f o1g o1h o2 o2b o2c o2d o2e o2f o2g o2h o3 o3b o3c o3d o3e o3f o3g o3h : Nat, w1 = [(a, .inr (2, [.ref r1, .ref r2, .ref r3, .ref o1, .ref o2, .ref o3, .int 0, .int 0, .int 0])), (o1, .inr (1, [.ref r1, .ref r2, .ref r3, .ref o1b, .ref o1c, .ref o1d, .ref o1e, .ref o1f, .ref o1g, .ref o1h, .int 0, .int 0, .int 0, .int 0, .int 0])), (o1b, .inl (cy 0, 10, .inl (fun _ => 0))), (o1c, .inl (cy 0, 10, .inl (fun _ => 0))), (o1d, .inl (cy 0, 10, .inl (fun _ => 0))), (o1e, .inl (cy 0, 10, .inl (fun _ => 0))), (o1f, .inl (cy 0, 10, .inl (fun _ => 0))), (o1g, .inl (cy 0, 10, .inl (fun _ => 0))), (o1h, .inl (cy 0, 60, .inl (fun _ => 0))), (o2, .inr (1, [.ref r1, .ref r2, .ref r3, .ref o2b, .ref o2c, .ref o2d, .ref o2e, .ref o2f, .ref o2g, .ref o2h, .int 0, .int 0, .int 0, .int 0, .int 0])), (o2b, .inl (cy 0, 10, .inl (fun _ => 0))), (o2c, .inl (cy 0, 10, .inl (fun _ => 0))), (o2d, .inl (cy 0, 10, .inl (fun _ => 0))), (o2e, .inl (cy 0, 10, .inl (fun _ => 0))), (o2f, .inl (cy 0, 10, .inl (fun _ => 0))), (o2g, .inl (cy 0, 10, .inl (fun _ => 0))), (o2h, .inl (cy 0, 60, .inl (fun _ => 0))), (o3, .inr (1, [.ref r1, .ref r2, .ref r3, .ref o3b, .ref o3c, .ref o3d, .ref o3e, .ref o3f, .ref o3g, .ref o3h, .int 0, .int 0, .int 0, .int 0, .int 0])), (o3b, .inl (cy 0, 10, .inl (fun _ => 0))), (o3c, .inl (cy 0, 10, .inl (fun _ => 0))), (o3d, .inl (cy 0, 10, .inl (fun _ => 0))), (o3e, .inl (cy 0, 10, .inl (fun _ => 0))), (o3f, .inl (cy 0, 10, .inl (fun _ => 0))), (o3g, .inl (cy 0, 10, .inl (fun _ => 0))), (o3h, .inl (cy 0, 60, .inl (fun _ => 0)))]) : ∃ q : Nat → Nat, q 181 = a ∧ q 108 = r1 ∧ q 152 = r2 ∧ q 147 = r3 ∧ w1 = WD g_coC q cy h00 := by
  obtain ⟨o1, o1b, o1c, o1d, o1e, o1f, o1g, o1h, o2, o2b, o2c, o2d, o2e, o2f, o2g, o2h, o3, o3b, o3c, o3d, o3e, o3f, o3g, o3h, rfl⟩ := h
  exact ⟨fun k => if k = 108 then r1 else if k = 152 then r2 else if k = 147 then r3 else [a, o1, o1b, o1c, o1d, o1e, o1f, o1g, o1h, o2, o2b, o2c, o2d, o2e, o2f, o2g, o2h, o3, o3b, o3c, o3d, o3e, o3f, o3g, o3h].getD (k - 181) 0, rfl, rfl, rfl, rfl, rfl⟩
set_option maxRecDepth 20000 in
theorem cv_ring {cy : Nat → ClassId} {a r1 : Nat} {w1 : va_W} (h : ∃ q1 : Nat, w1 = [(a, .inr (7, [.ref r1, .ref q1])), (q1, .inl (cy 0, 10, .inl (fun _ => 0)))]) : ∃ q : Nat → Nat, q 209 = a ∧ q 108 = r1 ∧ w1 = WD g_riC q cy h00 := by
  obtain ⟨q1, rfl⟩ := h
  exact ⟨fun k => if k = 108 then r1 else [a, q1].getD (k - 209) 0, rfl, rfl, rfl⟩
set_option maxRecDepth 20000 in
theorem cv_tok {cy : Nat → ClassId} {a q1 q2 q3 q4 : Nat} {F : Nat → Int64} {A : Nat → Int64} (hF : ∀ i, i < 18 → F i = A i) : ∃ (q : Nat → Nat) (h : Hp), q 103 = a ∧ (∀ i, i < 18 → h.2 107 i = A i) ∧ wtT cy a q1 q2 q3 q4 F = WD g_tkC q cy h := by
  refine ⟨fun k => [a, q1, q2, q3, q4].getD (k - 103) 0, (fun _ _ => 0, fun k => if k = 107 then F else fun _ => 0), rfl, fun i hi => hF i hi, rfl⟩
def qSl (sa x0 x0b x0c x0d x0e x0f x0g x1 x1b x1c x1d x1e x1f x1g x2 x2b x2c x2d x2e x2f x2g : Nat) : Nat → Nat := fun k => [sa, x0, x0b, x0c, x0d, x0e, x0f, x0g, x1, x1b, x1c, x1d, x1e, x1f, x1g, x2, x2b, x2c, x2d, x2e, x2f, x2g].getD (k - 159) 0
set_option maxRecDepth 20000 in
theorem cv_slot {cy : Nat → ClassId} {sa x0 x0b x0c x0d x0e x0f x0g x1 x1b x1c x1d x1e x1f x1g x2 x2b x2c x2d x2e x2f x2g : Nat} : ([(sa, .inl (cy 4, 3, .inr (.inr (.inr (.inr (va_up (va_up (va_up (fun _ => none) 0 (some x0)) 1 (some x1)) 2 (some x2))))))), (x0, .inr (3, [.ref x0b, .ref x0c, .ref x0d, .ref x0e, .ref x0f, .ref x0g, .int 0])), (x0b, .inl (cy 0, 60, .inl (fun _ => 0))), (x0c, .inl (cy 0, 60, .inl (fun _ => 0))), (x0d, .inl (cy 0, 60, .inl (fun _ => 0))), (x0e, .inl (cy 0, 60, .inl (fun _ => 0))), (x0f, .inl (cy 0, 60, .inl (fun _ => 0))), (x0g, .inl (cy 0, 61, .inl (fun _ => 0))), (x1, .inr (3, [.ref x1b, .ref x1c, .ref x1d, .ref x1e, .ref x1f, .ref x1g, .int 0])), (x1b, .inl (cy 0, 60, .inl (fun _ => 0))), (x1c, .inl (cy 0, 60, .inl (fun _ => 0))), (x1d, .inl (cy 0, 60, .inl (fun _ => 0))), (x1e, .inl (cy 0, 60, .inl (fun _ => 0))), (x1f, .inl (cy 0, 60, .inl (fun _ => 0))), (x1g, .inl (cy 0, 61, .inl (fun _ => 0))), (x2, .inr (3, [.ref x2b, .ref x2c, .ref x2d, .ref x2e, .ref x2f, .ref x2g, .int 0])), (x2b, .inl (cy 0, 60, .inl (fun _ => 0))), (x2c, .inl (cy 0, 60, .inl (fun _ => 0))), (x2d, .inl (cy 0, 60, .inl (fun _ => 0))), (x2e, .inl (cy 0, 60, .inl (fun _ => 0))), (x2f, .inl (cy 0, 60, .inl (fun _ => 0))), (x2g, .inl (cy 0, 61, .inl (fun _ => 0)))] : va_W) = WD g_slC (qSl sa x0 x0b x0c x0d x0e x0f x0g x1 x1b x1c x1d x1e x1f x1g x2 x2b x2c x2d x2e x2f x2g) cy h00 := by
  have e : (va_up (va_up (va_up (fun _ => none) 0 (some x0)) 1 (some x1)) 2 (some x2)) = (fun j : Nat => (([160, 167, 174] : List Nat)[j]?).map (qSl sa x0 x0b x0c x0d x0e x0f x0g x1 x1b x1c x1d x1e x1f x1g x2 x2b x2c x2d x2e x2f x2g)) := by
    funext j
    match j with
    | 0 => rfl
    | 1 => rfl
    | 2 => rfl
    | n + 3 =>
      have e1 : ([160, 167, 174] : List Nat)[n + 3]? = none := List.getElem?_eq_none (by show 3 ≤ n + 3; omega)
      rw [e1]
      simp [va_up]
  rw [e]
  rfl
theorem w_eq {D : va_G} {A : Nat → Prop} {l : Launch} {G : GT} {ca sl nL pc : Nat} {lv : List (Nat × Value)} {st : List Value} {ws ws' : va_W} (e : ws = ws') (k : JW (RW D A ws') l G ca sl nL pc lv st) : JW (RW D A ws) l G ca sl nL pc lv st := by
  subst e
  exact k
theorem cap_eq {α : Type} {x : α} {T L M R : List α} (e : L ++ M = R) : (x :: (T ++ L)) ++ M = x :: (T ++ R) := by rw [← e, List.cons_append, List.append_assoc]
theorem WD_gl {cy : Nat → ClassId} {x : Nat × va_E} {B : Nat} {R : List Nat} {S1 S2 : List (Nat × Shp)} {q1 q2 : Nat → Nat} {h1 h2 : Hp} (a : lowS B S1 = true) (b : hiS B R S2 = true) (hR : ∀ k ∈ R, q1 k = q2 k) : (x :: WD S1 q1 cy h1) ++ WD S2 q2 cy h2 = x :: WD (S1 ++ S2) (glq B q1 q2) cy (glh B h1 h2) := congrArg (List.cons x) (WD_glue a b hR)
def ne100 (S : List (Nat × Shp)) : Bool := S.all (fun e => decide (e.1 ≠ 100) && (rfs e.2).all (fun k => decide (k ≠ 100)))
theorem WD_100 {cy : Nat → ClassId} {S : List (Nat × Shp)} {q : Nat → Nat} {h : Hp} {a : Nat} {r : Nat → Int32} (hs : ne100 S = true) : WD S q cy h = WD S (fun k => if k = 100 then a else q k) cy (fun k => if k = 100 then r else h.1 k, h.2) := by
  have a' := List.all_eq_true.mp hs
  apply WD_congr
  · intro e he
    have c := a' e he
    simp only [Bool.and_eq_true, decide_eq_true_eq, List.all_eq_true] at c
    exact ⟨(if_neg c.1).symm, fun j hj => (if_neg (c.2 j hj)).symm⟩
  · intro e he
    have c := a' e he
    simp only [Bool.and_eq_true, decide_eq_true_eq] at c
    exact ⟨(if_neg c.1).symm, rfl⟩
