/-- expressions, both -/
def XWc : Ws := [(142, some 6), (142, some 7), (146, none), (129, none), (125, some 11)]
def XWm : Ws := [(0, some 11), (0, some 12), (0, some 49), (0, some 53), (37, none), (35, none), (36, none)]
def EX (c0 m0 : Hp) (K : Nat) (kd : Nat → Nat) (sd cs cd t : Nat) (st : List Nat) (e : Cd) (cS mS c m : Hp) : Prop :=
  PB c0 m0 K kd sd t c m ∧ (okS st = true ∧ nst st ≤ 6) ∧ skC st c ∧ skM st m ∧
  c.1 125 11 = nI (cs + e.length) ∧ m.1 0 49 = nI (420 * sd + cd + e.length) ∧ m.1 0 53 = nI st.length ∧ m.1 0 12 = nI (nst st) ∧
  cwG c cs (e.map ex2w) ∧ cdM m (420 * sd + cd) e ∧ (∀ x, x ∈ e → x.2 < 2 ^ 20) ∧ cd ≤ cs ∧
  (Agr XWc cS c ∧ ∀ j, j < cs → c.1 129 j = cS.1 129 j) ∧ (Agr XWm mS m ∧ ∀ j, j < 420 * sd + cd → m.1 35 j = mS.1 35 j ∧ m.1 36 j = mS.1 36 j)
theorem EX_pop {c0 m0 cS mS c m c1 m1 : Hp} {K sd cs cd t k : Nat} {kd : Nat → Nat} {st : List Nat} {e : Cd} (E : EX c0 m0 K kd sd cs cd t st e cS mS c m) (hk : 1 ≤ k) (C : popC k (cs + e.length) st c c1) (M : popM k (420 * sd + cd + e.length) st m m1) (A : AgrM sd m m1) : EX c0 m0 K kd sd cs cd t (popR k st) (e ++ popE k st) cS mS c1 m1 := by
  obtain ⟨E1, ⟨E2, E3⟩, E4, E5, E6, E7, E8, E9, E10, E11, E12, E13, ⟨E14, E15⟩, E16, E17⟩ := E
  obtain ⟨C1, C2, C3, C4⟩ := C
  obtain ⟨M1, M2, M3, M4, M5⟩ := M
  obtain ⟨p1, p2, p3, p4⟩ := pop_p hk E2
  have sub : ∀ (st : List Nat), (∀ h, skC st h → skC (popR k st) h) ∧ (∀ h, skM st h → skM (popR k st) h) := fun st => by
    induction st with
    | nil => exact ⟨fun _ h => h, fun _ h => h⟩
    | cons x r ih =>
      rw [popR]
      split
      · exact ⟨fun h hs => ih.1 h hs.2, fun h hs => ih.2 h hs.2⟩
      · exact ⟨fun _ h => h, fun _ h => h⟩
  refine ⟨PB_w E1 C1 rfl rfl A ⟨M1.i 0 11 rfl, M1.i 0 13 rfl, M1.i 0 15 rfl, M1.i 0 16 rfl⟩, ⟨p1, by rw [p2]; exact E3⟩, (sub st).1 _ (skC_w E4 fun j _ => C1.i 146 j rfl), (sub st).2 _ (skM_w E5 fun j _ => M1.i 37 j rfl), ?_, ?_, M3, ?_, ?_, ?_, ?_, E13, ⟨E14.trans (C1.sub rfl), fun j hj => by rw [C3 j (by omega)]; exact E15 j hj⟩, E16.trans (M1.sub rfl), fun j hj => ?_⟩
  · rw [C2, List.length_append, Nat.add_assoc]
  · rw [M2, List.length_append, Nat.add_assoc]
  · rw [M1.i 0 12 rfl, p2]; exact E9
  · rw [List.map_append]
    exact cwG_app (cwG_w E10 fun j hj => C3 j (by rw [List.length_map] at hj; exact hj)) (by rw [List.length_map]; exact C4)
  · exact cdM_app (cdM_w E11 fun j hj => M4 j hj) M5
  · intro x hx
    rw [List.mem_append] at hx
    rcases hx with hx | hx
    · exact E12 x hx
    · rw [popE_2 x hx]; decide
  · obtain ⟨a, b⟩ := M4 j (by omega)
    rw [a, b]; exact E17 j hj
theorem EX_nx {c0 m0 cS mS c m c1 m1 : Hp} {K sd cs cd t : Nat} {kd : Nat → Nat} {st : List Nat} {e : Cd} (E : EX c0 m0 K kd sd cs cd t st e cS mS c m) (P : PB c0 m0 K kd sd (t + 1) c1 m1) (C : Agr W67 c c1) (M : Agr W11 m m1) : EX c0 m0 K kd sd cs cd (t + 1) st e cS mS c1 m1 := by
  obtain ⟨E1, E2, E4, E5, E6, E7, E8, E9, E10, E11, E12, E13, ⟨E14, E15⟩, E16, E17⟩ := E
  exact ⟨P, E2, skC_w E4 fun j _ => C.i 146 j rfl, skM_w E5 fun j _ => M.i 37 j rfl, by rw [C.i 125 11 rfl]; exact E6, by rw [M.i 0 49 rfl]; exact E7, by rw [M.i 0 53 rfl]; exact E8, by rw [M.i 0 12 rfl]; exact E9, cwG_w E10 fun j _ => C.i 129 j rfl, cdM_w E11 fun j _ => ⟨M.i 35 j rfl, M.i 36 j rfl⟩, E12, E13, ⟨E14.trans (C.sub rfl), fun j hj => by rw [C.i 129 j rfl]; exact E15 j hj⟩, E16.trans (M.sub rfl), fun j hj => by rw [M.i 35 j rfl, M.i 36 j rfl]; exact E17 j hj⟩
/-- a sign is laid on the stack -/
theorem EX_push {c0 m0 cS mS c m : Hp} {K sd cs cd t x : Nat} {kd : Nat → Nat} {st : List Nat} {e : Cd} (E : EX c0 m0 K kd sd cs cd t st e cS mS c m) (hx : okS (x :: st) = true) (h14 : ¬ x = 14) : EX c0 m0 K kd sd cs cd t (x :: st) e cS mS (wI c 146 st.length (nI x)) (wI (wI m 37 st.length (nI (kM x))) 0 53 (nI (st.length + 1))) := by
  obtain ⟨E1, ⟨E2, E3⟩, E4, E5, E6, E7, E8, E9, E10, E11, E12, E13, ⟨E14, E15⟩, E16, E17⟩ := E
  have C : Agr [(146, none)] c (wI c 146 st.length (nI x)) := Agr.refl.wI rfl
  have M : Agr [(37, none), (0, some 53)] m (wI (wI m 37 st.length (nI (kM x))) 0 53 (nI (st.length + 1))) := (Agr.refl.wI rfl).wI rfl
  refine ⟨PB_w E1 C rfl rfl (AgrM.ag rfl M) ⟨M.i 0 11 rfl, M.i 0 13 rfl, M.i 0 15 rfl, M.i 0 16 rfl⟩, ⟨hx, by rw [nst, if_neg h14]; exact E3⟩, ⟨wI_s, skC_w E4 fun j hj => wI_j (by omega)⟩, ⟨by rw [wI_k (by decide), wI_s], skM_w E5 fun j hj => by rw [wI_k (by decide), wI_j (by omega)]⟩, by rw [C.i 125 11 rfl]; exact E6, by rw [M.i 0 49 rfl]; exact E7, wI_s, by rw [M.i 0 12 rfl, nst, if_neg h14]; exact E9, cwG_w E10 fun j _ => C.i 129 j rfl, cdM_w E11 fun j _ => ⟨M.i 35 j rfl, M.i 36 j rfl⟩, E12, E13, ⟨E14.trans (C.sub rfl), fun j hj => by rw [C.i 129 j rfl]; exact E15 j hj⟩, E16.trans (M.sub rfl), fun j hj => by rw [M.i 35 j rfl, M.i 36 j rfl]; exact E17 j hj⟩
/-- a unit is laid down -/
theorem EX_unit {c0 m0 cS mS c m : Hp} {K sd cs cd t : Nat} {kd pl : Nat → Nat} {st : List Nat} {e : Cd} (X : CTX c0 m0 K kd pl sd) (E : EX c0 m0 K kd sd cs cd t st e cS mS c m) (hc : cs + e.length + ops st + 1 ≤ t) (u : Nat × Nat) (hu : u.2 < 2 ^ 20) (ho : (ex2w u).1 < 256) : ∃ c1 m1, fX5_emit (nI (ex2w u).1) (nI (ex2w u).2) c = some c1 ∧ fX12_emit (nI u.1) (nI u.2) m = some m1 ∧ EX c0 m0 K kd sd cs cd t st (e ++ [u]) cS mS c1 m1 := by
  have t4 : t < 401 := by have := E.1.2.2.1; have := X.1.2.1; omega
  obtain ⟨E1, ⟨E2, E3⟩, E4, E5, E6, E7, E8, E9, E10, E11, E12, E13, ⟨E14, E15⟩, E16, E17⟩ := E
  have s2 := X.2.2
  obtain ⟨c1, a1, a2, a3, a4, a5⟩ := C_emit (v := (ex2w u).2) E6 (by omega) ho
  obtain ⟨m1, b1, b2, b3, b4, b5, b6⟩ := M_emit (o := u.1) (v := u.2) E7 (by omega)
  have A := b6 sd (by omega) (by omega)
  refine ⟨c1, m1, a1, b1, PB_w E1 a2 rfl rfl A ⟨b2.i 0 11 rfl, b2.i 0 13 rfl, b2.i 0 15 rfl, b2.i 0 16 rfl⟩, ⟨E2, E3⟩, skC_w E4 fun j _ => a2.i 146 j rfl, skM_w E5 fun j _ => b2.i 37 j rfl, ?_, ?_, by rw [b2.i 0 53 rfl]; exact E8, by rw [b2.i 0 12 rfl]; exact E9, ?_, ?_, ?_, E13, ⟨E14.trans (a2.sub rfl), fun j hj => by rw [a4 j (by omega)]; exact E15 j hj⟩, E16.trans (b2.sub rfl), fun j hj => ?_⟩
  · rw [a3, List.length_append]; rfl
  · rw [b3, List.length_append]; rfl
  · rw [List.map_append]
    exact cwG_app (cwG_w E10 fun j hj => a4 j (by rw [List.length_map] at hj; exact hj)) (by rw [List.length_map]; exact a5)
  · exact cdM_app (cdM_w E11 fun j hj => b4 j hj) b5
  · intro x hx
    rw [List.mem_append, List.mem_singleton] at hx
    rcases hx with hx | rfl
    · exact E12 x hx
    · exact hu
  · obtain ⟨a, b⟩ := b4 j (by omega)
    rw [a, b]; exact E17 j hj
