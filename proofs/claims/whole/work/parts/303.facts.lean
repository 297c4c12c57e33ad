theorem sw2 {x : Int32} (h : ¬ (x.toInt < 0 ∨ 2 < x.toInt)) : x = 0 ∨ x = 1 ∨ x = 2 := by
  have h0 : x.toInt = 0 ∨ x.toInt = 1 ∨ x.toInt = 2 := by omega
  rcases h0 with e | e | e
  · exact .inl (Int32.toInt_inj.mp (e.trans (by decide)))
  · exact .inr (.inl (Int32.toInt_inj.mp (e.trans (by decide))))
  · exact .inr (.inr (Int32.toInt_inj.mp (e.trans (by decide))))
theorem sw3 {x : Int32} (h : ¬ (x.toInt < 0 ∨ 3 < x.toInt)) : x = 0 ∨ x = 1 ∨ x = 2 ∨ x = 3 := by
  have h0 : x.toInt = 0 ∨ x.toInt = 1 ∨ x.toInt = 2 ∨ x.toInt = 3 := by omega
  rcases h0 with e | e | e | e
  · exact .inl (Int32.toInt_inj.mp (e.trans (by decide)))
  · exact .inr (.inl (Int32.toInt_inj.mp (e.trans (by decide))))
  · exact .inr (.inr (.inl (Int32.toInt_inj.mp (e.trans (by decide)))))
  · exact .inr (.inr (.inr (Int32.toInt_inj.mp (e.trans (by decide)))))
theorem sw4 {x : Int32} (h : ¬ (x.toInt < 0 ∨ 4 < x.toInt)) : x = 0 ∨ x = 1 ∨ x = 2 ∨ x = 3 ∨ x = 4 := by
  have h0 : x.toInt = 0 ∨ x.toInt = 1 ∨ x.toInt = 2 ∨ x.toInt = 3 ∨ x.toInt = 4 := by omega
  rcases h0 with e | e | e | e | e
  · exact .inl (Int32.toInt_inj.mp (e.trans (by decide)))
  · exact .inr (.inl (Int32.toInt_inj.mp (e.trans (by decide))))
  · exact .inr (.inr (.inl (Int32.toInt_inj.mp (e.trans (by decide)))))
  · exact .inr (.inr (.inr (.inl (Int32.toInt_inj.mp (e.trans (by decide))))))
  · exact .inr (.inr (.inr (.inr (Int32.toInt_inj.mp (e.trans (by decide))))))
theorem sw7 {x : Int32} (h : ¬ (x.toInt < 0 ∨ 7 < x.toInt)) : x = 0 ∨ x = 1 ∨ x = 2 ∨ x = 3 ∨ x = 4 ∨ x = 5 ∨ x = 6 ∨ x = 7 := by
  have h0 : x.toInt = 0 ∨ x.toInt = 1 ∨ x.toInt = 2 ∨ x.toInt = 3 ∨ x.toInt = 4 ∨ x.toInt = 5 ∨ x.toInt = 6 ∨ x.toInt = 7 := by omega
  rcases h0 with e | e | e | e | e | e | e | e
  · exact .inl (Int32.toInt_inj.mp (e.trans (by decide)))
  · exact .inr (.inl (Int32.toInt_inj.mp (e.trans (by decide))))
  · exact .inr (.inr (.inl (Int32.toInt_inj.mp (e.trans (by decide)))))
  · exact .inr (.inr (.inr (.inl (Int32.toInt_inj.mp (e.trans (by decide))))))
  · exact .inr (.inr (.inr (.inr (.inl (Int32.toInt_inj.mp (e.trans (by decide)))))))
  · exact .inr (.inr (.inr (.inr (.inr (.inl (Int32.toInt_inj.mp (e.trans (by decide))))))))
  · exact .inr (.inr (.inr (.inr (.inr (.inr (.inl (Int32.toInt_inj.mp (e.trans (by decide)))))))))
  · exact .inr (.inr (.inr (.inr (.inr (.inr (.inr (Int32.toInt_inj.mp (e.trans (by decide)))))))))

theorem i10 : ((1 : Int32) = 0) = False := eq_false (by decide)
theorem i01 : ((0 : Int32) = 1) = False := eq_false (by decide)
theorem i00 : ((0 : Int32) = 0) = True := eq_self 0
theorem bi_id {α : Type} {o : Option (α × Hp)} : bi o (fun w h => some (w, h)) = o := by
  cases o with
  | none => rfl
  | some p => rfl
/-- a fact as it may stand -/
def fok (P L i : Nat) (k y w : Int32) : Prop := ∃ t b, t ≤ 6 ∧ k = nI t ∧ w = nI b ∧ (if t = 6 then y = -1 ∧ b < i else (∃ q, q < 60 ∧ y = nI q) ∧ b < (if t ≤ 1 then P else if t ≤ 4 then L else 4))
def FRw (P L n : Nat) (K Y W : Nat → Int32) : Prop := ∀ i, i < n → fok P L i (K i) (Y i) (W i)
def RFn (P L n : Nat) (c m : Hp) : Prop := n ≤ 60 ∧ c.1 152 6 = nI n ∧ m.1 0 59 = nI n ∧ (∀ i, i < n → c.1 153 i = m.1 40 i ∧ c.1 154 i = m.1 41 i ∧ c.1 155 i = m.1 42 i ∧ c.1 156 i = m.1 43 i) ∧ FRw P L n (m.1 40) (m.1 41) (m.1 42)
def WFc : Ws := [(152, some 6), (153, none), (154, none), (155, none), (156, none)]
def WFm : Ws := [(0, some 59), (40, none), (41, none), (42, none), (43, none)]
def pFc (c : Hp) (n : Nat) (k y w x : Int32) : Hp := wI (wI (wI (wI (wI c 153 n k) 154 n y) 155 n w) 156 n x) 152 6 (nI (n + 1))
def pFm (c : Hp) (n : Nat) (k y w x : Int32) : Hp := wI (wI (wI (wI (wI c 40 n k) 41 n y) 42 n w) 43 n x) 0 59 (nI (n + 1))
theorem C_addF {c : Hp} {n : Nat} {k y w x : Int32} (h : c.1 152 6 = nI n) (hn : n < 60) : fX3_add k y w x c = some (nI n, pFc c n k y w x) := by
  have h1 : nI n < (60 : Int32) := nI_lt (b := 60) hn (by decide)
  have e : ∀ (a b : Nat) (v : Int32) (g : Hp), a ≠ 152 → (wI g a b v).1 152 6 = g.1 152 6 := fun a b v g ha => wI_k (Ne.symm ha)
  simp only [fX3_add, h, if_pos h1, lt_e, e 153 _ _ _ (by decide), e 154 _ _ _ (by decide), e 155 _ _ _ (by decide), e 156 _ _ _ (by decide), nI_ix (show n < 2 ^ 31 by omega), ck_of (nI_inb hn (by decide)), nI_1, wI_s, nI_pred]
  rfl
theorem C_addN {c : Hp} {n : Nat} {k y w x : Int32} (h : c.1 152 6 = nI n) (hn : n = 60) : fX3_add k y w x c = some (-1, c) := by
  have h1 : ¬ nI n < (60 : Int32) := nI_nlt (b := 60) (by omega) (by omega)
  simp only [fX3_add, h, if_neg h1]
theorem M_comesF {c : Hp} {n : Nat} {k y w x : Int32} (h : c.1 0 59 = nI n) (hn : n < 60) : fX12_comes k y w x c = some (nI n, pFm c n k y w x) := by
  have e : ∀ (a b : Nat) (v : Int32) (g : Hp), a ≠ 0 → (wI g a b v).1 0 59 = g.1 0 59 := fun a b v g ha => wI_k (Ne.symm ha)
  simp only [fX12_comes, h, lt_e, e 40 _ _ _ (by decide), e 41 _ _ _ (by decide), e 42 _ _ _ (by decide), e 43 _ _ _ (by decide), nI_ix (show n < 2 ^ 31 by omega), ck_of (nI_inb hn (by decide)), nI_1, wI_s, nI_pred]
  rfl
theorem RFn_push {P L n : Nat} {c m : Hp} {k y w x : Int32} (h : RFn P L n c m) (hn : n < 60) (hk : fok P L n k y w) : RFn P L (n + 1) (pFc c n k y w x) (pFm m n k y w x) := by
  obtain ⟨_, h1, h2, h3, h4⟩ := h
  refine ⟨hn, wI_s, wI_s, fun i hi => ?_, fun i hi => ?_⟩
  · unfold pFc pFm
    simp only [wI_r]
    by_cases e : i = n
    · simp [e]
    · simp [e]; exact h3 i (by omega)
  · unfold pFm
    simp only [wI_r]
    by_cases e : i = n
    · simp [e]; exact hk
    · simp [e]; exact h4 i (by omega)
theorem pFc_agr {c : Hp} {n : Nat} {k y w x : Int32} : Agr WFc c (pFc c n k y w x) := ((((Agr.refl.wI rfl).wI rfl).wI rfl).wI rfl).wI rfl
theorem pFm_agr {c : Hp} {n : Nat} {k y w x : Int32} : Agr WFm c (pFm c n k y w x) := ((((Agr.refl.wI rfl).wI rfl).wI rfl).wI rfl).wI rfl
def FS (P L : Nat) (c m : Hp) (oc om : Option (Int32 × Hp)) : Prop := ∃ r c1 m1, oc = some (r, c1) ∧ om = some (r, m1) ∧ (∃ n, RFn P L n c1 m1) ∧ Agr WFc c c1 ∧ Agr WFm m m1
theorem FS_no {P L n : Nat} {c m : Hp} (h : RFn P L n c m) : FS P L c m (some (-1, c)) (some (-1, m)) := ⟨-1, c, m, rfl, rfl, ⟨n, h⟩, .refl, .refl⟩
theorem FS_add {P L n : Nat} {c m : Hp} {k y w x : Int32} (h : RFn P L n c m) (hn : n < 60) (hk : fok P L n k y w) : FS P L c m (fX3_add k y w x c) (fX12_comes k y w x m) :=
  ⟨nI n, _, _, C_addF h.2.1 hn, M_comesF h.2.2.1 hn, ⟨n + 1, RFn_push h hn hk⟩, pFc_agr, pFm_agr⟩
theorem M_canCome {m : Hp} {n : Nat} (h : m.1 0 59 = nI n) (hn : n ≤ 60) (y : Int32) : fX12_canCome y m = some (b2 (decide (n < 60) && rng y 0 59), m) := by
  unfold fX12_canCome
  rw [h]
  by_cases e : n < 60
  · have h1 : ¬ (60 : Int32) ≤ nI n := nI_ge (b := 60) e (by decide)
    rw [if_neg h1, M_isYear, bi_some, decide_eq_true e, Bool.true_and]
    cases rng y 0 59 <;> simp only [b2_t, b2_f, i10, ↓reduceIte, ck_of zb_0, ck_of zb_1]
  · have h1 : (60 : Int32) ≤ nI n := nI_le (a := 60) (by omega) (by omega)
    rw [if_pos h1, decide_eq_false e, ck_of zb_0]; rfl

theorem sim_rumour0 {n : Nat} {c m : Hp} (a1 a2 a3 : Int32) (D : RD0 c m) (h : RFn (nP m) (nL m) n c m) : FS (nP m) (nL m) c m (fX11_rumour a1 a2 a3 c) (fX12_rumour a1 a2 a3 m) := by
  have key : n < 60 → rng a1 0 59 = true → rng a2 0 (nI (nP m) - 1) = true → fok (nP m) (nL m) n 0 a1 a2 := by
    intro _ hy hw
    obtain ⟨y, _, hy1, rfl⟩ := (rng_c (a := 0) (n := 59) (by decide) (by decide)).mp hy
    obtain ⟨_, ⟨p1, _⟩, _, _, ⟨l1, _⟩, _⟩ := D
    obtain ⟨w, hw1, rfl⟩ := (rng_n (n := nP m) (by omega)).mp hw
    exact ⟨0, w, by decide, rfl, rfl, ⟨y, by omega, rfl⟩, hw1⟩
  simp only [fX11_rumour, fX12_rumour, bX11_rumour_31, bX11_rumour_30, C_isYear, M_isYear, M_canCome h.2.2.1 h.1, M_isPerson D .refl, C_isPerson D .refl, M_in, C_within, bi_some, bi_id, lt_e]
  by_cases hn : n < 60
  · rw [decide_eq_true hn]
    cases hy : rng a1 0 59 <;> cases hw : rng a2 0 (nI (nP m) - 1) <;> cases ht : rng a3 1 20 <;> simp only [b2_t, b2_f, i10, ↓reduceIte, Bool.true_and, Bool.and_false, Bool.and_true]
    · exact FS_no h
    · exact FS_no h
    · exact FS_no h
    · exact FS_no h
    · exact FS_no h
    · exact FS_no h
    · exact FS_no h
    · exact FS_add h hn (key hn hy hw)
  · rw [decide_eq_false hn]
    cases hy : rng a1 0 59 <;> cases hw : rng a2 0 (nI (nP m) - 1) <;> cases ht : rng a3 1 20 <;> simp only [b2_t, b2_f, i10, ↓reduceIte, Bool.false_and, Bool.and_false, Bool.and_true, C_addN h.2.1 (show n = 60 by have := h.1; omega)] <;> exact FS_no h
theorem sim_death0 {n : Nat} {c m : Hp} (a1 a2 : Int32) (D : RD0 c m) (h : RFn (nP m) (nL m) n c m) : FS (nP m) (nL m) c m (fX11_death a1 a2 c) (fX12_death a1 a2 m) := by
  have key : n < 60 → rng a1 0 59 = true → rng a2 0 (nI (nP m) - 1) = true → fok (nP m) (nL m) n 1 a1 a2 := by
    intro _ hy hw
    obtain ⟨y, _, hy1, rfl⟩ := (rng_c (a := 0) (n := 59) (by decide) (by decide)).mp hy
    obtain ⟨_, ⟨p1, _⟩, _, _, ⟨l1, _⟩, _⟩ := D
    obtain ⟨w, hw1, rfl⟩ := (rng_n (n := nP m) (by omega)).mp hw
    exact ⟨1, w, by decide, rfl, rfl, ⟨y, by omega, rfl⟩, hw1⟩
  simp only [fX11_death, fX12_death, C_isYear, M_isYear, M_canCome h.2.2.1 h.1, M_isPerson D .refl, C_isPerson D .refl, M_in, C_within, bi_some, bi_id, lt_e]
  by_cases hn : n < 60
  · rw [decide_eq_true hn]
    cases hy : rng a1 0 59 <;> cases hw : rng a2 0 (nI (nP m) - 1) <;> simp only [b2_t, b2_f, i10, ↓reduceIte, Bool.true_and, Bool.and_false, Bool.and_true]
    · exact FS_no h
    · exact FS_no h
    · exact FS_no h
    · exact FS_add h hn (key hn hy hw)
  · rw [decide_eq_false hn]
    cases hy : rng a1 0 59 <;> cases hw : rng a2 0 (nI (nP m) - 1) <;> simp only [b2_t, b2_f, i10, ↓reduceIte, Bool.false_and, Bool.and_false, Bool.and_true, C_addN h.2.1 (show n = 60 by have := h.1; omega)] <;> exact FS_no h
theorem sim_takeBack0 {n : Nat} {c m : Hp} (a1 a2 : Int32) (D : RD0 c m) (h : RFn (nP m) (nL m) n c m) : FS (nP m) (nL m) c m (fX11_takeBack a1 a2 c) (fX12_takeBack a1 a2 m) := by
  have key : n < 60 → rng a1 0 59 = true → rng a2 0 (nI (nL m) - 1) = true → fok (nP m) (nL m) n 2 a1 a2 := by
    intro _ hy hw
    obtain ⟨y, _, hy1, rfl⟩ := (rng_c (a := 0) (n := 59) (by decide) (by decide)).mp hy
    obtain ⟨_, ⟨p1, _⟩, _, _, ⟨l1, _⟩, _⟩ := D
    obtain ⟨w, hw1, rfl⟩ := (rng_n (n := nL m) (by omega)).mp hw
    exact ⟨2, w, by decide, rfl, rfl, ⟨y, by omega, rfl⟩, hw1⟩
  simp only [fX11_takeBack, fX12_takeBack, C_isYear, M_isYear, M_canCome h.2.2.1 h.1, M_hasLetter D .refl, C_isLetter D .refl, M_in, C_within, bi_some, bi_id, lt_e]
  by_cases hn : n < 60
  · rw [decide_eq_true hn]
    cases hy : rng a1 0 59 <;> cases hw : rng a2 0 (nI (nL m) - 1) <;> simp only [b2_t, b2_f, i10, ↓reduceIte, Bool.true_and, Bool.and_false, Bool.and_true]
    · exact FS_no h
    · exact FS_no h
    · exact FS_no h
    · exact FS_add h hn (key hn hy hw)
  · rw [decide_eq_false hn]
    cases hy : rng a1 0 59 <;> cases hw : rng a2 0 (nI (nL m) - 1) <;> simp only [b2_t, b2_f, i10, ↓reduceIte, Bool.false_and, Bool.and_false, Bool.and_true, C_addN h.2.1 (show n = 60 by have := h.1; omega)] <;> exact FS_no h
theorem sim_early0 {n : Nat} {c m : Hp} (a1 a2 : Int32) (D : RD0 c m) (h : RFn (nP m) (nL m) n c m) : FS (nP m) (nL m) c m (fX11_early a1 a2 c) (fX12_early a1 a2 m) := by
  have key : n < 60 → rng a1 0 59 = true → rng a2 0 (nI (nL m) - 1) = true → fok (nP m) (nL m) n 3 a1 a2 := by
    intro _ hy hw
    obtain ⟨y, _, hy1, rfl⟩ := (rng_c (a := 0) (n := 59) (by decide) (by decide)).mp hy
    obtain ⟨_, ⟨p1, _⟩, _, _, ⟨l1, _⟩, _⟩ := D
    obtain ⟨w, hw1, rfl⟩ := (rng_n (n := nL m) (by omega)).mp hw
    exact ⟨3, w, by decide, rfl, rfl, ⟨y, by omega, rfl⟩, hw1⟩
  simp only [fX11_early, fX12_early, C_isYear, M_isYear, M_canCome h.2.2.1 h.1, M_hasLetter D .refl, C_isLetter D .refl, M_in, C_within, bi_some, bi_id, lt_e]
  by_cases hn : n < 60
  · rw [decide_eq_true hn]
    cases hy : rng a1 0 59 <;> cases hw : rng a2 0 (nI (nL m) - 1) <;> simp only [b2_t, b2_f, i10, ↓reduceIte, Bool.true_and, Bool.and_false, Bool.and_true]
    · exact FS_no h
    · exact FS_no h
    · exact FS_no h
    · exact FS_add h hn (key hn hy hw)
  · rw [decide_eq_false hn]
    cases hy : rng a1 0 59 <;> cases hw : rng a2 0 (nI (nL m) - 1) <;> simp only [b2_t, b2_f, i10, ↓reduceIte, Bool.false_and, Bool.and_false, Bool.and_true, C_addN h.2.1 (show n = 60 by have := h.1; omega)] <;> exact FS_no h
theorem sim_date0 {n : Nat} {c m : Hp} (a1 a2 a3 : Int32) (D : RD0 c m) (h : RFn (nP m) (nL m) n c m) : FS (nP m) (nL m) c m (fX11_date a1 a2 a3 c) (fX12_date a1 a2 a3 m) := by
  have key : n < 60 → rng a1 0 59 = true → rng a2 0 (nI (nL m) - 1) = true → fok (nP m) (nL m) n 4 a1 a2 := by
    intro _ hy hw
    obtain ⟨y, _, hy1, rfl⟩ := (rng_c (a := 0) (n := 59) (by decide) (by decide)).mp hy
    obtain ⟨_, ⟨p1, _⟩, _, _, ⟨l1, _⟩, _⟩ := D
    obtain ⟨w, hw1, rfl⟩ := (rng_n (n := nL m) (by omega)).mp hw
    exact ⟨4, w, by decide, rfl, rfl, ⟨y, by omega, rfl⟩, hw1⟩
  simp only [fX11_date, fX12_date, C_isYear, M_isYear, M_canCome h.2.2.1 h.1, M_hasLetter D .refl, C_isLetter D .refl, M_in, C_within, bi_some, bi_id, lt_e]
  by_cases hn : n < 60
  · rw [decide_eq_true hn]
    cases hy : rng a1 0 59 <;> cases hw : rng a2 0 (nI (nL m) - 1) <;> cases ht : rng a3 0 59 <;> simp only [b2_t, b2_f, i10, ↓reduceIte, Bool.true_and, Bool.and_false, Bool.and_true]
    · exact FS_no h
    · exact FS_no h
    · exact FS_no h
    · exact FS_no h
    · exact FS_no h
    · exact FS_no h
    · exact FS_no h
    · exact FS_add h hn (key hn hy hw)
  · rw [decide_eq_false hn]
    cases hy : rng a1 0 59 <;> cases hw : rng a2 0 (nI (nL m) - 1) <;> cases ht : rng a3 0 59 <;> simp only [b2_t, b2_f, i10, ↓reduceIte, Bool.false_and, Bool.and_false, Bool.and_true, C_addN h.2.1 (show n = 60 by have := h.1; omega)] <;> exact FS_no h
theorem sim_flood0 {n : Nat} {c m : Hp} (a1 a2 : Int32) (D : RD0 c m) (h : RFn (nP m) (nL m) n c m) : FS (nP m) (nL m) c m (fX11_flood a1 a2 c) (fX12_flood a1 a2 m) := by
  have key : n < 60 → rng a1 0 59 = true → rng a2 0 3 = true → fok (nP m) (nL m) n 5 a1 a2 := by
    intro _ hy hw
    obtain ⟨y, _, hy1, rfl⟩ := (rng_c (a := 0) (n := 59) (by decide) (by decide)).mp hy
    obtain ⟨w, _, hw0, rfl⟩ := (rng_c (a := 0) (n := 3) (by decide) (by decide)).mp hw
    exact ⟨5, w, by decide, rfl, rfl, ⟨y, by omega, rfl⟩, by show w < 4; omega⟩
  simp only [fX11_flood, fX12_flood, C_isYear, M_isYear, M_canCome h.2.2.1 h.1, M_in, C_within, M_in, C_within, bi_some, bi_id, lt_e]
  by_cases hn : n < 60
  · rw [decide_eq_true hn]
    cases hy : rng a1 0 59 <;> cases hw : rng a2 0 3 <;> simp only [b2_t, b2_f, i10, ↓reduceIte, Bool.true_and, Bool.and_false, Bool.and_true]
    · exact FS_no h
    · exact FS_no h
    · exact FS_no h
    · exact FS_add h hn (key hn hy hw)
  · rw [decide_eq_false hn]
    cases hy : rng a1 0 59 <;> cases hw : rng a2 0 3 <;> simp only [b2_t, b2_f, i10, ↓reduceIte, Bool.false_and, Bool.and_false, Bool.and_true, C_addN h.2.1 (show n = 60 by have := h.1; omega)] <;> exact FS_no h
theorem sim_annul0 {P L n : Nat} {c m : Hp} (a1 : Int32) (h : RFn P L n c m) : FS P L c m (fX11_annul a1 c) (fX12_annul a1 m) := by
  have hn := h.1
  simp only [fX11_annul, fX12_annul, C_within, M_in, bi_some, bi_id, h.2.1, h.2.2.1]
  cases hw : rng a1 0 (nI n - 1)
  · simp only [b2_f, ↓reduceIte]
    by_cases hs : nI n = 60
    · rw [if_pos hs]; exact FS_no h
    · rw [if_neg hs]; exact FS_no h
  · obtain ⟨j, hj, rfl⟩ := (rng_n (by omega)).mp hw
    simp only [b2_t, i10, ↓reduceIte, ck_of (nI_inb (N := 60) (show j < 60 by omega) (by decide)), nI_ix (show j < 2 ^ 31 by omega), (h.2.2.2.1 j hj).1]
    by_cases hs : n = 60
    · rw [if_pos (show nI n = 60 by rw [hs]; rfl)]
      by_cases h6 : m.1 40 j = 6
      · rw [if_pos h6]; exact FS_no h
      · rw [if_neg h6, C_addN h.2.1 hs]; exact FS_no h
    · rw [if_neg (show ¬ nI n = 60 by intro e; exact hs ((nI_eq (b := 60) (by omega) (by decide)).mp e))]
      by_cases h6 : m.1 40 j = 6
      · rw [if_pos h6, if_pos h6]; exact FS_no h
      · rw [if_neg h6, if_neg h6]
        exact FS_add h (by omega) ⟨6, j, by decide, rfl, rfl, rfl, hj⟩
/-- questions that only look at cells -/
theorem sim_fact0 {P L n : Nat} {c m : Hp} (a1 a2 : Int32) (h : RFn P L n c m) : ∃ r, fX11_fact a1 a2 c = some (r, c) ∧ fX12_fact a1 a2 m = some (r, m) := by
  have hn := h.1
  simp only [fX11_fact, fX12_fact, C_within, M_in, bi_some, bi_id, h.2.1, h.2.2.1]
  cases hw : rng a1 0 (nI n - 1)
  · exact ⟨-1, rfl, rfl⟩
  · obtain ⟨j, hj, rfl⟩ := (rng_n (by omega)).mp hw
    obtain ⟨q1, q2, q3, q4⟩ := h.2.2.2.1 j hj
    simp only [b2_t, i10, ↓reduceIte, ck_of (nI_inb (N := 60) (show j < 60 by omega) (by decide)), nI_ix (show j < 2 ^ 31 by omega), q1, q2, q3, q4]
    by_cases ho : a2.toInt < 0 ∨ 3 < a2.toInt
    · rw [if_pos ho, if_pos ho]; exact ⟨_, rfl, rfl⟩
    · rcases sw3 ho with rfl | rfl | rfl | rfl <;> exact ⟨_, rfl, rfl⟩

