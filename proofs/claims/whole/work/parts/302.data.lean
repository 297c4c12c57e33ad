/-- the cells that a question may write -/
def SM : Ws := [(38, none), (39, none), (44, none), (45, none), (46, none), (47, none), (48, none), (49, none), (50, none), (51, none), (52, none), (53, none), (54, none), (55, none), (56, none), (57, none), (58, none), (59, none), (0, some 56), (0, some 57), (0, some 58), (0, some 69), (0, some 70), (0, some 71), (0, some 73), (0, some 79), (0, some 80), (0, some 81)]
def SC : Ws := [(148, none), (149, none), (147, some 5), (147, some 6), (147, some 7), (157, none), (158, none), (182, none), (183, none), (184, none), (185, none), (186, none), (187, none), (188, none), (189, none), (190, none), (191, none), (192, none), (193, none), (194, none), (195, none), (196, none), (197, none), (198, none), (199, none), (200, none), (201, none), (202, none), (203, none), (204, none), (205, none), (181, some 6), (181, some 7), (181, some 8), (206, some 4), (206, some 5), (206, some 6), (206, some 7), (206, some 8), (208, none), (210, none)]
/-- what the model's book says -/
def lv (m : Hp) : Nat := ix (m.1 0 18)
def nP (m : Hp) : Nat := ix (m.1 11 (lv m))
def nC (m : Hp) : Nat := ix (m.1 13 (lv m))
def nB (m : Hp) : Nat := ix (m.1 14 (lv m))
def nL (m : Hp) : Nat := ix (m.1 17 (lv m))
def wrI (m : Hp) (l : Nat) : Int32 := m.1 18 (10 * lv m + l)
def rdI (m : Hp) (l : Nat) : Int32 := m.1 19 (10 * lv m + l)
def shI (m : Hp) (l : Nat) : Int32 := m.1 20 (10 * lv m + l)
def liI (m : Hp) (l : Nat) : Int32 := m.1 21 (10 * lv m + l)
def hmI (m : Hp) (l : Nat) : Int32 := m.1 22 (10 * lv m + l)
def prI (m : Hp) : Int32 := m.1 25 (lv m)
def bit (x i : Int32) : Bool := decide (¬ (x >>> (i &&& 31)) &&& 1 = 0)
def barS (m : Hp) (q p : Int32) : Bool := (List.range (nB m)).any (fun k => decide (m.1 15 (12 * lv m + k) = q) && decide (m.1 16 (12 * lv m + k) = p))
def RD0 (c m : Hp) : Prop :=
  (lv m < 2 ∧ m.1 0 18 = nI (lv m)) ∧
  (nP m ≤ 10 ∧ m.1 11 (lv m) = nI (nP m) ∧ c.1 108 6 = nI (nP m)) ∧
  (nC m ≤ 4 ∧ m.1 13 (lv m) = nI (nC m) ∧ c.1 108 7 = nI (nC m)) ∧
  (nB m ≤ 12 ∧ m.1 14 (lv m) = nI (nB m) ∧ c.1 108 8 = nI (nB m)) ∧
  (nL m ≤ 10 ∧ m.1 17 (lv m) = nI (nL m) ∧ c.1 108 9 = nI (nL m)) ∧
  c.1 108 10 = prI m ∧
  (∀ l, l < nL m → c.1 (115 + l) 0 = wrI m l ∧ c.1 (115 + l) 1 = rdI m l ∧ c.1 (115 + l) 2 = shI m l ∧ c.1 (115 + l) 3 = liI m l ∧ c.1 (115 + l) 4 = hmI m l) ∧
  (∀ l, l < nL m → (∃ w, w < nP m ∧ wrI m l = nI w) ∧ (∃ w, w < nP m ∧ rdI m l = nI w) ∧ (∃ s, s < 4 ∧ shI m l = nI s)) ∧
  (∀ q, q < nC m → ∀ p, p < nP m → bit (c.1 110 q) (nI p) = barS m (nI q) (nI p))
def PDc : Ws := [(108, none), (110, none), (115, none), (116, none), (117, none), (118, none), (119, none), (120, none), (121, none), (122, none), (123, none), (124, none)]
def PDm : Ws := [(0, some 18), (11, none), (13, none), (14, none), (15, none), (16, none), (17, none), (18, none), (19, none), (20, none), (21, none), (22, none), (25, none)]
theorem PDc_l {l j : Nat} (h : l < 10) : wm PDc (115 + l) j = true := by
  match l, h with
  | 0, _ => rfl
  | 1, _ => rfl
  | 2, _ => rfl
  | 3, _ => rfl
  | 4, _ => rfl
  | 5, _ => rfl
  | 6, _ => rfl
  | 7, _ => rfl
  | 8, _ => rfl
  | 9, _ => rfl
theorem RD0_lv {m m' : Hp} (r : ∀ k j, wm PDm k j = true → m'.1 k j = m.1 k j) : lv m' = lv m ∧ nP m' = nP m ∧ nC m' = nC m ∧ nB m' = nB m ∧ nL m' = nL m ∧ wrI m' = wrI m ∧ rdI m' = rdI m ∧ shI m' = shI m ∧ liI m' = liI m ∧ hmI m' = hmI m ∧ prI m' = prI m ∧ barS m' = barS m := by
  have l0 : lv m' = lv m := by unfold lv; rw [r 0 18 rfl]
  have b0 : nB m' = nB m := by unfold nB; rw [l0, r 14 _ rfl]
  refine ⟨l0, ?_, ?_, b0, ?_, ?_, ?_, ?_, ?_, ?_, ?_, ?_⟩
  · unfold nP; rw [l0, r 11 _ rfl]
  · unfold nC; rw [l0, r 13 _ rfl]
  · unfold nL; rw [l0, r 17 _ rfl]
  · funext l; unfold wrI; rw [l0, r 18 _ rfl]
  · funext l; unfold rdI; rw [l0, r 19 _ rfl]
  · funext l; unfold shI; rw [l0, r 20 _ rfl]
  · funext l; unfold liI; rw [l0, r 21 _ rfl]
  · funext l; unfold hmI; rw [l0, r 22 _ rfl]
  · unfold prI; rw [l0, r 25 _ rfl]
  · funext q p; unfold barS; rw [b0, l0]
    congr 1
    funext k
    rw [r 15 _ rfl, r 16 _ rfl]
theorem RD0_agr {c m c' m' : Hp} {Wc Wm : Ws} (hc : djw PDc Wc = true) (hm : djw PDm Wm = true) (ec : Agr Wc c c') (em : Agr Wm m m') (D : RD0 c m) : RD0 c' m' := by
  have q : ∀ k j, wm PDc k j = true → c'.1 k j = c.1 k j := fun k j w => (ec k j (djw_wm hc w)).1
  have r : ∀ k j, wm PDm k j = true → m'.1 k j = m.1 k j := fun k j w => (em k j (djw_wm hm w)).1
  obtain ⟨e1, e2, e3, e4, e5, e6, e7, e8, e9, e10, e11, e12⟩ := RD0_lv r
  obtain ⟨d1, d2, d3, d4, d5, d6, d7, d8, d9⟩ := D
  unfold RD0
  rw [e1, e2, e3, e4, e5, e6, e7, e8, e9, e10, e11, e12, r 0 18 rfl, r 11 _ rfl, r 13 _ rfl, r 14 _ rfl, r 17 _ rfl, q 108 6 rfl, q 108 7 rfl, q 108 8 rfl, q 108 9 rfl, q 108 10 rfl]
  refine ⟨d1, d2, d3, d4, d5, d6, fun l hl => ?_, d8, fun a ha p hp => ?_⟩
  · have h10 : l < 10 := by omega
    rw [q _ _ (PDc_l h10), q _ _ (PDc_l h10), q _ _ (PDc_l h10), q _ _ (PDc_l h10), q _ _ (PDc_l h10)]
    exact d7 l hl
  · rw [q 110 _ rfl]; exact d9 a ha p hp
/-- the tests of numbers -/
theorem M_isPerson {c m h : Hp} (D : RD0 c m) (e : Agr SM m h) (x : Int32) : fX12_isPerson x h = some (b2 (rng x 0 (nI (nP m) - 1)), h) := by
  obtain ⟨⟨a1, a2⟩, ⟨a3, a4, a5⟩, _⟩ := D
  unfold fX12_isPerson
  rw [e.i 0 18 rfl, a2, ck_of (nI_inb a1 (by decide)), nI_ix (by omega), e.i 11 _ rfl, a4, M_in]
  exact ck_of (b2_zb _)
theorem C_isPerson {c m h : Hp} (D : RD0 c m) (e : Agr SC c h) (x : Int32) : fX11_isPerson x h = some (b2 (rng x 0 (nI (nP m) - 1)), h) := by
  obtain ⟨⟨a1, a2⟩, ⟨a3, a4, a5⟩, _⟩ := D
  unfold fX11_isPerson
  rw [e.i 108 6 rfl, a5, C_within]
  exact ck_of (b2_zb _)
theorem M_hasLetter {c m h : Hp} (D : RD0 c m) (e : Agr SM m h) (x : Int32) : fX12_hasLetter x h = some (b2 (rng x 0 (nI (nL m) - 1)), h) := by
  obtain ⟨⟨a1, a2⟩, _, _, _, ⟨a3, a4, a5⟩, _⟩ := D
  unfold fX12_hasLetter
  rw [e.i 0 18 rfl, a2, ck_of (nI_inb a1 (by decide)), nI_ix (by omega), e.i 17 _ rfl, a4, M_in]
  exact ck_of (b2_zb _)
theorem C_isLetter {c m h : Hp} (D : RD0 c m) (e : Agr SC c h) (x : Int32) : fX11_isLetter x h = some (b2 (rng x 0 (nI (nL m) - 1)), h) := by
  obtain ⟨⟨a1, a2⟩, _, _, _, ⟨a3, a4, a5⟩, _⟩ := D
  unfold fX11_isLetter
  rw [e.i 108 9 rfl, a5, C_within]
  exact ck_of (b2_zb _)
theorem M_isYear (x : Int32) (h : Hp) : fX12_isYear x h = some (b2 (rng x 0 59), h) := by
  unfold fX12_isYear
  rw [M_in]
  exact ck_of (b2_zb _)
theorem C_isYear (x : Int32) (h : Hp) : fX11_isYear x h = some (b2 (rng x 0 59), h) := by
  unfold fX11_isYear
  rw [C_within]
  exact ck_of (b2_zb _)
theorem C_isLook (x : Int32) (h : Hp) : fX11_isLook x h = some (b2 (rng x 1 20), h) := by
  unfold fX11_isLook
  rw [C_within]
  exact ck_of (b2_zb _)
theorem M_isEach (x : Int32) (h : Hp) : fX12_isEach x h = some (b2 (rng x 1 20), h) := by
  unfold fX12_isEach
  rw [M_in]
  exact ck_of (b2_zb _)
theorem C_has (x i : Int32) (h : Hp) : fX11_has x i h = some (b2 (bit x i), h) := by
  unfold fX11_has bit
  by_cases e : (x >>> (i &&& 31)) &&& 1 = 0
  · rw [if_pos e, ck_of zb_0, decide_eq_false (fun n => n e)]; rfl
  · rw [if_neg e, ck_of zb_1, decide_eq_true e]; rfl
theorem bit_t {x i : Int32} : bit x i = true ↔ (x >>> (i &&& 31)) &&& 1 = 1 := by
  unfold bit
  rw [decide_eq_true_iff]
  rcases bit_01 (x >>> (i &&& 31)) with h | h <;> rw [h] <;> decide
theorem bit_f {x i : Int32} : bit x i = false ↔ (x >>> (i &&& 31)) &&& 1 = 0 := by
  unfold bit
  rw [decide_eq_false_iff_not]
  exact Decidable.not_not
