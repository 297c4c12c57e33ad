/-- the rows of tokens -/
def TkRow (κ p : Nat) (ck cp : Int32) (cv : Int64) (mk mp mv : Int32) (mn : Int64) : Prop := κ ≤ 33 ∧ p ≤ 2000 ∧ ck = nI κ ∧ mk = nI (kM κ) ∧ cp = nI p ∧ mp = nI p ∧ (κ = 3 → ∃ v, v ≤ 9999 ∧ cv = lN v ∧ mv = nI v) ∧ (κ = 2 → nmR cv mn)
def TkP (k : Nat) (kd pl : Nat → Nat) (c m : Hp) : Prop := ∀ j, j < k → TkRow (kd j) (pl j) (c.1 104 j) (c.1 105 j) (c.2 106 j) (m.1 3 j) (m.1 4 j) (m.1 5 j) (m.2 6 j)
def TkR (K : Nat) (kd pl : Nat → Nat) (c m : Hp) : Prop := 1 ≤ K ∧ K ≤ 401 ∧ TkP K kd pl c m ∧ (∀ j, j + 1 < K → 2 ≤ kd j) ∧ (K < 401 → kd (K - 1) ≤ 1)
def upT (f : Nat → Nat) (k v : Nat) : Nat → Nat := fun j => if j = k then v else f j
theorem upT_s {f : Nat → Nat} {k v : Nat} : upT f k v k = v := if_pos rfl
theorem upT_n {f : Nat → Nat} {k v j : Nat} (h : j ≠ k) : upT f k v j = f j := if_neg h
theorem C_isBlank (x : Nat) (hx : x < 256) (h : Hp) : fX9_isBlank (nI x) h = some (b2 (blkP x), h) := by
  unfold fX9_isBlank blkP
  simp only [show (nI x = (9 : Int32)) = (x = 9) from eqI (n := 9) hx (by decide), show (nI x = (10 : Int32)) = (x = 10) from eqI (n := 10) hx (by decide), show (nI x = (13 : Int32)) = (x = 13) from eqI (n := 13) hx (by decide), show (nI x = (32 : Int32)) = (x = 32) from eqI (n := 32) hx (by decide), ck_of zb_1, ck_of zb_0]
  by_cases c9 : x = 9
  · subst c9; rfl
  simp only [if_neg c9]
  by_cases c10 : x = 10
  · subst c10; rfl
  simp only [if_neg c10]
  by_cases c13 : x = 13
  · subst c13; rfl
  simp only [if_neg c13]
  by_cases c32 : x = 32
  · subst c32; rfl
  simp only [if_neg c32]
  rw [decide_eq_false (by omega)]; rfl
theorem C_skip {N i n : Nat} {tx : Nat → Nat} {h : Hp} {Q : Hp → Prop} {r7 : Int32 → Hp → Option Hp} (T : TXc N tx h) (hN : N ≤ 2000) (B : ∀ i, i < N → tx i < 256) (hi : i ≤ N) (R : isRun N tx blkP i n) (K : Ok (bX9_scan_42 r7 (nI (i + n)) h) Q) : Ok (lX9_scan_17 r7 FU (nI i) h) Q := by
  have hle := run_le R hi
  refine up0 (fun f j (_ : Unit) => lX9_scan_17 r7 f (nI (i + j)) h) n (by omega) (fun _ _ => True) () trivial ?_ ?_
  · rintro f _ _
    rw [lX9_scan_17]
    simp only [bX9_scan_17, T.1, C_byteAt T hN (show i + n < 2 ^ 31 by omega), bi_q]
    by_cases c : i + n < N
    · rw [if_neg (nI_ge c (by omega)), if_pos c, C_isBlank _ (B _ c), bi_q, Bool.eq_false_iff.mpr (fun x => R.2 ⟨c, x⟩), if_pos (show b2 false = 0 from rfl)]
      exact K
    · rw [if_pos (nI_le (by omega) (by omega))]
      exact K
  · rintro f j _ hj _ K'
    obtain ⟨c, l⟩ := R.1 j hj
    rw [lX9_scan_17]
    simp only [bX9_scan_17, T.1, C_byteAt T hN (show i + j < 2 ^ 31 by omega), bi_q, if_neg (nI_ge c (show N < 2 ^ 31 by omega)), if_pos c, C_isBlank _ (B _ c), l, b2_t, i10, ↓reduceIte, lt_q, nI_1]
    exact K' () trivial
theorem M_skip {N k : Nat} {tx : Nat → Nat} {h : Hp} (T : TXm N tx h) (hN : N ≤ 2000) (B : ∀ i, i < N → tx i < 256) (hk : h.1 0 10 = nI k) (k4 : k ≤ 400) : ∀ (n i f : Nat), (∀ j, j < n → i + j < N ∧ blkP (tx (i + j)) = true) → lX12_cut_7 (f + n) (nI i) h = lX12_cut_7 f (nI (i + n)) h
  | 0, i, f, _ => rfl
  | n + 1, i, f, R => by
    obtain ⟨c, l⟩ := R 0 (by omega)
    rw [Nat.add_zero] at c l
    have b := B i c
    rw [← Nat.add_assoc, lX12_cut_7]
    have nx : lX12_cut_7 (f + n) (nI (i + 1)) h = lX12_cut_7 f (nI (i + (n + 1))) h := by
      rw [M_skip T hN B hk k4 n (i + 1) f (fun j hj => by have := R (j + 1) (by omega); rw [show i + 1 + j = i + (j + 1) by omega]; exact this), show i + 1 + n = i + (n + 1) by omega]
    simp only [bX12_cut_7, bX12_cut_67, bX12_cut_291, hk, if_neg (show ¬ (400 : Int32) < nI k from nI_nlt (a := 400) k4 (by decide)), M_byteAt T hN (show i < 2 ^ 31 by omega), if_pos c, bi_q, lt_q, T.1, if_pos (nI_lt c (show N < 2 ^ 31 by omega)), nI_1, nx, show (nI (tx i) = (9 : Int32)) = (tx i = 9) from eqI (n := 9) b (by decide), show (nI (tx i) = (10 : Int32)) = (tx i = 10) from eqI (n := 10) b (by decide), show (nI (tx i) = (13 : Int32)) = (tx i = 13) from eqI (n := 13) b (by decide), show (nI (tx i) = (32 : Int32)) = (tx i = 32) from eqI (n := 32) b (by decide)]
    have l' : tx i = 9 ∨ tx i = 10 ∨ tx i = 13 ∨ tx i = 32 := by unfold blkP at l; simpa using l
    rcases l' with e | e | e | e <;> simp [e]
def rowsM (k : Nat) (h h' : Hp) : Prop := ∀ j, j < k → h'.1 3 j = h.1 3 j ∧ h'.1 4 j = h.1 4 j ∧ h'.1 5 j = h.1 5 j ∧ h'.2 6 j = h.2 6 j
theorem rowsM_t {k : Nat} {h h' : Hp} {a p v : Int32} {n : Int64} (H : rowsM (k + 1) (tokM h k a p v n) h') : rowsM k h h' := fun j hj => by
  obtain ⟨a1, a2, a3, a4⟩ := H j (by omega)
  obtain ⟨b1, b2, b3, b4⟩ := tokM_o (h := h) (a := a) (p := p) (v := v) (n := n) (show j ≠ k by omega)
  exact ⟨a1.trans b1, a2.trans b2, a3.trans b3, a4.trans b4⟩
theorem M_end {N k : Nat} {tx : Nat → Nat} {h : Hp} (T : TXm N tx h) (hN : N ≤ 2000) (hk : h.1 0 10 = nI k) (k4 : k ≤ 400) (f : Nat) : lX12_cut_7 (f + 1) (nI N) h = some (tokM h k 0 (nI N) 0 0) := by
  rw [lX12_cut_7]
  simp only [bX12_cut_7, hk, if_neg (show ¬ (400 : Int32) < nI k from nI_nlt (a := 400) k4 (by decide)), M_byteAt T hN (show N < 2 ^ 31 by omega), if_neg (show ¬ N < N by omega), bi_q, lt_q, T.1, if_neg (nI_nlt (Nat.le_refl N) (show N < 2 ^ 31 by omega)), M_token hk (show k < 403 by omega), bv_q]
theorem M_full {k : Nat} {h : Hp} (hk : h.1 0 10 = nI k) (k4 : k = 401) (i : Int32) (f : Nat) : lX12_cut_7 (f + 1) i h = some h := by
  rw [lX12_cut_7]
  simp only [bX12_cut_7, hk, if_pos (show (400 : Int32) < nI k from nI_lt (a := 400) (by omega) (by omega))]
theorem M_rest {N : Nat} {tx : Nat → Nat} (hN : N ≤ 2000) (B : ∀ i, i < N → tx i < 256) : ∀ (d i k : Nat) (h : Hp) (f : Nat), N - i ≤ d → i ≤ N → k ≤ 401 → TXm N tx h → KWm h → h.1 0 10 = nI k → N - i + 1 < f → Ok (lX12_cut_7 f (nI i) h) (fun h' => Agr TSm h h' ∧ rowsM k h h') := by
  intro d
  induction d with
  | zero =>
    intro i k h f hd hi hk4 T W hk hf
    obtain ⟨g, rfl⟩ : ∃ g, f = g + 1 := ⟨f - 1, by omega⟩
    by_cases k4 : k = 401
    · rw [M_full hk k4, ok_some]
      exact ⟨.refl, fun _ _ => ⟨rfl, rfl, rfl, rfl⟩⟩
    · have : i = N := by omega
      subst this
      rw [M_end T hN hk (by omega), ok_some]
      exact ⟨tokM_agr, fun j hj => tokM_o (by omega)⟩
  | succ d ih =>
    intro i k h f hd hi hk4 T W hk hf
    by_cases k4 : k = 401
    · obtain ⟨g, rfl⟩ : ∃ g, f = g + 1 := ⟨f - 1, by omega⟩
      rw [M_full hk k4, ok_some]
      exact ⟨.refl, fun _ _ => ⟨rfl, rfl, rfl, rfl⟩⟩
    · obtain ⟨n, R⟩ := run_ex (N := N) (tx := tx) (p := blkP) (N - i) i (Nat.le_refl _)
      have hle := run_le R hi
      obtain ⟨g, rfl⟩ : ∃ g, f = g + 1 + n := ⟨f - n - 1, by omega⟩
      rw [M_skip T hN B hk (by omega) n i (g + 1) R.1]
      by_cases c : i + n < N
      · obtain ⟨κ, nx, v, w, _, _, t3, t4, _, _, _, tm⟩ := tok_at hN B c (Bool.eq_false_iff.mpr (fun x => R.2 ⟨c, x⟩))
        rw [lX12_cut_7]
        refine tm h k _ _ T W hk (by omega) fun mv mn _ _ => ?_
        refine (ih nx (k + 1) _ g (by omega) (by omega) (by omega) (TXm_a tokM_agr T) (KWm_a tokM_agr W) tokM_k.2.2.2.2 (by omega)).mono ?_
        rintro h' ⟨a, r⟩
        exact ⟨tokM_agr.trans a, rowsM_t r⟩
      · have : i + n = N := by omega
        rw [this, M_end T hN hk (by omega), ok_some]
        exact ⟨tokM_agr, fun j hj => tokM_o (by omega)⟩
