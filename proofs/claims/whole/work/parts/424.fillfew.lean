/-- the row of few masks is filled -/
def cb2 (n : Nat) : Nat := n * (n - 1) / 2
def cb3 (n : Nat) : Nat := n * (n - 1) * (n - 2) / 6
theorem cb_s : ∀ n, n < 10 → cb2 (n + 1) = cb2 n + n ∧ cb3 (n + 1) = cb3 n + cb2 n ∧ cb2 n ≤ 36 ∧ cb3 n ≤ 84 := by decide +kernel
theorem fw1 : ∀ H, H < 10 → (1 : Int32) <<< (nI H &&& 31) = nI (few (1 + H)) := by decide +kernel
theorem fw2 : ∀ H, H < 10 → ∀ M, M < H → ((1 : Int32) <<< (nI H &&& 31)) ||| ((1 : Int32) <<< (nI M &&& 31)) = nI (few (11 + cb2 H + M)) := by decide +kernel
theorem fw3 : ∀ H, H < 10 → ∀ M, M < H → ∀ L, L < M → (((1 : Int32) <<< (nI H &&& 31)) ||| ((1 : Int32) <<< (nI M &&& 31))) ||| ((1 : Int32) <<< (nI L &&& 31)) = nI (few (56 + cb3 H + cb2 M + L)) := by decide +kernel
theorem fw3b : ∀ H, H < 10 → ∀ M, M < H → ∀ L, L < M → 56 + cb3 H + cb2 M + L < 176 := by decide +kernel
def fwI (o w t : Nat) (h h' : Hp) : Prop := Agr [(207, none)] h h' ∧ ∀ i, (i = 0 ∨ (1 ≤ i ∧ i < o) ∨ (11 ≤ i ∧ i < w) ∨ (56 ≤ i ∧ i < t)) → h'.1 207 i = nI (few i)
theorem fwI_w {o w t o' w' t' n : Nat} {h h1 : Hp} (H : fwI o w t h h1) (hi : ∀ i, (i = 0 ∨ (1 ≤ i ∧ i < o') ∨ (11 ≤ i ∧ i < w') ∨ (56 ≤ i ∧ i < t')) → i = n ∨ (i = 0 ∨ (1 ≤ i ∧ i < o) ∨ (11 ≤ i ∧ i < w) ∨ (56 ≤ i ∧ i < t))) : fwI o' w' t' h (wI h1 207 n (nI (few n))) := by
  refine ⟨H.1.wI rfl, fun i h2 => ?_⟩
  by_cases e : i = n
  · subst e; exact wI_s
  · rw [wI_j e]
    exact H.2 i ((hi i h2).resolve_left e)
theorem few_in {hh : Hp} {H M : Nat} {r28 : Int32 → Int32 → Int32 → Int32 → Hp → Option Hp} {r51 : Int32 → Int32 → Int32 → Int32 → Int32 → Hp → Option Hp} (hH : H < 10) (hM : M < H) : ∀ (d L : Nat) (h : Hp) (f : Nat), M - L ≤ d → L ≤ M → fwI (H + 2) (12 + cb2 H + M) (56 + cb3 H + cb2 M + L) hh h → d < f → ∃ h1, lX10_fillFew_79 r28 r51 f (nI (H + 2)) (nI (12 + cb2 H + M)) (nI (56 + cb3 H + cb2 M + L)) (nI H) (nI M) (nI L) h = r51 (nI (H + 2)) (nI (12 + cb2 H + M)) (nI (56 + cb3 H + cb2 (M + 1))) (nI H) (nI (M + 1)) h1 ∧ fwI (H + 2) (12 + cb2 H + M) (56 + cb3 H + cb2 (M + 1)) hh h1 := by
  have cM := cb_s M (by omega)
  have cH := cb_s H hH
  intro d
  induction d with
  | zero =>
    intro L h f hd hL I hf
    obtain ⟨g, rfl⟩ : ∃ g, f = g + 1 := ⟨f - 1, by omega⟩
    obtain rfl : L = M := by omega
    have e : 56 + cb3 H + cb2 L + L = 56 + cb3 H + cb2 (L + 1) := by omega
    rw [e] at I ⊢
    refine ⟨h, ?_, I⟩
    rw [lX10_fillFew_79]
    unfold bX10_fillFew_79
    rw [if_pos (nI_le (Nat.le_refl _) (by omega)), nI_1, lt_q]
  | succ d ih =>
    intro L h f hd hL I hf
    obtain ⟨g, rfl⟩ : ∃ g, f = g + 1 := ⟨f - 1, by omega⟩
    by_cases e0 : L = M
    · subst e0
      have e : 56 + cb3 H + cb2 L + L = 56 + cb3 H + cb2 (L + 1) := by omega
      rw [e] at I ⊢
      refine ⟨h, ?_, I⟩
      rw [lX10_fillFew_79]
      unfold bX10_fillFew_79
      rw [if_pos (nI_le (Nat.le_refl _) (by omega)), nI_1, lt_q]
    · have lM : L < M := by omega
      have bb := fw3b H hH M hM L lM
      obtain ⟨h1, e1, e2⟩ := ih (L + 1) (wI h 207 (56 + cb3 H + cb2 M + L) (nI (few (56 + cb3 H + cb2 M + L)))) g (by omega) (by omega) (fwI_w I fun i hi => by omega) (by omega)
      refine ⟨h1, ?_, e2⟩
      rw [lX10_fillFew_79, ← e1]
      unfold bX10_fillFew_79
      rw [if_neg (nI_ge lM (by omega)), ck_of (nI_inb (fw3b H hH M hM L lM) (by decide)), nI_ix (by omega), fw3 H hH M hM L lM, lt_q, nI_1, nI_1, lt_q, lt_q]
      rfl
theorem few_mid {hh : Hp} {H : Nat} {r28 : Int32 → Int32 → Int32 → Int32 → Hp → Option Hp} (hH : H < 10) : ∀ (d M : Nat) (h : Hp) (f : Nat), H - M ≤ d → M ≤ H → fwI (H + 2) (11 + cb2 H + M) (56 + cb3 H + cb2 M) hh h → d < f → ∃ h1, lX10_fillFew_51 r28 f (nI (H + 2)) (nI (11 + cb2 H + M)) (nI (56 + cb3 H + cb2 M)) (nI H) (nI M) h = r28 (nI (H + 2)) (nI (11 + cb2 (H + 1))) (nI (56 + cb3 (H + 1))) (nI (H + 1)) h1 ∧ fwI (H + 2) (11 + cb2 (H + 1)) (56 + cb3 (H + 1)) hh h1 := by
  have cH := cb_s H hH
  intro d
  induction d with
  | zero =>
    intro M h f hd hM I hf
    obtain ⟨g, rfl⟩ : ∃ g, f = g + 1 := ⟨f - 1, by omega⟩
    obtain rfl : M = H := by omega
    rw [show 11 + cb2 M + M = 11 + cb2 (M + 1) by omega, show 56 + cb3 M + cb2 M = 56 + cb3 (M + 1) by omega] at I ⊢
    refine ⟨h, ?_, I⟩
    rw [lX10_fillFew_51]
    unfold bX10_fillFew_51
    rw [if_pos (nI_le (Nat.le_refl _) (by omega)), nI_1, lt_q]
  | succ d ih =>
    intro M h f hd hM I hf
    obtain ⟨g, rfl⟩ : ∃ g, f = g + 1 := ⟨f - 1, by omega⟩
    by_cases e0 : M = H
    · subst e0
      rw [show 11 + cb2 M + M = 11 + cb2 (M + 1) by omega, show 56 + cb3 M + cb2 M = 56 + cb3 (M + 1) by omega] at I ⊢
      refine ⟨h, ?_, I⟩
      rw [lX10_fillFew_51]
      unfold bX10_fillFew_51
      rw [if_pos (nI_le (Nat.le_refl _) (by omega)), nI_1, lt_q]
    · have lM : M < H := by omega
      have cM := cb_s M (by omega)
      have I2 : fwI (H + 2) (12 + cb2 H + M) (56 + cb3 H + cb2 M + 0) hh (wI h 207 (11 + cb2 H + M) (nI (few (11 + cb2 H + M)))) := fwI_w I fun i hi => by omega
      obtain ⟨h1, e1, e2⟩ := few_in (r28 := r28) (r51 := lX10_fillFew_51 r28 g) hH lM M 0 _ FU (by omega) (by omega) I2 (show M < 20000 by omega)
      obtain ⟨h2, e3, e4⟩ := ih (M + 1) h1 g (by omega) (by omega) (by rw [show 11 + cb2 H + (M + 1) = 12 + cb2 H + M by omega]; exact e2) (by omega)
      refine ⟨h2, ?_, e4⟩
      rw [show 11 + cb2 H + (M + 1) = 12 + cb2 H + M by omega] at e3
      rw [lX10_fillFew_51, ← e3, ← e1]
      unfold bX10_fillFew_51
      rw [if_neg (nI_ge lM (by omega)), ck_of (nI_inb (show 11 + cb2 H + M < 176 by omega) (by decide)), nI_ix (by omega), fw2 H hH M lM, lt_q, nI_1, lt_q, lt_q, show 11 + cb2 H + M + 1 = 12 + cb2 H + M by omega]
      rfl
theorem few_out {hh : Hp} : ∀ (d H : Nat) (h : Hp) (f : Nat), 10 - H ≤ d → H ≤ 10 → fwI (1 + H) (11 + cb2 H) (56 + cb3 H) hh h → d < f → ∃ h1, lX10_fillFew_28 f (nI (1 + H)) (nI (11 + cb2 H)) (nI (56 + cb3 H)) (nI H) h = some h1 ∧ fwI 11 56 176 hh h1 := by
  intro d
  induction d with
  | zero =>
    intro H h f hd hH I hf
    obtain ⟨g, rfl⟩ : ∃ g, f = g + 1 := ⟨f - 1, by omega⟩
    obtain rfl : H = 10 := by omega
    refine ⟨h, ?_, I⟩
    rw [lX10_fillFew_28]
    unfold bX10_fillFew_28
    rw [if_pos (by decide)]
  | succ d ih =>
    intro H h f hd hH I hf
    obtain ⟨g, rfl⟩ : ∃ g, f = g + 1 := ⟨f - 1, by omega⟩
    by_cases e0 : H = 10
    · subst e0
      refine ⟨h, ?_, I⟩
      rw [lX10_fillFew_28]
      unfold bX10_fillFew_28
      rw [if_pos (by decide)]
    · have lH : H < 10 := by omega
      have cH := cb_s H lH
      have I2 : fwI (H + 2) (11 + cb2 H + 0) (56 + cb3 H + cb2 0) hh (wI h 207 (1 + H) (nI (few (1 + H)))) := fwI_w I fun i hi => by
        have : cb2 0 = 0 := rfl
        omega
      obtain ⟨h1, e1, e2⟩ := few_mid (r28 := lX10_fillFew_28 g) lH H 0 _ FU (by omega) (by omega) I2 (show H < 20000 by omega)
      obtain ⟨h2, e3, e4⟩ := ih (H + 1) h1 g (by omega) (by omega) (by rw [show 1 + (H + 1) = H + 2 by omega]; exact e2) (by omega)
      refine ⟨h2, ?_, e4⟩
      rw [show 1 + (H + 1) = H + 2 by omega] at e3
      rw [lX10_fillFew_28, ← e3, ← e1]
      unfold bX10_fillFew_28
      rw [if_neg (show ¬ (10 : Int32) ≤ nI H from nI_ge (b := 10) lH (by decide)), ck_of (nI_inb (show 1 + H < 176 by omega) (by decide)), nI_ix (by omega), fw1 H lH, lt_q, nI_1, lt_q, lt_q, show 1 + H + 1 = H + 2 by omega]
      rfl
theorem C_fillFew (h : Hp) : ∃ h1, fX10_fillFew h = some h1 ∧ fwC h1 ∧ Agr [(207, none)] h h1 := by
  have I0 : fwI (1 + 0) (11 + cb2 0) (56 + cb3 0) h (wI h 207 0 0) := ⟨Agr.refl.wI rfl, fun i hi => by
    have a : cb2 0 = 0 := rfl
    have b : cb3 0 = 0 := rfl
    obtain rfl : i = 0 := by omega
    exact wI_s⟩
  obtain ⟨h1, e1, e2⟩ := few_out 10 0 (wI h 207 0 0) FU (by omega) (by omega) I0 (by decide)
  refine ⟨h1, ?_, fun i hi => e2.2 i (by omega), e2.1⟩
  unfold fX10_fillFew
  rw [ck_of (by decide), lt_q, ck_of (by decide), lt_q, ck_of (by decide), lt_q, ck_of (by decide), lt_q, lt_q]
  exact e1
