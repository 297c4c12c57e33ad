/-- a reading begins -/
def BWc : Ws := [(125, none), (127, none), (130, none), (131, none), (142, some 6), (142, some 7), (142, some 8), (142, some 9)]
theorem C_fillA {k n : Nat} (hn : n < 20000) (v : Int32) (h : Hp) : ∃ h', fJ7_fill_53178 k n v h = some h' ∧ (∀ j, j < n → h'.1 k j = v) ∧ Agr [(k, none)] h h' := by
  obtain ⟨h', e, a, b, c⟩ := C_fill (k := k) hn v h
  refine ⟨h', e, a, fun q j w => ⟨b q j ?_, by rw [c]⟩⟩
  rintro rfl
  rw [wm_hd] at w
  cases w
theorem C_beg0 (h : Hp) : ∃ c, fX5_begin h = some c ∧ Agr BWc h c ∧ c.1 125 6 = 0 ∧ c.1 125 7 = 0 ∧ c.1 125 8 = 0 ∧ c.1 125 9 = 0 ∧ c.1 125 10 = 10 ∧ c.1 125 11 = 0 ∧ (∀ q, q < 4 → c.1 127 q = 0) ∧ (∀ r, r < 3 → c.1 130 r = -1) ∧ c.1 142 6 = 0 ∧ c.1 142 7 = h.1 104 0 ∧ c.1 142 8 = 0 ∧ c.1 142 9 = -1 := by
  let h6 := wI (wI (wI (wI (wI (wI h 125 6 0) 125 7 0) 125 8 0) 125 9 0) 125 10 10) 125 11 0
  obtain ⟨h7, e7, a7, b7⟩ := C_fillA (k := 127) (n := 4) (by decide) 0 h6
  obtain ⟨h8, e8, a8, b8⟩ := C_fillA (k := 130) (n := 3) (by decide) (-1) h7
  obtain ⟨h9, e9, a9, b9⟩ := C_fillA (k := 131) (n := 3) (by decide) (-1) h8
  have cl : fX0_clear 125 h = some h9 := by
    unfold fX0_clear
    rw [lt_q, lt_q, lt_q, lt_q, lt_q, lt_q]
    show bv (fJ7_fill_53178 127 4 0 h6) (fun h7 => bv (fJ7_fill_53178 130 3 (-1) h7) (fun h8 => bv (fJ7_fill_53178 131 3 (-1) h8) (fun h9 => some h9))) = some h9
    rw [e7, bv_q, e8, bv_q, e9, bv_q]
  have g6 : ∀ j, h9.1 125 j = h6.1 125 j := fun j => by rw [b9.i 125 j rfl, b8.i 125 j rfl, b7.i 125 j rfl]
  have AG : Agr BWc h h9 := ((((((((Agr.refl.wI rfl).wI rfl).wI rfl).wI rfl).wI rfl).wI rfl : Agr BWc h h6).trans (b7.sub rfl)).trans (b8.sub rfl)).trans (b9.sub rfl)
  refine ⟨wI (wI (wI (wI h9 142 6 0) 142 7 (h9.1 104 0)) 142 8 0) 142 9 (-1), ?_, (((AG.wI rfl).wI rfl).wI rfl).wI rfl, ?_, ?_, ?_, ?_, ?_, ?_, fun q hq => ?_, fun r hr => ?_, ?_, ?_, ?_, ?_⟩
  · unfold fX5_begin
    rw [cl, bv_q, lt_q, ck_of (by decide), lt_q, lt_q, lt_q]
    rfl
  · show h9.1 125 6 = 0
    rw [g6]; rfl
  · show h9.1 125 7 = 0
    rw [g6]; rfl
  · show h9.1 125 8 = 0
    rw [g6]; rfl
  · show h9.1 125 9 = 0
    rw [g6]; rfl
  · show h9.1 125 10 = 10
    rw [g6]; rfl
  · show h9.1 125 11 = 0
    rw [g6]; rfl
  · show h9.1 127 q = 0
    rw [b9.i 127 q rfl, b8.i 127 q rfl]; exact a7 q hq
  · show h9.1 130 r = -1
    rw [b9.i 130 r rfl]; exact a8 r hr
  · rfl
  · show h9.1 104 0 = h.1 104 0
    exact AG.i 104 0 rfl
  · rfl
  · rfl
/-- the model's reading, from the text's end -/
def M_rd (h : Hp) : Option (Int32 × Hp) := lt (wI h 0 2 0) (fun h1 => bv (fX12_cut h1) (fun h2 => lt (wI h2 0 11 0) (fun h3 => lt (wI h3 0 12 0) (fun h4 => lt (wI h4 0 13 0) (fun h5 => lt (wI h5 0 15 0) (fun h6 => lt (wI h6 0 19 ((1 : Int32) - (h6.1 0 18))) (fun h7 => lt (wI h7 0 20 0) (fun h8 => ck (inb (h8.1 0 19) 2) (lt (wI h8 11 (ix (h8.1 0 19)) 0) (fun h9 => ck (inb (h9.1 0 19) 2) (lt (wI h9 13 (ix (h9.1 0 19)) 0) (fun h10 => ck (inb (h10.1 0 19) 2) (lt (wI h10 14 (ix (h10.1 0 19)) 0) (fun h11 => ck (inb (h11.1 0 19) 2) (lt (wI h11 17 (ix (h11.1 0 19)) 0) (fun h12 => ck (inb (h12.1 0 19) 2) (lt (wI h12 25 (ix (h12.1 0 19)) 10) (fun h13 => lt 0 (fun v14 => lX12_read_133 FU v14 h13)))))))))))))))))))
theorem M_copy {T : Nat} (hT : T ≤ 2000) : ∀ (d i : Nat) (h : Hp) (f : Nat), T - i ≤ d → i ≤ T → h.1 0 4 = nI T → d < f → ∃ h1, lX12_read_10 f (nI i) h = M_rd h1 ∧ Agr [(2, none)] h h1 ∧ (∀ j, i ≤ j → j < T → h1.1 2 j = vp_nar .byte (h.1 1 j)) ∧ ∀ j, j < i → h1.1 2 j = h.1 2 j := by
  intro d
  induction d with
  | zero =>
    intro i h f hd hi h4 hf
    obtain ⟨g, rfl⟩ : ∃ g, f = g + 1 := ⟨f - 1, by omega⟩
    obtain rfl : i = T := by omega
    refine ⟨h, ?_, .refl, fun j h1 h2 => absurd h2 (by omega), fun _ _ => rfl⟩
    rw [lX12_read_10]
    unfold bX12_read_10
    rw [h4, if_pos (nI_le (Nat.le_refl _) (by omega))]
    rfl
  | succ d ih =>
    intro i h f hd hi h4 hf
    obtain ⟨g, rfl⟩ : ∃ g, f = g + 1 := ⟨f - 1, by omega⟩
    by_cases e : i = T
    · subst e
      refine ⟨h, ?_, .refl, fun j h1 h2 => absurd h2 (by omega), fun _ _ => rfl⟩
      rw [lX12_read_10]
      unfold bX12_read_10
      rw [h4, if_pos (nI_le (Nat.le_refl _) (by omega))]
      rfl
    · obtain ⟨h1, e1, e2, e3, e4⟩ := ih (i + 1) (wI h 2 i (vp_nar .byte (h.1 1 i))) g (by omega) (by omega) (by rw [wI_k (by decide)]; exact h4) (by omega)
      refine ⟨h1, ?_, (Agr.refl.wI rfl : Agr [(2, none)] h _).trans e2, fun j j1 j2 => ?_, fun j hj => ?_⟩
      · rw [lX12_read_10, ← e1]
        unfold bX12_read_10
        rw [h4, if_neg (nI_ge (show i < T by omega) (by omega)), ck_of (nI_inb (show i < 2000 by omega) (by decide)), ck_of (nI_inb (show i < 2000 by omega) (by decide)), nI_ix (by omega), nI_1, lt_q, lt_q]
      · by_cases ej : j = i
        · subst ej
          rw [e4 j (by omega), wI_s]
        · rw [e3 j (by omega) j2, wI_k (by decide)]
      · rw [e4 j (by omega), wI_j (by omega)]
theorem M_133 {m : Hp} {sd : Nat} (hs : sd < 2) (h19 : m.1 0 19 = nI sd) : lX12_read_133 FU 0 m = lX12_read_182 FU (wI (wI (wI (wI (wI m 26 (3 * sd + 0) 0) 26 (3 * sd + 1) 0) 26 (3 * sd + 2) 0) 0 42 (nI (150 * sd))) 0 49 (nI (420 * sd))) := by
  have e : ∀ r, r < 3 → (3 : Int32) * nI sd + nI r = nI (3 * sd + r) := fun r hr => by
    obtain rfl | rfl : sd = 0 ∨ sd = 1 := by omega
    all_goals
      obtain rfl | rfl | rfl : r = 0 ∨ r = 1 ∨ r = 2 := by omega
      all_goals rfl
  have st : ∀ (r : Nat) (f : Nat) (h : Hp), r < 3 → h.1 0 19 = nI sd → lX12_read_133 (f + 1) (nI r) h = lX12_read_133 f (nI (r + 1)) (wI h 26 (3 * sd + r) 0) := fun r f h hr hh => by
    rw [lX12_read_133]
    unfold bX12_read_133
    rw [if_neg (show ¬ (3 : Int32) ≤ nI r from nI_ge (b := 3) hr (by decide)), hh, e r hr, ck_of (nI_inb (show 3 * sd + r < 6 by omega) (by decide)), nI_ix (by omega), nI_1, nar0, lt_q, lt_q]
  have e150 : (150 : Int32) * nI sd = nI (150 * sd) ∧ (420 : Int32) * nI sd = nI (420 * sd) := by
    obtain rfl | rfl : sd = 0 ∨ sd = 1 := by omega
    all_goals exact ⟨rfl, rfl⟩
  rw [show FU = 19996 + 1 + 1 + 1 + 1 from rfl, show (0 : Int32) = nI 0 from rfl, st 0 _ m (by decide) h19, st 1 _ _ (by decide) (by rw [wI_k (by decide)]; exact h19), st 2 _ _ (by decide) (by rw [wI_k (by decide), wI_k (by decide)]; exact h19), lX12_read_133]
  unfold bX12_read_133
  rw [if_pos (show (3 : Int32) ≤ nI (2 + 1) by decide), wI_k (show (0 : Nat) ≠ 26 by decide), wI_k (show (0 : Nat) ≠ 26 by decide), wI_k (show (0 : Nat) ≠ 26 by decide), h19, e150.1, lt_q, wI_j (show (19 : Nat) ≠ 42 by decide), wI_k (show (0 : Nat) ≠ 26 by decide), wI_k (show (0 : Nat) ≠ 26 by decide), wI_k (show (0 : Nat) ≠ 26 by decide), h19, e150.2, lt_q]
  rfl
