/-- the first heaps -/
theorem KWm0 : KWm hM0 := by
  unfold KWm
  decide +kernel
theorem rel_start {c : Hp} (t : c.1 101 1 = 0) (p : c.1 100 12 = -1) (h6 : c.1 108 6 = 0) (h7 : c.1 108 7 = 0) (h8 : c.1 108 8 = 0) (h9 : c.1 108 9 = 0) (h10 : c.1 108 10 = 10) (h11 : c.1 108 11 = 0) (h13 : ∀ r, r < 3 → c.1 113 r = -1) (f : c.1 152 6 = 0) (s : c.1 100 11 = 0) (K : KWc c) (W : fwC c) : RelAO c hM0 := by
  have l0 : lv hM0 = 0 := rfl
  have p0 : nP hM0 = 0 := rfl
  have c0 : nC hM0 = 0 := rfl
  have b0 : nB hM0 = 0 := rfl
  have n0 : nL hM0 = 0 := rfl
  have D : RD0 c hM0 := by
    unfold RD0
    rw [l0, p0, c0, b0, n0]
    exact ⟨⟨by decide, rfl⟩, ⟨by decide, rfl, h6⟩, ⟨by decide, rfl, h7⟩, ⟨by decide, rfl, h8⟩, ⟨by decide, rfl, h9⟩, h10, fun l hl => absurd hl (by omega), fun l hl => absurd hl (by omega), fun l hl => absurd hl (by omega)⟩
  refine ⟨0, 0, fun _ => none, fun _ => [], 0, by decide, ⟨t, rfl, fun i hi => absurd hi (by omega)⟩, p, ⟨D, fun r hr => ?_, fun l hl => absurd hl (by rw [n0]; omega), ⟨h11, by decide, fun r hr => h13 r hr⟩, ⟨h11, by decide, fun l hl => absurd hl (by rw [n0]; omega)⟩, fun l x r hl => absurd hl (by rw [n0]; omega), ⟨fun p y hp => absurd hp (by rw [p0]; omega), fun l y hl => absurd hl (by rw [n0]; omega)⟩, fun l hl => absurd hl (by rw [n0]; omega)⟩, ⟨by decide, f, rfl, fun i hi => absurd hi (by omega), fun i hi => absurd hi (by omega)⟩, ⟨0, by decide, s, fun s hs => ?_⟩, K, KWm0, W⟩
  · show hM0.1 26 (3 * lv hM0 + r) = 0
    rfl
  · unfold slt
    rw [Nat.zero_testBit, if_neg (by decide)]
    obtain rfl | rfl | rfl : s = 0 ∨ s = 1 ∨ s = 2 := by omega
    all_goals rfl
