/-- the masks of at most three bits -/
def fewT : List Nat := [0, 1, 2, 4, 8, 16, 32, 64, 128, 256, 512, 3, 5, 6, 9, 10, 12, 17, 18, 20, 24, 33, 34, 36, 40, 48, 65, 66, 68, 72, 80, 96, 129, 130, 132, 136, 144, 160, 192, 257, 258, 260, 264, 272, 288, 320, 384, 513, 514, 516, 520, 528, 544, 576, 640, 768, 7, 11, 13, 14, 19, 21, 22, 25, 26, 28, 35, 37, 38, 41, 42, 44, 49, 50, 52, 56, 67, 69, 70, 73, 74, 76, 81, 82, 84, 88, 97, 98, 100, 104, 112, 131, 133, 134, 137, 138, 140, 145, 146, 148, 152, 161, 162, 164, 168, 176, 193, 194, 196, 200, 208, 224, 259, 261, 262, 265, 266, 268, 273, 274, 276, 280, 289, 290, 292, 296, 304, 321, 322, 324, 328, 336, 352, 385, 386, 388, 392, 400, 416, 448, 515, 517, 518, 521, 522, 524, 529, 530, 532, 536, 545, 546, 548, 552, 560, 577, 578, 580, 584, 592, 608, 641, 642, 644, 648, 656, 672, 704, 769, 770, 772, 776, 784, 800, 832, 896]
def fsN (k : Nat) : Nat := if k = 0 then 0 else if k = 1 then 1 else if k = 2 then 11 else if k = 3 then 56 else 176
def few (i : Nat) : Nat := fewT.getD i 0
theorem fsi_n : ∀ k, k < 5 → fsi k = nI (fsN k) := by decide +kernel
theorem fsN_176 : ∀ k, k < 5 → fsN k ≤ 176 := by decide +kernel
theorem few_1024 : ∀ i, i < 176 → few i < 1024 := by decide +kernel
theorem few_pop : ∀ k, k < 4 → ∀ i, i < 176 → fsN k ≤ i → i < fsN (k + 1) → pop (few i) = k := by decide +kernel
theorem few_up : ∀ k, k < 4 → ∀ i, i < 176 → fsN k ≤ i → i + 1 < fsN (k + 1) → few i < few (i + 1) := by decide +kernel
theorem few_ix : ∀ d, d < 1024 → pop d ≤ 3 → fsN (pop d) ≤ fewT.findIdx (fun x => x == d) ∧ fewT.findIdx (fun x => x == d) < fsN (pop d + 1) ∧ few (fewT.findIdx (fun x => x == d)) = d := by decide +kernel
theorem few_all {d : Nat} (hd : d < 1024) (hp : pop d ≤ 3) : ∃ i, fsN (pop d) ≤ i ∧ i < fsN (pop d + 1) ∧ few i = d := ⟨_, few_ix d hd hp⟩
theorem few_lt {k i : Nat} (hk : k < 4) (hi : fsN k ≤ i) : ∀ j, i < j → j < fsN (k + 1) → few i < few j
  | 0, h, _ => absurd h (by omega)
  | j + 1, h, h' => by
    have := fsN_176 (k + 1) (by omega)
    have h2 := few_up k hk j (by omega) (by omega) h'
    by_cases e : i = j
    · subst e; exact h2
    · exact Nat.lt_trans (few_lt hk hi j (by omega) (by omega)) h2
theorem few_le {k i j : Nat} (hk : k < 4) (hi : fsN k ≤ i) (hj : j < fsN (k + 1)) (h : i ≤ j) : few i ≤ few j := by
  by_cases e : i = j
  · subst e; exact Nat.le_refl _
  · exact Nat.le_of_lt (few_lt hk hi j (by omega) hj)
theorem shr_0 : ∀ p, p < 11 → ∀ a, a < 1024 → (nI a >>> (nI p &&& 31) = 0 ↔ a < 2 ^ p) := by decide +kernel
theorem p2_1024 {n : Nat} (h : n ≤ 10) : 2 ^ n ≤ 1024 := Nat.pow_le_pow_right (n := 2) (by decide) h
