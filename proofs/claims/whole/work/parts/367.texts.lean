/-- texts -/
def kwT : List (List Nat) := [[14, 15, 19, 18, 5, 16], [11, 18, 5, 12, 3], [4, 5, 18, 18, 1, 2], [18, 5, 20, 20, 5, 12], [6, 9], [6, 15, 15, 18, 16], [19, 5, 9, 4], [5, 5, 6], [4, 15, 15, 7], [18, 15], [4, 14, 1], [20, 15, 14], [4, 1, 5, 4], [4, 1, 5, 18], [18, 1, 5, 25], [5, 7, 1], [6, 12, 5, 8, 19], [5, 20, 1, 12]]
def kw (i : Nat) : List Nat := kwT.getD i []
def sgT : List Nat := [0, 1, 2, 3, 5, 6, 7, 8, 4, 9, 10, 11, 12, 13, 14, 15, 16, 17]
def sg (k : Nat) : Nat := sgT.getD k 0
def kMT : List Nat := [0, 3, 1, 2, 4, 8, 9, 10, 15, 11, 12, 13, 14, 16, 6, 7, 20, 21, 22, 23, 28, 24, 25, 26, 27, 29, 30, 31, 32, 33, 34, 35, 36, 37]
def kM (k : Nat) : Nat := kMT.getD k 3
theorem kw_ok : ∀ i, i < 18 → (kw i).length ≤ 7 ∧ (kw i).all (fun x => decide (1 ≤ x ∧ x ≤ 26)) = true := by decide +kernel
theorem kw_wk {i : Nat} (h : i < 18) : wkO (kw i) := ⟨Nat.le_trans (kw_ok i h).1 (by decide), fun x hx => by
  have := List.all_eq_true.mp (kw_ok i h).2 x hx
  simpa using this⟩
theorem kw_inj : ∀ i, i < 18 → ∀ j, j < 18 → kw i = kw j → i = j := by decide +kernel
theorem sg_ok : ∀ k, k < 18 → sg k < 18 ∧ kM (16 + sg k) = 20 + k := by decide +kernel
theorem sg_on : ∀ i, i < 18 → sg (kM (16 + i) - 20) = i ∧ kM (16 + i) - 20 < 18 := by decide +kernel
def KWc (c : Hp) : Prop := ∀ i, i < 18 → c.2 107 i = lN (q32 (kw i))
def KWm (m : Hp) : Prop := ∀ k, k < 18 → m.2 7 k = lN (q27 (kw (sg k)))
def TXc (N : Nat) (tx : Nat → Nat) (c : Hp) : Prop := c.1 101 1 = nI N ∧ ∀ i, i < N → c.1 102 i &&& 255 = nI (tx i)
def TXm (N : Nat) (tx : Nat → Nat) (m : Hp) : Prop := m.1 0 4 = nI N ∧ ∀ i, i < N → m.1 2 i &&& 255 = nI (tx i)
theorem C_byteAt {N : Nat} {tx : Nat → Nat} {h : Hp} (T : TXc N tx h) (hN : N ≤ 2000) {i : Nat} (hi : i < 2 ^ 31) : fX8_byteAt (nI i) h = some (if i < N then nI (tx i) else -1, h) := by
  unfold fX8_byteAt
  rw [T.1, C_within, bi_q]
  by_cases c : i < N
  · rw [(rng_n (by omega)).mpr ⟨i, c, rfl⟩, if_neg (by decide), ck_of (nI_inb (show i < 2000 by omega) (by decide)), nI_ix hi, T.2 i c, if_pos c]
  · have : rng (nI i) 0 (nI N - 1) = false := Bool.eq_false_iff.mpr fun x => by
      obtain ⟨j, hj, e⟩ := (rng_n (by omega)).mp x
      have := (nI_eq hi (by omega)).mp e
      omega
    rw [this, if_pos (show b2 false = 0 from rfl), if_neg c]
theorem M_byteAt {N : Nat} {tx : Nat → Nat} {h : Hp} (T : TXm N tx h) (hN : N ≤ 2000) {i : Nat} (hi : i < 2 ^ 31) : fX12_byteAt (nI i) h = some (if i < N then nI (tx i) else 0, h) := by
  unfold fX12_byteAt
  rw [T.1]
  by_cases c : i < N
  · rw [if_neg (nI_ge c (by omega)), ck_of (nI_inb (show i < 2000 by omega) (by decide)), nI_ix hi, T.2 i c, if_pos c]
  · rw [if_pos (nI_le (by omega) hi), if_neg c]
def ltrP (x : Nat) : Bool := decide (97 ≤ x ∧ x ≤ 122)
def dgtP (x : Nat) : Bool := decide (48 ≤ x ∧ x ≤ 57)
def blkP (x : Nat) : Bool := decide (x = 9 ∨ x = 10 ∨ x = 13 ∨ x = 32)
theorem rL : ∀ x, x < 256 → rng (nI x) 97 122 = ltrP x := by decide +kernel
theorem rD : ∀ x, x < 256 → rng (nI x) 48 57 = dgtP x := by decide +kernel
theorem M_isLet (x : Int32) (h : Hp) : fX12_isLetter x h = some (b2 (rng x 97 122), h) := M_in x 97 122 h
theorem M_isDig (x : Int32) (h : Hp) : fX12_isDigit x h = some (b2 (rng x 48 57), h) := M_in x 48 57 h
/-- a run of signs of one sort -/
def isRun (N : Nat) (tx : Nat → Nat) (p : Nat → Bool) (i n : Nat) : Prop := (∀ j, j < n → i + j < N ∧ p (tx (i + j)) = true) ∧ ¬ (i + n < N ∧ p (tx (i + n)) = true)
theorem run_ex {N : Nat} {tx : Nat → Nat} {p : Nat → Bool} : ∀ (d i : Nat), N - i ≤ d → ∃ n, isRun N tx p i n
  | 0, i, h => ⟨0, fun j hj => absurd hj (by omega), fun x => by have := x.1; omega⟩
  | d + 1, i, h => by
    by_cases c : i < N ∧ p (tx i) = true
    · obtain ⟨n, h1, h2⟩ := run_ex (N := N) (tx := tx) (p := p) d (i + 1) (by omega)
      refine ⟨n + 1, fun j hj => ?_, fun x => h2 (by rw [show i + 1 + n = i + (n + 1) by omega]; exact x)⟩
      cases j with
      | zero => exact c
      | succ j =>
        have := h1 j (by omega)
        rw [show i + 1 + j = i + (j + 1) by omega] at this
        exact this
    · exact ⟨0, fun j hj => absurd hj (by omega), fun x => c x⟩
theorem run_le {N : Nat} {tx : Nat → Nat} {p : Nat → Bool} {i n : Nat} (h : isRun N tx p i n) (hi : i ≤ N) : i + n ≤ N := by
  cases n with
  | zero => omega
  | succ n => have := (h.1 n (by omega)).1; omega
def wd (tx : Nat → Nat) (i : Nat) : Nat → List Nat
  | 0 => []
  | n + 1 => (tx (i + n) - 96) :: wd tx i n
theorem wd_len {tx : Nat → Nat} {i : Nat} : ∀ {n : Nat}, (wd tx i n).length = n
  | 0 => rfl
  | n + 1 => by rw [wd, List.length_cons, wd_len]
theorem wd_in {N : Nat} {tx : Nat → Nat} {i : Nat} : ∀ {n : Nat}, (∀ j, j < n → i + j < N ∧ ltrP (tx (i + j)) = true) → ∀ x, x ∈ wd tx i n → 1 ≤ x ∧ x ≤ 26
  | 0, _, x, hx => by cases hx
  | n + 1, h, x, hx => by
    rw [wd, List.mem_cons] at hx
    rcases hx with rfl | hx
    · have := (h n (by omega)).2
      unfold ltrP at this
      rw [decide_eq_true_iff] at this
      omega
    · exact wd_in (n := n) (fun j hj => h j (by omega)) x hx
theorem wd_ok {N : Nat} {tx : Nat → Nat} {i n : Nat} (h : ∀ j, j < n → i + j < N ∧ ltrP (tx (i + j)) = true) (h8 : n ≤ 8) : wkO (wd tx i n) := ⟨by rw [wd_len]; exact h8, wd_in h⟩
def dg (tx : Nat → Nat) (i : Nat) : Nat → Nat
  | 0 => 0
  | n + 1 => 10 * dg tx i n + (tx (i + n) - 48)
theorem dg_lt {N : Nat} {tx : Nat → Nat} {i : Nat} : ∀ {n : Nat}, (∀ j, j < n → i + j < N ∧ dgtP (tx (i + j)) = true) → dg tx i n < 10 ^ n
  | 0, _ => by rw [dg]; decide
  | n + 1, h => by
    have a := dg_lt (n := n) (fun j hj => h j (by omega))
    have b := (h n (by omega)).2
    unfold dgtP at b
    rw [decide_eq_true_iff] at b
    rw [dg, Nat.pow_succ]
    omega
/-- which word it is -/
def KD (w : List Nat) (k : Nat) : Prop := (∃ i, i < 18 ∧ kw i = w ∧ k = 16 + i) ∨ (k = 2 ∧ ∀ i, i < 18 → ¬ kw i = w)
theorem KD_un {w : List Nat} {k k' : Nat} (h : KD w k) (h' : KD w k') : k = k' := by
  rcases h with ⟨i, hi, e, rfl⟩ | ⟨rfl, h⟩ <;> rcases h' with ⟨j, hj, e', rfl⟩ | ⟨rfl, h'⟩
  · rw [kw_inj i hi j hj (e.trans e'.symm)]
  · exact absurd e (h' i hi)
  · exact absurd e' (h j hj)
  · rfl
theorem C_wordKind {w : List Nat} {h : Hp} (hw : wkO w) (W : KWc h) : ∃ k, KD w k ∧ fX9_wordKind (lN (q32 w)) h = some (nI k, h) := by
  have : Ok (fX9_wordKind (lN (q32 w)) h) (fun p => p.2 = h ∧ ∃ k, KD w k ∧ p.1 = nI k) := by
    unfold fX9_wordKind
    rw [lt_q]
    refine up0 (fun f i (_ : Unit) => lX9_wordKind_2 f (lN (q32 w)) (nI i) h) 18 (by decide) (fun i _ => ∀ j, j < i → ¬ kw j = w) () (fun j hj => absurd hj (by omega)) ?_ ?_
    · rintro f _ hI
      rw [lX9_wordKind_2]
      simp only [bX9_wordKind_2, if_pos (show (18 : Int32) ≤ nI 18 by decide), ok_some]
      exact ⟨trivial, 2, .inr ⟨rfl, hI⟩, rfl⟩
    · rintro f i _ hi hI K
      rw [lX9_wordKind_2]
      simp only [bX9_wordKind_2, if_neg (show ¬ (18 : Int32) ≤ nI i from nI_ge (b := 18) hi (by decide)), ck_of (nI_inb hi (by decide)), nI_ix (show i < 2 ^ 31 by omega), W i hi, lg_cmp_eq, l32_inj (kw_wk hi) hw, lt_q, nI_1]
      by_cases c : kw i = w
      · rw [if_pos c, ok_some]
        exact ⟨rfl, 16 + i, .inl ⟨i, hi, c, rfl⟩, nI_add 16 i⟩
      · rw [if_neg c]
        refine K () fun j hj => ?_
        by_cases e : j = i
        · subst e; exact c
        · exact hI j (by omega)
  obtain ⟨⟨v, h'⟩, e, e2, k, hk, e3⟩ := this
  simp only at e2 e3
  subst e2; subst e3
  exact ⟨k, hk, e⟩
