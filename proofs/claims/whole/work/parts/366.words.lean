/-- words: the last letter first -/
def q32 : List Nat → Nat
  | [] => 0
  | x :: w => 32 * q32 w + x
def q27 : List Nat → Nat
  | [] => 0
  | x :: w => 27 * q27 w + x
def wkO (w : List Nat) : Prop := w.length ≤ 8 ∧ ∀ x, x ∈ w → 1 ≤ x ∧ x ≤ 26
theorem wkO_t {x : Nat} {w : List Nat} (h : wkO (x :: w)) : wkO w := ⟨by have := h.1; rw [List.length_cons] at this; omega, fun y hy => h.2 y (List.mem_cons_of_mem _ hy)⟩
theorem q32_inj : ∀ {v w : List Nat}, (∀ x, x ∈ v → 1 ≤ x ∧ x ≤ 26) → (∀ x, x ∈ w → 1 ≤ x ∧ x ≤ 26) → q32 v = q32 w → v = w
  | [], [], _, _, _ => rfl
  | [], y :: w, _, h2, e => by
    have := h2 y List.mem_cons_self
    rw [q32, q32] at e; omega
  | x :: v, [], h1, _, e => by
    have := h1 x List.mem_cons_self
    rw [q32, q32] at e; omega
  | x :: v, y :: w, h1, h2, e => by
    have a := h1 x List.mem_cons_self
    have b := h2 y List.mem_cons_self
    rw [q32, q32] at e
    rw [show x = y by omega, q32_inj (fun z hz => h1 z (List.mem_cons_of_mem _ hz)) (fun z hz => h2 z (List.mem_cons_of_mem _ hz)) (show q32 v = q32 w by omega)]
theorem q27_inj : ∀ {v w : List Nat}, (∀ x, x ∈ v → 1 ≤ x ∧ x ≤ 26) → (∀ x, x ∈ w → 1 ≤ x ∧ x ≤ 26) → q27 v = q27 w → v = w
  | [], [], _, _, _ => rfl
  | [], y :: w, _, h2, e => by
    have := h2 y List.mem_cons_self
    rw [q27, q27] at e; omega
  | x :: v, [], h1, _, e => by
    have := h1 x List.mem_cons_self
    rw [q27, q27] at e; omega
  | x :: v, y :: w, h1, h2, e => by
    have a := h1 x List.mem_cons_self
    have b := h2 y List.mem_cons_self
    rw [q27, q27] at e
    rw [show x = y by omega, q27_inj (fun z hz => h1 z (List.mem_cons_of_mem _ hz)) (fun z hz => h2 z (List.mem_cons_of_mem _ hz)) (show q27 v = q27 w by omega)]
theorem q32_lt : ∀ {w : List Nat}, (∀ x, x ∈ w → 1 ≤ x ∧ x ≤ 26) → q32 w < 32 ^ w.length
  | [], _ => by decide
  | x :: w, h => by
    have a := h x List.mem_cons_self
    have b := q32_lt (fun z hz => h z (List.mem_cons_of_mem _ hz))
    rw [q32, List.length_cons, Nat.pow_succ]
    omega
theorem q27_lt : ∀ {w : List Nat}, (∀ x, x ∈ w → 1 ≤ x ∧ x ≤ 26) → q27 w < 27 ^ w.length
  | [], _ => by decide
  | x :: w, h => by
    have a := h x List.mem_cons_self
    have b := q27_lt (fun z hz => h z (List.mem_cons_of_mem _ hz))
    rw [q27, List.length_cons, Nat.pow_succ]
    omega
theorem lN_v (n : Nat) : (lN n).toBitVec = BitVec.ofNat 64 n := rfl
theorem lN_in {a b : Nat} (ha : a < 2 ^ 64) (hb : b < 2 ^ 64) (e : lN a = lN b) : a = b := by
  have := congrArg (fun x : Int64 => x.toBitVec.toNat) e
  simp only [lN_v, BitVec.toNat_ofNat, Nat.mod_eq_of_lt ha, Nat.mod_eq_of_lt hb] at this
  exact this
theorem w32 {w : List Nat} (h : wkO w) : q32 w < 2 ^ 40 := Nat.lt_of_lt_of_le (q32_lt h.2) (by
  have := Nat.pow_le_pow_right (n := 32) (by decide) h.1
  rwa [show (32 : Nat) ^ 8 = 2 ^ 40 from rfl] at this)
theorem w27 {w : List Nat} (h : wkO w) : q27 w < 2 ^ 40 := Nat.lt_of_lt_of_le (q27_lt h.2) (by
  have := Nat.pow_le_pow_right (n := 27) (by decide) h.1
  have e : (27 : Nat) ^ 8 ≤ 2 ^ 40 := by decide
  exact Nat.le_trans this e)
/-- the same name in class and model -/
def nmR (x y : Int64) : Prop := ∃ w, wkO w ∧ x = lN (q32 w) ∧ y = lN (q27 w)
theorem l32_inj {v w : List Nat} (hv : wkO v) (hw : wkO w) : lN (q32 v) = lN (q32 w) ↔ v = w := by
  constructor
  · intro e
    have a := w32 hv
    have b := w32 hw
    exact q32_inj hv.2 hw.2 (lN_in (by omega) (by omega) e)
  · intro e; rw [e]
theorem l27_inj {v w : List Nat} (hv : wkO v) (hw : wkO w) : lN (q27 v) = lN (q27 w) ↔ v = w := by
  constructor
  · intro e
    have a := w27 hv
    have b := w27 hw
    exact q27_inj hv.2 hw.2 (lN_in (by omega) (by omega) e)
  · intro e; rw [e]
theorem nmR_eq {x y x' y' : Int64} (h : nmR x y) (h' : nmR x' y') : x = x' ↔ y = y' := by
  obtain ⟨w, hw, rfl, rfl⟩ := h
  obtain ⟨v, hv, rfl, rfl⟩ := h'
  rw [l32_inj hw hv, l27_inj hw hv]
theorem bitL_N {n i : Nat} (h : i < 64) : bitL (lN n) i = n.testBit i := by
  unfold bitL
  rw [lN_v, BitVec.getLsbD_ofNat, decide_eq_true h, Bool.true_and]
theorem sh5 : ∀ i, i < 64 → bitL (shlL (lN 1) 5) i = decide (i = 5) := by decide +kernel
theorem shl5 {a x : Nat} (ha : a < 2 ^ 40) (hx : x < 32) : shlL (lN a) 5 ||| lN x = lN (32 * a + x) := bitL_ext fun i hi => by
  rw [bitL_orL, bitL_N hi, bitL_N hi, Nat.testBit_two_pow_mul_add (i := 5) a hx i]
  have e : bitL (shlL (lN a) 5) i = (decide (5 ≤ i) && a.testBit (i - 5)) := by
    unfold bitL shlL
    rw [show ((5 : Int32).toInt64 &&& 63) = 5 from by decide, Int64.toBitVec_shiftLeft, lN_v, show ((5 : Int64).toBitVec.smod 64) = 5#64 from by decide]
    simp [hi]
    by_cases c : 5 ≤ i
    · simp [c]
      rw [decide_eq_false (show ¬ i < 5 by omega), Bool.not_false, Bool.true_and, ← BitVec.getLsbD_eq_getElem, BitVec.getLsbD_ofNat, decide_eq_true (show i - 5 < 64 by omega), Bool.true_and]
    · simp [c]
  rw [e]
  by_cases c : i < 5
  · rw [if_pos c, decide_eq_false (by omega)]; rfl
  · rw [if_neg c, decide_eq_true (by omega), Bool.true_and]
    have : x.testBit i = false := Nat.testBit_lt_two_pow (Nat.lt_of_lt_of_le hx (by
      have := Nat.pow_le_pow_right (n := 2) (by decide) (show 5 ≤ i by omega)
      omega))
    rw [this, Bool.or_false]
