/-- bits of masks -/
theorem and31 : ∀ i, i < 32 → nI i &&& 31 = nI i := by decide +kernel
theorem sm32 : ∀ i, i < 32 → ((nI i).toBitVec.smod 32).toNat = i := by decide +kernel
theorem bit_g (x : Int32) {i : Nat} (h : i < 32) : bit x (nI i) = x.toBitVec.getLsbD i := by
  rw [Bool.eq_iff_iff, bit_t, and31 i h, ← Int32.toBitVec_inj, Int32.toBitVec_and, Int32.toBitVec_shiftRight, BitVec.sshiftRight_eq', sm32 i h]
  constructor
  · intro e
    have e1 := congrArg (fun (b : BitVec 32) => b.getLsbD 0) e
    simpa [BitVec.getLsbD_sshiftRight, BitVec.getElem_sshiftRight, ← BitVec.getLsbD_eq_getElem, h] using e1
  · intro g
    apply BitVec.eq_of_getLsbD_eq
    intro j hj
    by_cases e : j = 0
    · subst e; simp [BitVec.getLsbD_sshiftRight, BitVec.getElem_sshiftRight, ← BitVec.getLsbD_eq_getElem, h, g]
    · simp [e]
theorem bit_ext {x y : Int32} (h : ∀ i, i < 32 → bit x (nI i) = bit y (nI i)) : x = y := by
  apply Int32.toBitVec_inj.mp
  apply BitVec.eq_of_getLsbD_eq
  intro i hi
  rw [← bit_g x hi, ← bit_g y hi]
  exact h i hi
theorem bit_or {x y : Int32} {i : Nat} (h : i < 32) : bit (x ||| y) (nI i) = (bit x (nI i) || bit y (nI i)) := by
  rw [bit_g _ h, bit_g _ h, bit_g _ h, Int32.toBitVec_or, BitVec.getLsbD_or]
theorem bit_and {x y : Int32} {i : Nat} (h : i < 32) : bit (x &&& y) (nI i) = (bit x (nI i) && bit y (nI i)) := by
  rw [bit_g _ h, bit_g _ h, bit_g _ h, Int32.toBitVec_and, BitVec.getLsbD_and]
theorem bit_not {x : Int32} {i : Nat} (h : i < 32) : bit (x ^^^ (-1)) (nI i) = !bit x (nI i) := by
  rw [bit_g _ h, bit_g _ h, Int32.toBitVec_xor, BitVec.getLsbD_xor]
  have : (-1 : Int32).toBitVec.getLsbD i = true := by
    show (BitVec.allOnes 32).getLsbD i = true
    rw [BitVec.getLsbD_allOnes]; exact decide_eq_true h
  rw [this, Bool.xor_true]
theorem bit_0 {i : Nat} (h : i < 32) : bit 0 (nI i) = false := by
  rw [bit_g _ h]; simp
theorem bit_nI {a i : Nat} (h : i < 32) : bit (nI a) (nI i) = a.testBit i := by
  rw [bit_g _ h]
  show (BitVec.ofNat 32 a).getLsbD i = _
  rw [BitVec.getLsbD_ofNat, decide_eq_true h, Bool.true_and]
theorem s1l : ∀ l, l < 32 → (1 : Int32) <<< (nI l &&& 31) = nI (2 ^ l) := by decide +kernel
theorem bit_1 {l i : Nat} (hl : l < 32) (h : i < 32) : bit ((1 : Int32) <<< (nI l &&& 31)) (nI i) = decide (l = i) := by
  rw [s1l l hl, bit_nI h, Nat.testBit_two_pow]
def bitL (x : Int64) (i : Nat) : Bool := x.toBitVec.getLsbD i
theorem sm64 : ∀ i, i < 64 → (((nI i).toInt64 &&& 63).toBitVec.smod 64).toNat = i := by decide +kernel
theorem bitL_g (x : Int64) {i : Nat} (h : i < 64) : lg_cmp ((shrL x (nI i)) &&& 1) 0 = 0 ↔ bitL x i = false := by
  rw [lg_cmp_eq, ← Int64.toBitVec_inj, Int64.toBitVec_and, shrL, Int64.toBitVec_shiftRight, BitVec.sshiftRight_eq', sm64 i h]
  unfold bitL
  constructor
  · intro e
    have e1 := congrArg (fun (b : BitVec 64) => b.getLsbD 0) e
    simpa [BitVec.getLsbD_sshiftRight, BitVec.getElem_sshiftRight, ← BitVec.getLsbD_eq_getElem, h] using e1
  · intro g
    apply BitVec.eq_of_getLsbD_eq
    intro j hj
    by_cases e : j = 0
    · subst e; simp [BitVec.getLsbD_sshiftRight, BitVec.getElem_sshiftRight, ← BitVec.getLsbD_eq_getElem, h, g]
    · simp [e]
theorem bitL_0 {i : Nat} : bitL 0 i = false := by unfold bitL; simp
theorem s1L : ∀ l, l < 64 → shlL 1 (nI l) = Int64.ofBitVec (BitVec.twoPow 64 l) := by decide +kernel
theorem bitL_or {x : Int64} {l i : Nat} (hl : l < 64) : bitL (x ||| shlL 1 (nI l)) i = (bitL x i || decide (l = i)) := by
  unfold bitL
  rw [s1L l hl, Int64.toBitVec_or, BitVec.getLsbD_or]
  show (_ || (BitVec.twoPow 64 l).getLsbD i) = _
  rw [BitVec.getLsbD_twoPow, decide_eq_true hl, Bool.true_and]
/-- how many bits -/
def pop (a : Nat) : Nat := (List.range 10).foldl (fun n i => n + (if a.testBit i = true then 1 else 0)) 0
theorem pop_c : ∀ a, a < 1024 → (fJ6_bitCount_0f7a4 (nI a) ((fun _ _ => 0), (fun _ _ => 0))).map Prod.fst = some (nI (pop a)) := by decide +kernel
theorem C_bitCount {a : Nat} (ha : a < 1024) (h : Hp) : fJ6_bitCount_0f7a4 (nI a) h = some (nI (pop a), h) := by
  have := pop_c a ha
  unfold fJ6_bitCount_0f7a4 at this ⊢
  simp only [lt_e, Option.map_some, Option.some.injEq] at this ⊢
  rw [this]
