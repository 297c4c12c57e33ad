/-- the lowest bit -/
theorem low_nat (n : Nat) : 0 < n → ∃ k q, n = 2 ^ (k + 1) * q + 2 ^ k := by
  induction n using Nat.strongRecOn with
  | _ n ih =>
    intro hn
    by_cases h : n % 2 = 1
    · exact ⟨0, n / 2, by simp; omega⟩
    · obtain ⟨k, q, e⟩ := ih (n / 2) (by omega) (by omega)
      refine ⟨k + 1, q, ?_⟩
      have e1 : 2 ^ (k + 1 + 1) * q = 2 * (2 ^ (k + 1) * q) := by rw [Nat.pow_succ (n := 2) (m := k + 1), Nat.mul_comm (2 ^ (k + 1)) 2, Nat.mul_assoc]
      have e2 : 2 ^ (k + 1) = 2 * 2 ^ k := by rw [Nat.pow_succ, Nat.mul_comm]
      rw [e1]
      omega
theorem low_bv {w : Nat} (x : BitVec w) (hx : 0 < x.toNat) : ∃ k, k < w ∧ x.getLsbD k = true ∧ (∀ j, j < k → x.getLsbD j = false) ∧ ∀ j, (x - 1#w).getLsbD j = (if j < k then true else if j = k then false else x.getLsbD j) := by
  obtain ⟨k, q, e⟩ := low_nat _ hx
  have p0 : 0 < 2 ^ k := Nat.two_pow_pos k
  have e2 : 2 ^ (k + 1) = 2 * 2 ^ k := by rw [Nat.pow_succ, Nat.mul_comm]
  have hw : x.toNat < 2 ^ w := x.isLt
  have hk : k < w := by
    rcases Nat.lt_or_ge k w with h | h
    · exact h
    · have := Nat.pow_le_pow_right (n := 2) (by decide) h
      omega
  have w1 : 1 < 2 ^ w := by
    have := Nat.pow_le_pow_right (n := 2) (by decide) (show 1 ≤ w by omega)
    omega
  have t0 : ∀ j, x.getLsbD j = if j < k + 1 then decide (k = j) else q.testBit (j - (k + 1)) := fun j => by
    rw [← BitVec.testBit_toNat, e, Nat.testBit_two_pow_mul_add q (show 2 ^ k < 2 ^ (k + 1) by omega) j, Nat.testBit_two_pow]
  have es : (x - 1#w).toNat = 2 ^ (k + 1) * q + (2 ^ k - 1) := by
    rw [BitVec.toNat_sub, BitVec.toNat_ofNat, Nat.mod_eq_of_lt w1, show 2 ^ w - 1 + x.toNat = (x.toNat - 1) + 2 ^ w by omega, Nat.add_mod_right, Nat.mod_eq_of_lt (by omega)]
    omega
  have t1 : ∀ j, (x - 1#w).getLsbD j = if j < k + 1 then decide (j < k) else q.testBit (j - (k + 1)) := fun j => by
    rw [← BitVec.testBit_toNat, es, Nat.testBit_two_pow_mul_add q (show 2 ^ k - 1 < 2 ^ (k + 1) by omega) j, Nat.testBit_two_pow_sub_one]
  refine ⟨k, hk, ?_, fun j hj => ?_, fun j => ?_⟩
  · rw [t0, if_pos (by omega), decide_eq_true rfl]
  · rw [t0, if_pos (by omega), decide_eq_false (by omega)]
  · rw [t1, t0]
    by_cases c1 : j < k
    · rw [if_pos c1, if_pos (by omega), decide_eq_true c1]
    · rw [if_neg c1]
      by_cases c2 : j = k
      · rw [if_pos c2, if_pos (by omega), decide_eq_false c1]
      · rw [if_neg c2, if_neg (by omega), if_neg (by omega)]
theorem low_sub {w : Nat} {x : BitVec w} {k : Nat} (h1 : x.getLsbD k = true) (h0 : ∀ j, j < k → x.getLsbD j = false) (j : Nat) : (x - 1#w).getLsbD j = (if j < k then true else if j = k then false else x.getLsbD j) := by
  have hx : 0 < x.toNat := by
    rcases Nat.eq_zero_or_pos x.toNat with h | h
    · rw [← BitVec.testBit_toNat, h, Nat.zero_testBit] at h1; cases h1
    · exact h
  obtain ⟨k', _, a1, a2, a3⟩ := low_bv x hx
  have : k' = k := by
    rcases Nat.lt_trichotomy k' k with h | h | h
    · rw [h0 k' h] at a1; cases a1
    · exact h
    · rw [a2 k h] at h1; cases h1
  subst this
  exact a3 j
theorem ntz_v {x : Int32} {k : Nat} (hk : k < 32) (h1 : bit x (nI k) = true) (h0 : ∀ j, j < k → bit x (nI j) = false) : (x ^^^ (-1)) &&& (x - 1) = nI (2 ^ k - 1) := bit_ext fun i hi => by
  rw [bit_and hi, bit_not hi, bit_nI hi, Nat.testBit_two_pow_sub_one, bit_g (x - 1) hi, Int32.toBitVec_sub]
  have := low_sub (x := x.toBitVec) (k := k) (by rw [← bit_g x hk]; exact h1) (fun j hj => by rw [← bit_g x (by omega)]; exact h0 j hj) i
  rw [show (1 : Int32).toBitVec = 1#32 from rfl, this, ← bit_g x hi]
  by_cases c1 : i < k
  · rw [if_pos c1, h0 i c1, decide_eq_true c1]; rfl
  · rw [if_neg c1, decide_eq_false c1]
    by_cases c2 : i = k
    · rw [if_pos c2, Bool.and_false]
    · rw [if_neg c2]; cases bit x (nI i) <;> rfl
theorem ntz_k : ∀ k, k < 32 → (fJ6_numberOfTrailingZeros_0f7a4 (nI (2 ^ k)) ((fun _ _ => 0), (fun _ _ => 0))).map Prod.fst = some (nI k) := by decide +kernel
theorem C_ntz32 {x : Int32} {k : Nat} (hk : k < 32) (h1 : bit x (nI k) = true) (h0 : ∀ j, j < k → bit x (nI j) = false) (h : Hp) : fJ6_numberOfTrailingZeros_0f7a4 x h = some (nI k, h) := by
  have e : fJ6_numberOfTrailingZeros_0f7a4 x h = fJ6_numberOfTrailingZeros_0f7a4 (nI (2 ^ k)) h := by
    unfold fJ6_numberOfTrailingZeros_0f7a4
    rw [ntz_v hk h1 h0, ntz_v hk (by rw [bit_nI hk, Nat.testBit_two_pow]; exact decide_eq_true rfl) (fun j hj => by rw [bit_nI (by omega), Nat.testBit_two_pow]; exact decide_eq_false (by omega))]
  rw [e, ntz_h _ h ((fun _ _ => 0), (fun _ _ => 0))]
  have := ntz_k k hk
  cases hq : fJ6_numberOfTrailingZeros_0f7a4 (nI (2 ^ k)) ((fun _ _ => 0), (fun _ _ => 0)) with
  | none => rw [hq] at this; cases this
  | some p =>
    rw [hq] at this
    simp only [Option.map_some, Option.some.injEq] at this ⊢
    rw [this]
theorem bit_lo {x : Int64} {i : Nat} (h : i < 32) : bit x.toInt32 (nI i) = bitL x i := by
  rw [bit_g _ h]
  unfold bitL
  have a : i < 64 := by omega
  simp [BitVec.getElem_signExtend, h, a]
theorem bit_hi {x : Int64} {i : Nat} (h : i < 32) : bit (ushrL x 32).toInt32 (nI i) = bitL x (32 + i) := by
  rw [bit_g _ h]
  unfold bitL
  have a : i < 64 := by omega
  simp [ushrL, BitVec.getElem_signExtend, h, a]
theorem C_ntz64 {x : Int64} {k : Nat} (hk : k < 64) (h1 : bitL x k = true) (h0 : ∀ j, j < k → bitL x j = false) (h : Hp) : fJ13_numberOfTrailingZeros_95d88 x h = some (nI k, h) := by
  unfold fJ13_numberOfTrailingZeros_95d88
  rw [lt_q]
  by_cases c : k < 32
  · have hb : bit x.toInt32 (nI k) = true := by rw [bit_lo c]; exact h1
    rw [if_neg (fun e => by rw [e, bit_0 c] at hb; cases hb), C_ntz32 c hb (fun j hj => by rw [bit_lo (by omega)]; exact h0 j hj), bi_q]
  · have z : x.toInt32 = 0 := bit_ext fun i hi => by rw [bit_lo hi, bit_0 hi]; exact h0 i (by omega)
    rw [if_pos z, C_ntz32 (k := k - 32) (by omega) (by rw [bit_hi (by omega), show 32 + (k - 32) = k by omega]; exact h1) (fun j hj => by rw [bit_hi (by omega)]; exact h0 _ (by omega)), bi_q, show (32 : Int32) + nI (k - 32) = nI (32 + (k - 32)) from nI_add 32 (k - 32), show 32 + (k - 32) = k by omega]
theorem bitL_ext {x y : Int64} (h : ∀ i, i < 64 → bitL x i = bitL y i) : x = y := by
  apply Int64.toBitVec_inj.mp
  apply BitVec.eq_of_getLsbD_eq
  intro i hi
  exact h i hi
theorem bitL_low {x : Int64} (hx : ¬ x = 0) : ∃ k, k < 64 ∧ bitL x k = true ∧ (∀ j, j < k → bitL x j = false) ∧ ∀ j, bitL (x &&& (x - 1)) j = (bitL x j && decide (¬ j = k)) := by
  have h0 : 0 < x.toBitVec.toNat := by
    rcases Nat.eq_zero_or_pos x.toBitVec.toNat with h | h
    · refine absurd (bitL_ext fun i _ => ?_) hx
      rw [bitL_0]
      unfold bitL
      rw [← BitVec.testBit_toNat, h, Nat.zero_testBit]
    · exact h
  obtain ⟨k, hk, a1, a2, a3⟩ := low_bv x.toBitVec h0
  refine ⟨k, hk, a1, a2, fun j => ?_⟩
  unfold bitL
  rw [Int64.toBitVec_and, Int64.toBitVec_sub, BitVec.getLsbD_and, show (1 : Int64).toBitVec = 1#64 from rfl, a3]
  by_cases c1 : j < k
  · rw [if_pos c1, a2 j c1]; rfl
  · rw [if_neg c1]
    by_cases c2 : j = k
    · rw [if_pos c2, decide_eq_false (fun n => n c2)]
    · rw [if_neg c2, decide_eq_true c2]; cases x.toBitVec.getLsbD j <;> rfl
theorem bitL_orL {x y : Int64} {i : Nat} : bitL (x ||| y) i = (bitL x i || bitL y i) := by
  unfold bitL
  rw [Int64.toBitVec_or, BitVec.getLsbD_or]
theorem bitL_1 {l i : Nat} (hl : l < 64) : bitL (shlL 1 (nI l)) i = decide (l = i) := by
  have := bitL_or (x := 0) (l := l) (i := i) hl
  rw [bitL_0, Bool.false_or] at this
  rw [← this]
  congr 1
  apply bitL_ext
  intro j _
  rw [bitL_orL, bitL_0, Bool.false_or]
/-- a loop that counts down to -1 -/
theorem down {σ β : Type} {Q : β → Prop} (l : Nat → Int32 → σ → Option β) (I : Nat → σ → Prop)
    (he : ∀ f s, I 0 s → Ok (l (f + 1) (-1) s) Q)
    (hs : ∀ f i s, I (i + 1) s → (∀ s', I i s' → Ok (l f (nI i + (-1)) s') Q) → Ok (l (f + 1) (nI i) s) Q) :
    ∀ n s f, n < f → I n s → Ok (l f (nI n - 1) s) Q
  | 0, s, f, hf, h => by
    obtain ⟨g, rfl⟩ : ∃ g, f = g + 1 := ⟨f - 1, by omega⟩
    exact he g s h
  | n + 1, s, f, hf, h => by
    obtain ⟨g, rfl⟩ : ∃ g, f = g + 1 := ⟨f - 1, by omega⟩
    rw [nI_pred]
    refine hs g n s h fun s' h' => ?_
    have := down l I he hs n s' g (by omega) h'
    rwa [Int32.sub_eq_add_neg] at this
