/-- sums -/
def sumN : Nat → (Nat → Nat) → Nat
  | 0, _ => 0
  | n + 1, u => sumN n u + u n
theorem sumN_s {n : Nat} {u : Nat → Nat} : sumN (n + 1) u = sumN n u + u n := rfl
theorem sumN_z {u : Nat → Nat} : sumN 0 u = 0 := rfl
theorem sumN_cg {u v : Nat → Nat} : ∀ {n : Nat}, (∀ i, i < n → u i = v i) → sumN n u = sumN n v
  | 0, _ => rfl
  | n + 1, h => by rw [sumN_s, sumN_s, sumN_cg (n := n) (fun i hi => h i (by omega)), h n (by omega)]
theorem sumN_0 {u : Nat → Nat} : ∀ {n : Nat}, (∀ i, i < n → u i = 0) → sumN n u = 0
  | 0, _ => rfl
  | n + 1, h => by rw [sumN_s, sumN_0 (n := n) (fun i hi => h i (by omega)), h n (by omega)]
theorem sumN_ext {u : Nat → Nat} {n : Nat} : ∀ {k : Nat}, n ≤ k → (∀ i, n ≤ i → i < k → u i = 0) → sumN k u = sumN n u
  | 0, h, _ => by rw [show n = 0 by omega]
  | k + 1, h, hz => by
    by_cases e : n = k + 1
    · rw [e]
    · rw [sumN_s, sumN_ext (k := k) (by omega) (fun i h1 h2 => hz i h1 (by omega)), hz k (by omega) (by omega), Nat.add_zero]
theorem sumN_one {u : Nat → Nat} {n k : Nat} (hk : k < n) (h : ∀ i, i < n → i ≠ k → u i = 0) : sumN n u = u k := by
  rw [sumN_ext (n := k + 1) (k := n) (by omega) (fun i h1 h2 => h i h2 (by omega)), sumN_s, sumN_0 (fun i hi => h i (by omega) (by omega)), Nat.zero_add]
theorem sumN_add {u : Nat → Nat} {n : Nat} : ∀ {k : Nat}, sumN (n + k) u = sumN n u + sumN k (fun i => u (n + i))
  | 0 => rfl
  | k + 1 => by rw [← Nat.add_assoc, sumN_s, sumN_add (k := k), sumN_s, Nat.add_assoc]
theorem sumN_mul {u : Nat → Nat} {a : Nat} : ∀ {n : Nat}, sumN n (fun i => a * u i) = a * sumN n u
  | 0 => rfl
  | n + 1 => by rw [sumN_s, sumN_mul (n := n), sumN_s, Nat.mul_add]
theorem sumN_mulr {u : Nat → Nat} {a : Nat} {n : Nat} : sumN n (fun i => u i * a) = sumN n u * a := by
  rw [Nat.mul_comm, ← sumN_mul]
  exact sumN_cg fun i _ => Nat.mul_comm _ _
theorem sumN_blk {u : Nat → Nat} {B : Nat} : ∀ {D : Nat}, sumN (B * D) u = sumN D (fun d => sumN B (fun j => u (B * d + j)))
  | 0 => rfl
  | D + 1 => by rw [Nat.mul_succ, sumN_add, sumN_blk (D := D), sumN_s]
def sumI : List Nat → (Nat → Nat) → Nat
  | [], _ => 0
  | x :: r, u => u x + sumI r u
theorem sumI_app {u : Nat → Nat} : ∀ {a b : List Nat}, sumI (a ++ b) u = sumI a u + sumI b u
  | [], b => by simp [sumI]
  | x :: a, b => by rw [List.cons_append, sumI, sumI, sumI_app, Nat.add_assoc]
theorem sumI_map {u : Nat → Nat} {f : Nat → Nat} : ∀ {a : List Nat}, sumI (a.map f) u = sumI a (fun x => u (f x))
  | [] => rfl
  | x :: a => by rw [List.map_cons, sumI, sumI, sumI_map]
theorem sumN_I {u : Nat → Nat} {p : Nat → Bool} : ∀ {n : Nat}, sumN n (fun i => if p i = true then u i else 0) = sumI ((List.range n).filter p) u
  | 0 => rfl
  | n + 1 => by
    rw [sumN_s, sumN_I (n := n), List.range_succ, List.filter_append, sumI_app]
    by_cases h : p n = true
    · rw [if_pos h, List.filter_cons_of_pos h, List.filter_nil, sumI, sumI, Nat.add_zero]
    · rw [if_neg h, List.filter_cons_of_neg h, List.filter_nil, sumI]
def sumL : Nat → (Nat → Int64) → Int64
  | 0, _ => 0
  | n + 1, u => sumL n u + u n
theorem sumL_s {n : Nat} {u : Nat → Int64} : sumL (n + 1) u = sumL n u + u n := rfl
theorem sumL_cg {u v : Nat → Int64} : ∀ {n : Nat}, (∀ i, i < n → u i = v i) → sumL n u = sumL n v
  | 0, _ => rfl
  | n + 1, h => by rw [sumL_s, sumL_s, sumL_cg (n := n) (fun i hi => h i (by omega)), h n (by omega)]
theorem sumL_u {u : Nat → Int64} {w : Int64} {k : Nat} : ∀ {n : Nat}, k < n → sumL n (fun i => if i = k then u i + w else u i) = sumL n u + w
  | 0, h => absurd h (by omega)
  | n + 1, h => by
    rw [sumL_s, sumL_s]
    by_cases e : k = n
    · rw [if_pos e.symm, sumL_cg (n := n) (v := u) (fun i hi => if_neg (by omega)), Int64.add_assoc]
    · rw [if_neg (fun x => e x.symm), sumL_u (n := n) (by omega), Int64.add_assoc, Int64.add_comm w, ← Int64.add_assoc]
theorem sumL_z : ∀ {n : Nat}, sumL n (fun _ => 0) = 0
  | 0 => rfl
  | n + 1 => by rw [sumL_s, sumL_z (n := n), Int64.add_zero]
def upL (T : Nat → Int64) (k : Nat) (v : Int64) : Nat → Int64 := fun j => if j = k then v else T j
def fS (n l : Nat) (T : Nat → Int64) : Int64 := sumL n (fun k => if (k % 1024).testBit l = true then T k else 0)
theorem fS_u {n l k : Nat} {T : Nat → Int64} {w : Int64} (hk : k < n) : fS n l (upL T k (T k + w)) = fS n l T + (if (k % 1024).testBit l = true then w else 0) := by
  unfold fS
  by_cases hb : (k % 1024).testBit l = true
  · rw [if_pos hb, ← sumL_u hk]
    refine sumL_cg fun i _ => ?_
    unfold upL
    by_cases e : i = k
    · subst e; simp only [hb, ↓reduceIte]
    · rw [if_neg e, if_neg e]
  · rw [if_neg hb, Int64.add_zero]
    refine sumL_cg fun i _ => ?_
    unfold upL
    by_cases e : i = k
    · subst e; rw [if_neg hb, if_neg hb]
    · rw [if_neg e]
theorem fS_z {n l : Nat} : fS n l (fun _ => 0) = 0 := by
  unfold fS
  rw [sumL_cg (v := fun _ => 0) (fun i _ => ite_self 0), sumL_z]
/-- ways: some were dead ahead (a), some are dead then (d) -/
def wF (dv : Nat → Nat) (a d p : Nat) : Nat := if a.testBit p = true then 100 else if d.testBit p = true then dv p else 100 - dv p
def wN (dv : Nat → Nat) : Nat → Nat → Nat → Nat
  | 0, _, _ => 1
  | p + 1, a, d => wN dv p a d * wF dv a d p
theorem wN_s {dv : Nat → Nat} {p a d : Nat} : wN dv (p + 1) a d = wN dv p a d * wF dv a d p := rfl
theorem wF_le {dv : Nat → Nat} {a d p : Nat} (h : dv p ≤ 100) : wF dv a d p ≤ 100 := by
  unfold wF
  split
  · exact Nat.le_refl _
  · split <;> omega
theorem wN_le {dv : Nat → Nat} (h : ∀ p, dv p ≤ 100) {a d : Nat} : ∀ {P : Nat}, wN dv P a d ≤ 100 ^ P
  | 0 => Nat.le_refl _
  | P + 1 => by rw [wN_s, Nat.pow_succ]; exact Nat.mul_le_mul (wN_le h) (wF_le (h P))
theorem wN_cg {dv : Nat → Nat} {a d a' d' : Nat} : ∀ {P : Nat}, (∀ p, p < P → a.testBit p = a'.testBit p ∧ (a.testBit p = false → d.testBit p = d'.testBit p)) → wN dv P a d = wN dv P a' d'
  | 0, _ => rfl
  | P + 1, h => by
    rw [wN_s, wN_s, wN_cg (P := P) (fun p hp => h p (by omega))]
    congr 1
    unfold wF
    obtain ⟨h1, h2⟩ := h P (by omega)
    rw [← h1]
    cases hb : a.testBit P
    · rw [h2 hb]
    · rfl
theorem wN_all {dv : Nat → Nat} {a d : Nat} : ∀ {P : Nat}, (∀ p, p < P → a.testBit p = true) → wN dv P a d = 100 ^ P
  | 0, _ => rfl
  | P + 1, h => by
    rw [wN_s, Nat.pow_succ, wN_all (P := P) (fun p hp => h p (by omega))]
    unfold wF
    rw [if_pos (h P (by omega))]
def djb : Nat → Nat → Nat → Bool
  | 0, _, _ => true
  | p + 1, r, a => djb p r a && !(r.testBit p && a.testBit p)
theorem djb_s {p r a : Nat} : djb (p + 1) r a = (djb p r a && !(r.testBit p && a.testBit p)) := rfl
theorem djb_cg {r r' a : Nat} : ∀ {P : Nat}, (∀ p, p < P → r.testBit p = r'.testBit p) → djb P r a = djb P r' a
  | 0, _ => rfl
  | P + 1, h => by rw [djb_s, djb_s, djb_cg (P := P) (fun p hp => h p (by omega)), h P (by omega)]
theorem djb_0 {r : Nat} : ∀ {P : Nat}, djb P r 0 = true
  | 0 => rfl
  | P + 1 => by rw [djb_s, djb_0 (P := P)]; simp
theorem wN_sum {dv : Nat → Nat} (h : ∀ p, dv p ≤ 100) {a : Nat} : ∀ {P : Nat}, sumN (2 ^ P) (fun r => if djb P r a = true then wN dv P a r else 0) = 100 ^ P
  | 0 => rfl
  | P + 1 => by
    have ih := wN_sum h (a := a) (P := P)
    rw [show 2 ^ (P + 1) = 2 ^ P + 2 ^ P by rw [Nat.pow_succ]; omega, sumN_add]
    have e1 : sumN (2 ^ P) (fun r => if djb (P + 1) r a = true then wN dv (P + 1) a r else 0) = sumN (2 ^ P) (fun r => (if djb P r a = true then wN dv P a r else 0) * (if a.testBit P = true then 100 else 100 - dv P)) := by
      refine sumN_cg fun r hr => ?_
      have t : r.testBit P = false := Nat.testBit_lt_two_pow hr
      rw [djb_s, t, Bool.false_and, Bool.not_false, Bool.and_true, wN_s]
      unfold wF
      rw [t]
      by_cases hd : djb P r a = true
      · rw [if_pos hd, if_pos hd, if_neg (show ¬ false = true by decide)]
      · rw [if_neg hd, if_neg hd, Nat.zero_mul]
    have e2 : sumN (2 ^ P) (fun r => if djb (P + 1) (2 ^ P + r) a = true then wN dv (P + 1) a (2 ^ P + r) else 0) = sumN (2 ^ P) (fun r => (if djb P r a = true then wN dv P a r else 0) * (if a.testBit P = true then 0 else dv P)) := by
      refine sumN_cg fun r hr => ?_
      have t : (2 ^ P + r).testBit P = true := by rw [Nat.testBit_two_pow_add_eq, Nat.testBit_lt_two_pow hr]; rfl
      have tl : ∀ p, p < P → (2 ^ P + r).testBit p = r.testBit p := fun p hp => Nat.testBit_two_pow_add_gt hp r
      rw [djb_s, t, Bool.true_and, wN_s, djb_cg tl, wN_cg (a' := a) (d' := r) (fun p hp => ⟨rfl, fun _ => tl p hp⟩)]
      unfold wF
      rw [t]
      cases ha : a.testBit P
      · by_cases hd : djb P r a = true
        · rw [hd]; simp
        · rw [Bool.eq_false_iff.mpr hd]; simp
      · simp
    rw [e1, e2, sumN_mulr, sumN_mulr, ih, ← Nat.mul_add, Nat.pow_succ]
    congr 1
    have := h P
    by_cases ha : a.testBit P = true
    · rw [if_pos ha, if_pos ha]
    · rw [if_neg ha, if_neg ha]; omega
theorem ri_16 : ∀ P, P < 5 → ∀ a, a < 16 → a < 2 ^ P → ((List.range (2 ^ P)).filter (fun r => djb P r a)).map (fun r => a ||| r) = (List.range (2 ^ P)).filter (fun x => decide (x &&& a = a)) := by decide +kernel
theorem dj_16 : ∀ P, P < 5 → ∀ r, r < 16 → r < 2 ^ P → ∀ a, a < 16 → (nI r &&& nI a = 0 ↔ djb P r a = true) := by decide +kernel
theorem an_16 : ∀ r, r < 16 → ∀ a, a < 16 → (nI r &&& nI a = nI a ↔ r &&& a = a) := by decide +kernel
theorem ge_16 : ∀ r, r < 16 → ∀ a, a < 16 → r &&& a = a → a ≤ r := by decide +kernel
theorem nI_or (a b : Nat) : nI a ||| nI b = nI (a ||| b) := bit_ext fun i hi => by
  rw [bit_or hi, bit_nI hi, bit_nI hi, bit_nI hi, Nat.testBit_or]
