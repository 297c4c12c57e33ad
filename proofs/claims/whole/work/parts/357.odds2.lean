/-- the model's tables of ways -/
def odF (S : Sem) (m : Hp) (y a b : Nat) (v : Int64) (r : Nat) (t : Nat → Int64) : Nat → Int64 := if djb (nP m) r a = true ∧ ¬ wN (dvN S y) (nP m) a r = 0 then upL t (1024 * (a ||| r) + lkn S m y (a ||| r) b) (t (1024 * (a ||| r) + lkn S m y (a ||| r) b) + v * lN (wN (dvN S y) (nP m) a r)) else t
def odK (S : Sem) (m : Hp) (y : Nat) (T : Nat → Int64) (k : Nat) (t : Nat → Int64) : Nat → Int64 := if T k = 0 then t else forN (2 ^ nP m) (odF S m y (k / 1024) (k % 1024) (T k)) t
def odY (S : Sem) (m : Hp) (y : Nat) (T : Nat → Int64) (n : Nat) : Nat → Int64 := forN n (odK S m y T) (fun _ => 0)
def odT0 (k : Nat) : Int64 := lN (if k = 0 then 1 else 0)
def tY (S : Sem) (m : Hp) (y : Nat) : Nat → Nat → Int64
  | 0 => odT0
  | j + 1 => odY S m (y + j) (tY S m y j) 16384
theorem tY_s {S : Sem} {m : Hp} {y j : Nat} : tY S m y (j + 1) = odY S m (y + j) (tY S m y j) 16384 := by rw [tY]
def gO (S : Sem) (m : Hp) (l y a b : Nat) : Nat := sumN (2 ^ nP m) (fun r => if (djb (nP m) r a && (lkn S m y (a ||| r) b).testBit l) = true then wN (dvN S y) (nP m) a r else 0)
theorem or_16 {P a r : Nat} (hP : P ≤ 4) (ha : a < 16) (hr : r < 2 ^ P) : a ||| r < 16 := by
  have : 2 ^ P ≤ 16 := Nat.pow_le_pow_right (n := 2) (by decide) hP
  exact Nat.or_lt_two_pow (n := 4) ha (by omega)
theorem odF_fS {S : Sem} {m : Hp} {N l y a b v : Nat} {t : Nat → Int64} (hN : 16384 ≤ N) (hL : nL m ≤ 10) (hP : nP m ≤ 4) (ha : a < 16) (hb : b < 1024) : ∀ j, j ≤ 2 ^ nP m → fS N l (forN j (odF S m y a b (lN v)) t) = fS N l t + lN (v * sumN j (fun r => if (djb (nP m) r a && (lkn S m y (a ||| r) b).testBit l) = true then wN (dvN S y) (nP m) a r else 0))
  | 0, _ => by
    rw [forN_0, sumN_z, Nat.mul_zero, show lN 0 = 0 from rfl, Int64.add_zero]
  | j + 1, hj => by
    have ih := odF_fS hN hL hP ha hb (l := l) (v := v) (t := t) (S := S) (y := y) j (by omega)
    rw [forN_s, sumN_s]
    generalize forN j (odF S m y a b (lN v)) t = t' at ih
    obtain ⟨_, k2, _⟩ := lkn_e hL (S := S) (y := y) (d := a ||| j) hb
    have o16 := or_16 hP ha (show j < 2 ^ nP m by omega)
    unfold odF
    by_cases c1 : djb (nP m) j a = true
    · by_cases c2 : wN (dvN S y) (nP m) a j = 0
      · rw [if_neg (fun x => x.2 c2), c2, ite_self, Nat.add_zero, ih]
      · rw [if_pos ⟨c1, c2⟩, fS_u (by omega), ih, c1, Bool.true_and, show (1024 * (a ||| j) + lkn S m y (a ||| j) b) % 1024 = lkn S m y (a ||| j) b by omega, Int64.add_assoc]
        congr 1
        by_cases c3 : (lkn S m y (a ||| j) b).testBit l = true
        · rw [if_pos c3, if_pos c3, lN_mul, lN_add, Nat.mul_add]
        · rw [if_neg c3, if_neg c3, Int64.add_zero, Nat.add_zero]
    · rw [if_neg (fun x => c1 x.1), Bool.eq_false_iff.mpr c1, Bool.false_and, if_neg (by decide), Nat.add_zero, ih]
theorem odK_fS {S : Sem} {m : Hp} {N l y : Nat} {T : Nat → Int64} {v : Nat → Nat} (hN : 16384 ≤ N) (hL : nL m ≤ 10) (hP : nP m ≤ 4) (hT : ∀ k, T k = lN (v k)) (hv : ∀ k, v k < 2 ^ 31) : ∀ n, n ≤ 16384 → fS N l (odY S m y T n) = lN (sumN n (fun k => v k * gO S m l y (k / 1024) (k % 1024)))
  | 0, _ => by unfold odY; rw [forN_0, fS_z, sumN_z]; rfl
  | n + 1, hn => by
    have ih := odK_fS hN hL hP hT hv (l := l) (S := S) (y := y) n (by omega)
    unfold odY at ih
    unfold odY
    rw [forN_s, sumN_s]
    generalize forN n (odK S m y T) (fun _ => 0) = t' at ih
    unfold odK
    by_cases c1 : T n = 0
    · have : v n = 0 := by
        rw [hT] at c1
        exact (lN0 (hv n)).mp c1
      rw [if_pos c1, this, Nat.zero_mul, Nat.add_zero, ih]
    · rw [if_neg c1, hT n, odF_fS hN hL hP (show n / 1024 < 16 by omega) (Nat.mod_lt _ (by decide)) _ (Nat.le_refl _), ih, lN_add]
      rfl
theorem forN_sk {σ : Type} {f : Nat → σ → σ} {s : σ} (h : ∀ k t, 1 ≤ k → f k t = t) : ∀ n, forN (n + 1) f s = f 0 s
  | 0 => rfl
  | n + 1 => by rw [forN_s, h _ _ (by omega), forN_sk h n]
theorem odT0_z {k : Nat} (h : 1 ≤ k) : odT0 k = 0 := by unfold odT0; rw [if_neg (by omega)]; rfl
theorem odY_0 {S : Sem} {m : Hp} {y n : Nat} (h : 1 ≤ n) : odY S m y odT0 n = forN (2 ^ nP m) (odF S m y 0 0 (lN 1)) (fun _ => 0) := by
  obtain ⟨k, rfl⟩ : ∃ k, n = k + 1 := ⟨n - 1, by omega⟩
  unfold odY
  rw [forN_sk (fun k t hk => by unfold odK; rw [if_pos (odT0_z hk)]) k]
  unfold odK
  rw [if_neg (show ¬ odT0 0 = 0 by unfold odT0; decide), Nat.zero_div, Nat.zero_mod, show odT0 0 = lN 1 from rfl]
def v1S (S : Sem) (m : Hp) (y j k : Nat) : Nat := if k / 1024 < j ∧ k % 1024 = lkn S m y (k / 1024) 0 then wN (dvN S y) (nP m) 0 (k / 1024) else 0
theorem tab1 {S : Sem} {m : Hp} {y : Nat} (hL : nL m ≤ 10) : ∀ j k, forN j (odF S m y 0 0 (lN 1)) (fun _ => 0) k = lN (v1S S m y j k)
  | 0, k => by
    unfold v1S
    rw [forN_0, if_neg (by omega)]; rfl
  | j + 1, k => by
    have ih := tab1 hL (S := S) (y := y) j
    rw [forN_s]
    generalize forN j (odF S m y 0 0 (lN 1)) (fun _ => 0) = t' at ih
    obtain ⟨_, k2, _⟩ := lkn_e hL (S := S) (y := y) (d := j) (b := 0) (by decide)
    unfold odF
    rw [Nat.zero_or, djb_0]
    have old : ¬ (k / 1024 = j ∧ k % 1024 = lkn S m y j 0) → v1S S m y (j + 1) k = v1S S m y j k := fun hk => by
      unfold v1S
      by_cases c : k / 1024 = j
      · subst c
        rw [if_neg (fun x => hk ⟨rfl, x.2⟩), if_neg (fun x => absurd x.1 (by omega))]
      · by_cases c2 : k / 1024 < j
        · by_cases c3 : k % 1024 = lkn S m y (k / 1024) 0
          · rw [if_pos ⟨by omega, c3⟩, if_pos ⟨c2, c3⟩]
          · rw [if_neg (fun x => c3 x.2), if_neg (fun x => c3 x.2)]
        · rw [if_neg (fun x => absurd x.1 (by omega)), if_neg (fun x => c2 x.1)]
    by_cases c2 : wN (dvN S y) (nP m) 0 j = 0
    · rw [if_neg (fun x => x.2 c2), ih]
      by_cases hk : k / 1024 = j ∧ k % 1024 = lkn S m y j 0
      · unfold v1S
        obtain ⟨rfl, h2⟩ := hk
        rw [if_neg (fun x => absurd x.1 (by omega)), if_pos ⟨by omega, h2⟩, c2]
      · rw [old hk]
    · rw [if_pos ⟨rfl, c2⟩]
      unfold upL
      by_cases hk : k / 1024 = j ∧ k % 1024 = lkn S m y j 0
      · have e : k = 1024 * j + lkn S m y j 0 := by omega
        rw [if_pos e, ← e, ih]
        obtain ⟨rfl, h2⟩ := hk
        unfold v1S
        rw [if_neg (fun x => absurd x.1 (by omega)), if_pos ⟨by omega, h2⟩, lN_mul, lN_add, Nat.zero_add, Nat.one_mul]
      · have e : ¬ k = 1024 * j + lkn S m y j 0 := fun e => hk (by omega)
        rw [if_neg e, ih, old hk]
theorem gO_nx {S : Sem} {m : Hp} {l y a b : Nat} (hP : nP m ≤ 4) (ha : a < 2 ^ nP m) : gO S m l y a b = sumN (2 ^ nP m) (nxO S m l y a b) := by
  have p16 : 2 ^ nP m ≤ 16 := Nat.pow_le_pow_right (n := 2) (by decide) hP
  have e1 : gO S m l y a b = sumN (2 ^ nP m) (fun r => if djb (nP m) r a = true then (fun x => if (lkn S m y x b).testBit l = true then wN (dvN S y) (nP m) a x else 0) (a ||| r) else 0) := by
    unfold gO
    refine sumN_cg fun r hr => ?_
    have : wN (dvN S y) (nP m) a (a ||| r) = wN (dvN S y) (nP m) a r := wN_cg fun p hp => ⟨rfl, fun h => by rw [Nat.testBit_or, h, Bool.false_or]⟩
    simp only [this]
    cases djb (nP m) r a <;> simp
  have e2 : sumN (2 ^ nP m) (nxO S m l y a b) = sumN (2 ^ nP m) (fun x => if decide (x &&& a = a) = true then (fun x => if (lkn S m y x b).testBit l = true then wN (dvN S y) (nP m) a x else 0) x else 0) := by
    refine sumN_cg fun r hr => ?_
    unfold nxO
    cases decide (r &&& a = a) <;> simp
  rw [e1, e2, sumN_I (p := fun r => djb (nP m) r a) (u := fun r => (fun x => if (lkn S m y x b).testBit l = true then wN (dvN S y) (nP m) a x else 0) (a ||| r)), sumN_I (p := fun x => decide (x &&& a = a)), ← ri_16 (nP m) (by omega) a (by omega) ha, sumI_map]
theorem odds_1 {S : Sem} {m : Hp} {l y : Nat} (hL : nL m ≤ 10) (hP : nP m ≤ 4) : fS 16384 l (tY S m y 1) = lN (sumN (2 ^ nP m) (odC S m l y 1)) := by
  have e := odK_fS (l := l) (S := S) (m := m) (y := y) (T := odT0) (v := fun k => if k = 0 then 1 else 0) (Nat.le_refl 16384) hL hP (fun k => rfl) (fun k => by show (if k = 0 then 1 else 0) < 2 ^ 31; split <;> omega) 16384 (Nat.le_refl _)
  rw [sumN_one (k := 0) (by decide) (fun i _ h0 => by simp only [if_neg h0, Nat.zero_mul])] at e
  rw [show (1 : Nat) = 0 + 1 from rfl, tY_s, Nat.add_zero, show tY S m y 0 = odT0 from rfl, e]
  congr 1
  simp only [↓reduceIte, Nat.one_mul, Nat.zero_div, Nat.zero_mod]
  unfold gO
  refine sumN_cg fun r _ => ?_
  unfold odC
  rw [djb_0, Bool.true_and, Nat.zero_or, if_pos (show 0 + 1 = 1 from rfl), if_pos (show 0 + 1 = 1 from rfl), Nat.mul_one]
theorem odds_2 {S : Sem} {m : Hp} {l y : Nat} (H : DB S) (hL : nL m ≤ 10) (hP : nP m ≤ 4) : fS 16384 l (tY S m y 2) = lN (sumN (2 ^ nP m) (odC S m l y 2)) := by
  have p16 : 2 ^ nP m ≤ 16 := Nat.pow_le_pow_right (n := 2) (by decide) hP
  have t1 : tY S m y 1 = forN (2 ^ nP m) (odF S m y 0 0 (lN 1)) (fun _ => 0) := by
    rw [show (1 : Nat) = 0 + 1 from rfl, tY_s, Nat.add_zero, show tY S m y 0 = odT0 from rfl]
    exact odY_0 (by decide)
  have e := odK_fS (l := l) (S := S) (m := m) (y := y + 1) (T := tY S m y 1) (v := v1S S m y (2 ^ nP m)) (Nat.le_refl 16384) hL hP (fun k => by rw [t1]; exact tab1 hL _ k) (fun k => by
    unfold v1S
    have := wN_b H (y := y) (a := 0) (d := k / 1024) hP
    split <;> omega) 16384 (Nat.le_refl _)
  rw [show (2 : Nat) = 1 + 1 from rfl, tY_s, e]
  refine congrArg lN ?_
  rw [show (16384 : Nat) = 1024 * 16 from rfl, sumN_blk]
  have inn : ∀ d, d < 16 → sumN 1024 (fun j => v1S S m y (2 ^ nP m) (1024 * d + j) * gO S m l (y + 1) ((1024 * d + j) / 1024) ((1024 * d + j) % 1024)) = if d < 2 ^ nP m then wN (dvN S y) (nP m) 0 d * gO S m l (y + 1) d (lkn S m y d 0) else 0 := fun d hd => by
    obtain ⟨_, k2, _⟩ := lkn_e hL (S := S) (y := y) (d := d) (b := 0) (by decide)
    have q : ∀ j, j < 1024 → (1024 * d + j) / 1024 = d ∧ (1024 * d + j) % 1024 = j := fun j hj => by omega
    rw [sumN_one (k := lkn S m y d 0) k2]
    · rw [(q _ k2).1, (q _ k2).2]
      unfold v1S
      rw [(q _ k2).1, (q _ k2).2]
      by_cases c : d < 2 ^ nP m
      · rw [if_pos c, if_pos ⟨c, rfl⟩]
      · rw [if_neg c, if_neg (fun x => c x.1), Nat.zero_mul]
    · intro j hj hne
      unfold v1S
      rw [(q _ hj).1, (q _ hj).2, if_neg (fun x => hne x.2), Nat.zero_mul]
  rw [sumN_cg inn, sumN_ext (n := 2 ^ nP m) p16 (fun i h1 _ => if_neg (by omega))]
  refine sumN_cg fun d hd => ?_
  rw [if_pos hd]
  unfold odC
  by_cases c : (lkn S m y d 0).testBit l = true
  · rw [if_pos c, if_neg (by decide)]
    refine congrArg (fun z => wN (dvN S y) (nP m) 0 d * z) ?_
    obtain ⟨_, k2, _⟩ := lkn_e hL (S := S) (y := y) (d := d) (b := 0) (by decide)
    unfold gO
    rw [← wN_sum (fun p => (dv_e H (y + 1) p).1) (a := d)]
    refine sumN_cg fun r _ => ?_
    rw [(lkn_e hL (S := S) (y := y + 1) (d := d ||| r) k2).2.2 l c, Bool.and_true]
  · rw [if_neg c, if_neg (by decide), gO_nx hP hd]
