/-- the tables in the class -/
def tbC (A : Nat → Option Cd) (c m : Hp) : Prop := (∀ p y, p < nP m → y < 60 → c.1 150 (60 * p + y) = diS A m p y) ∧ ∀ l y, l < nL m → y < 60 → ∃ s, s < 4 ∧ shI m l = nI s ∧ c.1 151 (60 * s + y) = feS A m l y
theorem e60r (s i : Nat) : nI s * 60 + nI i = nI (60 * s + i) := by
  rw [show (60 : Int32) = nI 60 from rfl, pk_mul, nI_add, Nat.mul_comm]
theorem C_diesOf {A : Nat → Option Cd} {c m h : Hp} (D : RD0 c m) (X : tbC A c m) (ea : Agr SC c h) {p y : Nat} (hp : p < nP m) (hy : y < 60) : fX6_diesOf (nI p) (nI y) h = some (diS A m p y, h) := by
  have p10 := D.2.1.1
  simp only [fX6_diesOf, e60r, lt_q, if_neg (nI_pos (show 60 * p + y < 2 ^ 31 by omega)), if_neg (show ¬ (600 : Int32) ≤ nI (60 * p + y) from nI_ge (b := 600) (by omega) (by decide)), ck_of (nI_inb (n := 60 * p + y) (N := 600) (by omega) (by decide)), nI_ix (show 60 * p + y < 2 ^ 31 by omega), ea.i 150 _ rfl, X.1 p y hp hy]
theorem C_feeOf {A : Nat → Option Cd} {c m h : Hp} (X : tbC A c m) (ea : Agr SC c h) {l y : Nat} (hl : l < nL m) (hy : y < 60) : fX6_feeOf (shI m l) (nI y) h = some (feS A m l y, h) := by
  obtain ⟨s, hs, es, ef⟩ := X.2 l y hl hy
  rw [es]
  simp only [fX6_feeOf, e60r, lt_q, if_neg (nI_pos (show 60 * s + y < 2 ^ 31 by omega)), if_neg (show ¬ (240 : Int32) ≤ nI (60 * s + y) from nI_ge (b := 240) (by omega) (by decide)), ck_of (nI_inb (n := 60 * s + y) (N := 240) (by omega) (by decide)), nI_ix (show 60 * s + y < 2 ^ 31 by omega), ea.i 151 _ rfl, ef]
theorem C_sem {A : Nat → Option Cd} {Ls : Nat → List Lit} {cs : Nat} {c m : Hp} (D : RD0 c m) (X : ruC A cs c) (Y : coC Ls cs c m) (hf : ∀ l x r, l < nL m → Ls l = x :: r → x.1.2.2.1 = true) (T : tbC A c m) : XC (semS A Ls m) c m := fun _ e => ⟨fun _ _ d b hl _ => C_holds D Y hf e hl d b, fun _ _ hp hy => C_diesOf D T e hp hy, fun _ _ hl hy => C_feeOf T e hl hy, fun l y t _ _ => C_gainIn X e l y t⟩
