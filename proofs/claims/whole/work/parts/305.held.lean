theorem cpI_k {h : Hp} {ks kd sp dp n a b : Nat} (hn : a ≠ kd) : (cpI h ks kd sp dp n).1 a b = h.1 a b := if_neg hn
theorem cpI_in {h : Hp} {ks kd n b : Nat} (hb : b < n) : (cpI h ks kd 0 0 n).1 kd b = h.1 ks b := by
  show (if kd = kd then va_cpy (h.1 ks) (h.1 kd) 0 0 n b else h.1 kd b) = _
  rw [if_pos rfl, pk_cpy_in (by omega) (by omega), Nat.zero_add, Nat.sub_zero]
theorem Agr.cpI {W : Ws} {h h1 : Hp} (a : Agr W h h1) {ks kd sp dp n : Nat} (hk : ∀ j, wm W kd j = true) : Agr W h (cpI h1 ks kd sp dp n) := fun a' b w => by
  refine ⟨?_, (a a' b w).2⟩
  show (if a' = kd then va_cpy (h1.1 ks) (h1.1 kd) sp dp n b else h1.1 a' b) = _
  rw [if_neg, (a a' b w).1]
  rintro rfl
  rw [hk] at w; cases w
theorem cpb_ok {n N : Nat} (h : n ≤ N) (hN : N < 2 ^ 31) : cpb 0 0 (nI n) N N = true := by
  unfold cpb
  have : ix (nI n) = n := nI_ix (by omega)
  exact decide_eq_true ⟨by decide, by decide, nI_pos (by omega), by rw [this]; show 0 + n ≤ N; omega, by rw [this]; show 0 + n ≤ N; omega⟩
def bFs (h : Hp) (o u n : Nat) : Hp := cpI (cpI (cpI (cpI (wI h o 6 (nI n)) (u + 1) (o + 1) 0 0 n) (u + 2) (o + 2) 0 0 n) (u + 3) (o + 3) 0 0 n) (u + 4) (o + 4) 0 0 n
theorem C_becomeF {h : Hp} {o u n : Nat} (hu : h.1 u 6 = nI n) (hn : n ≤ 60) : fX3_become o u h = some (bFs h o u n) := by
  have e1 : ∀ (g : Hp) (ks k : Nat), (cpI g ks (o + 1) 0 0 n).1 o 6 = g.1 o 6 := fun g ks k => cpI_k (by omega)
  have e2 : ∀ (g : Hp) (ks k : Nat), (cpI g ks (o + 2) 0 0 n).1 o 6 = g.1 o 6 := fun g ks k => cpI_k (by omega)
  have e3 : ∀ (g : Hp) (ks k : Nat), (cpI g ks (o + 3) 0 0 n).1 o 6 = g.1 o 6 := fun g ks k => cpI_k (by omega)
  simp only [fX3_become, lt_e, hu, wI_s, show ix 0 = 0 from rfl, nI_ix (show n < 2 ^ 31 by omega), ck_of (cpb_ok hn (by decide)), e1 _ _ 0, e2 _ _ 0, e3 _ _ 0]
  rfl
theorem bFs_6 {h : Hp} {o u n : Nat} : (bFs h o u n).1 o 6 = nI n := by
  unfold bFs
  rw [cpI_k (by omega), cpI_k (by omega), cpI_k (by omega), cpI_k (by omega), wI_s]
theorem bFs_r {h : Hp} {o u n : Nat} (hd : o + 7 ≤ u ∨ u + 7 ≤ o) {i : Nat} (hi : i < n) : (bFs h o u n).1 (o + 1) i = h.1 (u + 1) i ∧ (bFs h o u n).1 (o + 2) i = h.1 (u + 2) i ∧ (bFs h o u n).1 (o + 3) i = h.1 (u + 3) i ∧ (bFs h o u n).1 (o + 4) i = h.1 (u + 4) i := by
  unfold bFs
  refine ⟨?_, ?_, ?_, ?_⟩
  · rw [cpI_k (by omega), cpI_k (by omega), cpI_k (by omega), cpI_in hi, wI_k (by omega)]
  · rw [cpI_k (by omega), cpI_k (by omega), cpI_in hi, cpI_k (by omega), wI_k (by omega)]
  · rw [cpI_k (by omega), cpI_in hi, cpI_k (by omega), cpI_k (by omega), wI_k (by omega)]
  · rw [cpI_in hi, cpI_k (by omega), cpI_k (by omega), cpI_k (by omega), wI_k (by omega)]
theorem bFs_k {h : Hp} {o u n a b : Nat} (ha : a < o ∨ o + 4 < a) : (bFs h o u n).1 a b = h.1 a b := by
  unfold bFs
  rw [cpI_k (by omega), cpI_k (by omega), cpI_k (by omega), cpI_k (by omega), wI_k (by omega)]
/-- the held slots -/
def slt (P L : Nat) (a s : Nat) (c m : Hp) : Prop := if a.testBit s = true then ∃ n, n ≤ 60 ∧ m.1 60 s = nI n ∧ c.1 (160 + 7 * s) 6 = nI n ∧ (∀ i, i < n → c.1 (160 + 7 * s + 1) i = m.1 61 (60 * s + i) ∧ c.1 (160 + 7 * s + 2) i = m.1 62 (60 * s + i) ∧ c.1 (160 + 7 * s + 3) i = m.1 63 (60 * s + i) ∧ c.1 (160 + 7 * s + 4) i = m.1 64 (60 * s + i)) ∧ FRw P L n (fun i => m.1 61 (60 * s + i)) (fun i => m.1 62 (60 * s + i)) (fun i => m.1 63 (60 * s + i)) else m.1 60 s = -1
def RHn (P L : Nat) (c m : Hp) : Prop := ∃ a, a < 8 ∧ c.1 100 11 = nI a ∧ ∀ s, s < 3 → slt P L a s c m
def WHc : Ws := [(100, some 11), (160, none), (161, none), (162, none), (163, none), (164, none), (165, none), (166, none), (167, none), (168, none), (169, none), (170, none), (171, none), (172, none), (173, none), (174, none), (175, none), (176, none), (177, none), (178, none), (179, none), (180, none)]
def WHm : Ws := [(60, none), (61, none), (62, none), (63, none), (64, none)]
theorem WHc_s {s k j : Nat} (hs : s < 3) (hk : k < 7) : wm WHc (160 + 7 * s + k) j = true := by
  have : 7 * s + k < 21 := by omega
  have key : ∀ x, x < 21 → wm WHc (160 + x) j = true := by
    intro x hx
    match x, hx with
    | 0, _ => rfl
    | 1, _ => rfl
    | 2, _ => rfl
    | 3, _ => rfl
    | 4, _ => rfl
    | 5, _ => rfl
    | 6, _ => rfl
    | 7, _ => rfl
    | 8, _ => rfl
    | 9, _ => rfl
    | 10, _ => rfl
    | 11, _ => rfl
    | 12, _ => rfl
    | 13, _ => rfl
    | 14, _ => rfl
    | 15, _ => rfl
    | 16, _ => rfl
    | 17, _ => rfl
    | 18, _ => rfl
    | 19, _ => rfl
    | 20, _ => rfl
    | n + 21, h => exact absurd h (by omega)
  have e := key (7 * s + k) this
  rwa [← Nat.add_assoc] at e
def cpR (f g : Nat → Int32) (d e i : Nat) : Nat → Int32 := fun j => if d ≤ j ∧ j < d + i then f (e + (j - d)) else g j
theorem cpR_0 {f g : Nat → Int32} {d e : Nat} : cpR f g d e 0 = g := by
  funext j; unfold cpR; rw [if_neg (by omega)]
theorem cpR_s {f g : Nat → Int32} {d e i : Nat} (j : Nat) : (if j = d + i then f (e + i) else cpR f g d e i j) = cpR f g d e (i + 1) j := by
  unfold cpR
  by_cases h : j = d + i
  · rw [if_pos h, if_pos (by omega), h]; congr 1; omega
  · rw [if_neg h]
    by_cases h2 : d ≤ j ∧ j < d + i
    · rw [if_pos h2, if_pos (by omega)]
    · rw [if_neg h2, if_neg (by omega)]
theorem cpR_in {f g : Nat → Int32} {d e n i : Nat} (h : i < n) : cpR f g d e n (d + i) = f (e + i) := by
  unfold cpR; rw [if_pos (by omega)]; congr 1; omega
theorem cpR_out {f g : Nat → Int32} {d e n j : Nat} (h : ¬ (d ≤ j ∧ j < d + n)) : cpR f g d e n j = g j := if_neg h
theorem e60 (s i : Nat) : (60 : Int32) * nI s + nI i = nI (60 * s + i) := by
  rw [show (60 : Int32) = nI 60 from rfl, pk_mul, nI_add]
theorem e10 (s i : Nat) : (10 : Int32) * nI s + nI i = nI (10 * s + i) := by
  rw [show (10 : Int32) = nI 10 from rfl, pk_mul, nI_add]
theorem e12 (s i : Nat) : (12 : Int32) * nI s + nI i = nI (12 * s + i) := by
  rw [show (12 : Int32) = nI 12 from rfl, pk_mul, nI_add]
def hCp (g h : Hp) (s i : Nat) : Prop := Agr [(61, none), (62, none), (63, none), (64, none)] g h ∧ h.1 61 = cpR (g.1 40) (g.1 61) (60 * s) 0 i ∧ h.1 62 = cpR (g.1 41) (g.1 62) (60 * s) 0 i ∧ h.1 63 = cpR (g.1 42) (g.1 63) (60 * s) 0 i ∧ h.1 64 = cpR (g.1 43) (g.1 64) (60 * s) 0 i
theorem wI_fn {h : Hp} {k j : Nat} {v : Int32} {F : Nat → Int32} (hf : ∀ i, (if i = j then v else h.1 k i) = F i) : (wI h k j v).1 k = F := by
  funext i
  show (if k = k ∧ i = j then v else h.1 k i) = _
  rw [← hf i]
  by_cases e : i = j
  · rw [if_pos ⟨rfl, e⟩, if_pos e]
  · rw [if_neg fun x => e x.2, if_neg e]
theorem wI_o {h : Hp} {k j a : Nat} {v : Int32} (n : a ≠ k) : (wI h k j v).1 a = h.1 a := by
  funext b; exact wI_k n
theorem M_holdL {g : Hp} {s n : Nat} (hs : s < 3) (hn : n ≤ 60) (hg : g.1 0 59 = nI n) : Ok (lX12_hold_23 FU (nI s) 0 g) (fun p => p.1 = 1 ∧ hCp g p.2 s n) := by
  refine up0 (fun f i h => lX12_hold_23 f (nI s) (nI i) h) n (by omega) (fun i h => hCp g h s i) g ?_ ?_ ?_
  · exact ⟨.refl, cpR_0.symm, cpR_0.symm, cpR_0.symm, cpR_0.symm⟩
  · intro f h hI
    have h59 : h.1 0 59 = nI n := (hI.1.i 0 59 rfl).trans hg
    simp only [lX12_hold_23, bX12_hold_23, h59, if_pos (nI_le (Nat.le_refl n) (show n < 2 ^ 31 by omega)), ck_of zb_1, ok_some]
    exact ⟨trivial, hI⟩
  · intro f i h hi hI k
    have h59 : h.1 0 59 = nI n := (hI.1.i 0 59 rfl).trans hg
    have b2' := nI_inb (n := 60 * s + i) (N := 180) (by omega) (by decide)
    have r1 : ∀ (a : Nat) (v : Int32) (g : Hp) (b : Nat) (q : Nat), q ≠ a → (wI g a b v).1 q i = g.1 q i := fun a v g b q hq => wI_k hq
    simp only [lX12_hold_23, bX12_hold_23, h59, if_neg (nI_ge hi (show n < 2 ^ 31 by omega)), e60, ck_of (nI_inb (n := i) (N := 60) (by omega) (by decide)), ck_of b2', nI_ix (show i < 2 ^ 31 by omega), nI_ix (show 60 * s + i < 2 ^ 31 by omega), lt_e, nI_1, r1 _ _ _ _ 41 (show (41 : Nat) ≠ 61 by decide), r1 _ _ _ _ 42 (show (42 : Nat) ≠ 62 by decide), r1 _ _ _ _ 42 (show (42 : Nat) ≠ 61 by decide), r1 _ _ _ _ 43 (show (43 : Nat) ≠ 63 by decide), r1 _ _ _ _ 43 (show (43 : Nat) ≠ 62 by decide), r1 _ _ _ _ 43 (show (43 : Nat) ≠ 61 by decide)]
    apply k
    obtain ⟨ha, h1, h2, h3, h4⟩ := hI
    rw [ha.i 40 i rfl, ha.i 41 i rfl, ha.i 42 i rfl, ha.i 43 i rfl]
    refine ⟨(((ha.wI rfl).wI rfl).wI rfl).wI rfl, ?_, ?_, ?_, ?_⟩
    · rw [wI_o (by decide), wI_o (by decide), wI_o (by decide)]
      exact wI_fn fun j => by rw [h1]; have := cpR_s (f := g.1 40) (g := g.1 61) (d := 60 * s) (e := 0) (i := i) j; rwa [Nat.zero_add] at this
    · rw [wI_o (by decide), wI_o (by decide)]
      exact wI_fn fun j => by rw [wI_k (by decide), h2]; have := cpR_s (f := g.1 41) (g := g.1 62) (d := 60 * s) (e := 0) (i := i) j; rwa [Nat.zero_add] at this
    · rw [wI_o (by decide)]
      exact wI_fn fun j => by rw [wI_k (by decide), wI_k (by decide), h3]; have := cpR_s (f := g.1 42) (g := g.1 63) (d := 60 * s) (e := 0) (i := i) j; rwa [Nat.zero_add] at this
    · exact wI_fn fun j => by rw [wI_k (by decide), wI_k (by decide), wI_k (by decide), h4]; have := cpR_s (f := g.1 43) (g := g.1 64) (d := 60 * s) (e := 0) (i := i) j; rwa [Nat.zero_add] at this
def rCp (g h : Hp) (s i : Nat) : Prop := Agr [(40, none), (41, none), (42, none), (43, none)] g h ∧ h.1 40 = cpR (g.1 61) (g.1 40) 0 (60 * s) i ∧ h.1 41 = cpR (g.1 62) (g.1 41) 0 (60 * s) i ∧ h.1 42 = cpR (g.1 63) (g.1 42) 0 (60 * s) i ∧ h.1 43 = cpR (g.1 64) (g.1 43) 0 (60 * s) i
theorem M_restoreL {g : Hp} {s n : Nat} (hs : s < 3) (hn : n ≤ 60) (hg : g.1 0 59 = nI n) : Ok (lX12_restore_32 FU (nI s) 0 g) (fun p => p.1 = 1 ∧ rCp g p.2 s n) := by
  refine up0 (fun f i h => lX12_restore_32 f (nI s) (nI i) h) n (by omega) (fun i h => rCp g h s i) g ?_ ?_ ?_
  · exact ⟨.refl, cpR_0.symm, cpR_0.symm, cpR_0.symm, cpR_0.symm⟩
  · intro f h hI
    have h59 : h.1 0 59 = nI n := (hI.1.i 0 59 rfl).trans hg
    simp only [lX12_restore_32, bX12_restore_32, h59, if_pos (nI_le (Nat.le_refl n) (show n < 2 ^ 31 by omega)), ck_of zb_1, ok_some]
    exact ⟨trivial, hI⟩
  · intro f i h hi hI k
    have h59 : h.1 0 59 = nI n := (hI.1.i 0 59 rfl).trans hg
    have b2' := nI_inb (n := 60 * s + i) (N := 180) (by omega) (by decide)
    have r1 : ∀ (a : Nat) (v : Int32) (g : Hp) (b : Nat) (q : Nat), q ≠ a → (wI g a b v).1 q (60 * s + i) = g.1 q (60 * s + i) := fun a v g b q hq => wI_k hq
    simp only [lX12_restore_32, bX12_restore_32, h59, if_neg (nI_ge hi (show n < 2 ^ 31 by omega)), e60, ck_of (nI_inb (n := i) (N := 60) (by omega) (by decide)), ck_of b2', nI_ix (show i < 2 ^ 31 by omega), nI_ix (show 60 * s + i < 2 ^ 31 by omega), lt_e, nI_1, r1 _ _ _ _ 62 (show (62 : Nat) ≠ 40 by decide), r1 _ _ _ _ 63 (show (63 : Nat) ≠ 41 by decide), r1 _ _ _ _ 63 (show (63 : Nat) ≠ 40 by decide), r1 _ _ _ _ 64 (show (64 : Nat) ≠ 42 by decide), r1 _ _ _ _ 64 (show (64 : Nat) ≠ 41 by decide), r1 _ _ _ _ 64 (show (64 : Nat) ≠ 40 by decide)]
    apply k
    obtain ⟨ha, h1, h2, h3, h4⟩ := hI
    rw [ha.i 61 _ rfl, ha.i 62 _ rfl, ha.i 63 _ rfl, ha.i 64 _ rfl]
    refine ⟨(((ha.wI rfl).wI rfl).wI rfl).wI rfl, ?_, ?_, ?_, ?_⟩
    · rw [wI_o (by decide), wI_o (by decide), wI_o (by decide)]
      exact wI_fn fun j => by rw [h1]; have := cpR_s (f := g.1 61) (g := g.1 40) (d := 0) (e := 60 * s) (i := i) j; rwa [Nat.zero_add] at this
    · rw [wI_o (by decide), wI_o (by decide)]
      exact wI_fn fun j => by rw [wI_k (by decide), h2]; have := cpR_s (f := g.1 62) (g := g.1 41) (d := 0) (e := 60 * s) (i := i) j; rwa [Nat.zero_add] at this
    · rw [wI_o (by decide)]
      exact wI_fn fun j => by rw [wI_k (by decide), wI_k (by decide), h3]; have := cpR_s (f := g.1 63) (g := g.1 42) (d := 0) (e := 60 * s) (i := i) j; rwa [Nat.zero_add] at this
    · exact wI_fn fun j => by rw [wI_k (by decide), wI_k (by decide), wI_k (by decide), h4]; have := cpR_s (f := g.1 64) (g := g.1 43) (d := 0) (e := 60 * s) (i := i) j; rwa [Nat.zero_add] at this
theorem sim_hold0 {P L n : Nat} {c m : Hp} (a1 : Int32) (h : RFn P L n c m) (H : RHn P L c m) :
    ∃ r c1 m1, fX11_hold a1 c = some (r, c1) ∧ fX12_hold a1 m = some (r, m1) ∧ RHn P L c1 m1 ∧ Agr WHc c c1 ∧ Agr WHm m m1 := by
  simp only [fX11_hold, fX12_hold, C_within, M_in, bi_some]
  cases hw : rng a1 0 2
  · simp only [b2_f, ↓reduceIte, ck_of zb_0]
    exact ⟨0, c, m, rfl, rfl, H, .refl, .refl⟩
  · obtain ⟨s, _, hs, rfl⟩ := (rng_c (a := 0) (n := 2) (by decide) (by decide)).mp hw
    have hs3 : s < 3 := by omega
    obtain ⟨h60, f1, f2, f3, f4⟩ := h
    have is : ix (nI s) = s := nI_ix (by omega)
    simp only [b2_t, i10, ↓reduceIte, ck_of (nI_inb hs3 (by decide)), is, f2, lt_e, ck_of zb_1]
    obtain ⟨p, pe, pr, pa, p1, p2, p3, p4⟩ := M_holdL (g := wI m 60 s (nI n)) hs3 h60 ((wI_k (by decide)).trans f2)
    obtain ⟨r, m1⟩ := p
    simp only at pr pa p1 p2 p3 p4
    subst pr
    rw [wI_o (by decide), wI_o (by decide)] at p1 p2 p3 p4
    rw [C_becomeF f1 h60, bv_some, pe]
    have hk : ∀ a b, (a < 160 + 7 * s ∨ 160 + 7 * s + 4 < a) → (bFs c (160 + 7 * s) 152 n).1 a b = c.1 a b := fun a b => bFs_k
    rw [hk 100 11 (by omega)]
    obtain ⟨x, hx, x1, x2⟩ := H
    have xs : nI x ||| ((1 : Int32) <<< (nI s &&& 31)) = nI (x ||| 2 ^ s) := by
      rw [s1l s (by omega)]
      apply bit_ext
      intro i hi
      rw [bit_or hi, bit_nI hi, bit_nI hi, bit_nI hi, Nat.testBit_or]
    refine ⟨1, _, _, rfl, rfl, ⟨x ||| 2 ^ s, ?_, ?_, ?_⟩, ?_, ?_⟩
    · exact Nat.or_lt_two_pow (n := 3) hx (Nat.pow_lt_pow_right (by decide) hs3)
    · rw [x1, xs, wI_s]
    · intro t ht
      have rt : ∀ a b v, 160 ≤ a → (wI (bFs c (160 + 7 * s) 152 n) 100 11 v).1 a b = (bFs c (160 + 7 * s) 152 n).1 a b := fun a b v ha => wI_k (by omega)
      unfold slt
      rw [Nat.testBit_or, Nat.testBit_two_pow]
      by_cases e : t = s
      · subst e
        rw [decide_eq_true rfl, Bool.or_true, if_pos rfl]
        refine ⟨n, h60, ?_, ?_, fun i hi => ?_, fun i hi => ?_⟩
        · rw [pa.i 60 t rfl, wI_s]
        · rw [rt _ _ _ (by omega), bFs_6]
        · rw [rt _ _ _ (by omega), rt _ _ _ (by omega), rt _ _ _ (by omega), rt _ _ _ (by omega)]
          obtain ⟨q1, q2, q3, q4⟩ := bFs_r (h := c) (o := 160 + 7 * t) (u := 152) (by omega) hi
          obtain ⟨z1, z2, z3, z4⟩ := f3 i hi
          rw [q1, q2, q3, q4, p1, p2, p3, p4, cpR_in hi, cpR_in hi, cpR_in hi, cpR_in hi, Nat.zero_add]
          exact ⟨z1, z2, z3, z4⟩
        · have := f4 i hi
          simp only [p1, p2, p3, cpR_in hi, Nat.zero_add]
          exact this
      · rw [decide_eq_false (fun x => e x.symm), Bool.or_false]
        have key := x2 t ht
        unfold slt at key
        have o60 : m1.1 60 t = m.1 60 t := by rw [pa.i 60 t rfl, wI_j e]
        by_cases ex : x.testBit t = true
        · rw [if_pos ex] at key ⊢
          obtain ⟨k, k0, k1, k2, k3, k4⟩ := key
          have out : ∀ i, i < k → ¬ (60 * s ≤ 60 * t + i ∧ 60 * t + i < 60 * s + n) := fun i hi => by omega
          refine ⟨k, k0, o60.trans k1, ?_, fun i hi => ?_, fun i hi => ?_⟩
          · rw [rt _ _ _ (by omega), hk _ _ (by omega)]; exact k2
          · rw [rt _ _ _ (by omega), rt _ _ _ (by omega), rt _ _ _ (by omega), rt _ _ _ (by omega), hk _ _ (by omega), hk _ _ (by omega), hk _ _ (by omega), hk _ _ (by omega), p1, p2, p3, p4, cpR_out (out i hi), cpR_out (out i hi), cpR_out (out i hi), cpR_out (out i hi)]
            exact k3 i hi
          · have := k4 i hi
            simp only [p1, p2, p3, cpR_out (out i hi)]
            exact this
        · rw [if_neg ex] at key ⊢
          exact o60.trans key
    · have hb : Agr WHc c (bFs c (160 + 7 * s) 152 n) := by
        unfold bFs
        refine Agr.cpI (Agr.cpI (Agr.cpI (Agr.cpI (Agr.wI .refl ?_) fun j => ?_) fun j => ?_) fun j => ?_) fun j => ?_
        · exact WHc_s (k := 0) hs3 (by decide)
        · exact WHc_s (k := 1) hs3 (by decide)
        · exact WHc_s (k := 2) hs3 (by decide)
        · exact WHc_s (k := 3) hs3 (by decide)
        · exact WHc_s (k := 4) hs3 (by decide)
      exact hb.wI rfl
    · exact (Agr.refl.wI rfl : Agr WHm m (wI m 60 s (nI n))).trans (pa.sub rfl)
theorem C_hasS {x s : Nat} (hx : x < 8) (hs : s < 3) : bit (nI x) (nI s) = x.testBit s := bit_nI (by omega)
theorem sim_restore0 {P L n : Nat} {c m : Hp} (a1 : Int32) (h : RFn P L n c m) (H : RHn P L c m) :
    ∃ r c1 m1, fX11_restore a1 c = some (r, c1) ∧ fX12_restore a1 m = some (r, m1) ∧ (∃ n, RFn P L n c1 m1) ∧ Agr WFc c c1 ∧ Agr WFm m m1 := by
  simp only [fX11_restore, fX12_restore, C_within, M_in, bi_some, C_has]
  cases hw : rng a1 0 2
  · simp only [b2_f, ↓reduceIte, ck_of zb_0]
    exact ⟨0, c, m, rfl, rfl, ⟨n, h⟩, .refl, .refl⟩
  · obtain ⟨s, _, hs, rfl⟩ := (rng_c (a := 0) (n := 2) (by decide) (by decide)).mp hw
    have hs3 : s < 3 := by omega
    obtain ⟨x, hx, x1, x2⟩ := H
    have is : ix (nI s) = s := nI_ix (by omega)
    have key := x2 s hs3
    unfold slt at key
    simp only [b2_t, i10, ↓reduceIte, ck_of (nI_inb hs3 (by decide)), is, lt_e, ck_of zb_1, x1, C_hasS hx hs3]
    by_cases ex : x.testBit s = true
    · rw [if_pos ex] at key
      obtain ⟨k, k0, k1, k2, k3, k4⟩ := key
      simp only [ex, b2_t, i10, ↓reduceIte, k1, if_pos (nI_pos' (show k < 2 ^ 31 by omega))]
      obtain ⟨p, pe, pr, pa, p1, p2, p3, p4⟩ := M_restoreL (g := wI m 0 59 (nI k)) hs3 k0 wI_s
      obtain ⟨r, m1⟩ := p
      simp only at pr pa p1 p2 p3 p4
      subst pr
      rw [wI_o (by decide), wI_o (by decide)] at p1 p2 p3 p4
      rw [C_becomeF k2 k0, bv_some, pe]
      refine ⟨1, _, _, rfl, rfl, ⟨k, k0, bFs_6, ?_, fun i hi => ?_, fun i hi => ?_⟩, ?_, ?_⟩
      · rw [pa.i 0 59 rfl, wI_s]
      · obtain ⟨q1, q2, q3, q4⟩ := bFs_r (h := c) (o := 152) (u := 160 + 7 * s) (by omega) hi
        obtain ⟨z1, z2, z3, z4⟩ := k3 i hi
        have i0 : i = 0 + i := (Nat.zero_add i).symm
        have c1 : ∀ f g : Nat → Int32, cpR f g 0 (60 * s) k i = f (60 * s + i) := fun f g => by
          have := cpR_in (f := f) (g := g) (d := 0) (e := 60 * s) hi
          rwa [Nat.zero_add] at this
        rw [p1, p2, p3, p4, c1, c1, c1, c1]
        exact ⟨q1.trans z1, q2.trans z2, q3.trans z3, q4.trans z4⟩
      · have := k4 i hi
        have c1 : ∀ f g : Nat → Int32, cpR f g 0 (60 * s) k i = f (60 * s + i) := fun f g => by
          have := cpR_in (f := f) (g := g) (d := 0) (e := 60 * s) hi
          rwa [Nat.zero_add] at this
        rw [p1, p2, p3, c1, c1, c1]
        exact this
      · unfold bFs
        exact ((((Agr.refl.wI rfl).cpI fun _ => rfl).cpI fun _ => rfl).cpI fun _ => rfl).cpI fun _ => rfl
      · exact (Agr.refl.wI rfl : Agr WFm m (wI m 0 59 (nI k))).trans (pa.sub rfl)
    · rw [if_neg ex] at key
      simp only [Bool.eq_false_iff.mpr ex, b2_f, ↓reduceIte, key, if_neg (show ¬ (0 : Int32) ≤ -1 by decide), ck_of zb_0]
      exact ⟨0, c, m, rfl, rfl, ⟨n, h⟩, .refl, .refl⟩
theorem sim_count0 {n T : Nat} {c m : Hp} (a1 : Int32) (D : RD0 c m) (h : RFn (nP m) (nL m) n c m) (H : RHn (nP m) (nL m) c m) (ht : RTn T c m) :
    ∃ r, fX11_count a1 c = some (r, c) ∧ fX12_count a1 m = some (r, m) := by
  obtain ⟨⟨d1, d2⟩, ⟨_, p2, p3⟩, ⟨_, q2, q3⟩, ⟨_, r2, r3⟩, ⟨_, s2, s3⟩, t1, _⟩ := D
  simp only [fX11_count, fX12_count, bX12_count_122, bX12_count_136, d2, ck_of (nI_inb d1 (by decide)), nI_ix (show lv m < 2 ^ 31 by omega), p2, p3, q2, q3, r2, r3, s2, s3, t1, h.2.1, h.2.2.1, ht.1, ht.2.1, bi_id, ck_of (show inb 0 3 = true from rfl), ck_of (show inb 1 3 = true from rfl), ck_of (show inb 2 3 = true from rfl), show ix 0 = 0 from rfl, show ix 1 = 1 from rfl, show ix 2 = 2 from rfl]
  by_cases ho : a1.toInt < 0 ∨ 7 < a1.toInt
  · rw [if_pos ho, if_pos ho]; exact ⟨_, rfl, rfl⟩
  · rcases sw7 ho with rfl | rfl | rfl | rfl | rfl | rfl | rfl | rfl
    · exact ⟨_, rfl, rfl⟩
    · exact ⟨_, rfl, rfl⟩
    · exact ⟨_, rfl, rfl⟩
    · exact ⟨_, rfl, rfl⟩
    · exact ⟨_, rfl, rfl⟩
    · exact ⟨_, rfl, rfl⟩
    · exact ⟨_, rfl, rfl⟩
    · obtain ⟨x, hx, x1, x2⟩ := H
      rw [x1, C_bitCount (by omega)]
      refine ⟨nI (pop x), rfl, ?_⟩
      have b : ∀ s, s < 3 → (0 ≤ m.1 60 s ↔ x.testBit s = true) := by
        intro s hs
        have key := x2 s hs
        unfold slt at key
        by_cases ex : x.testBit s = true
        · rw [if_pos ex] at key
          obtain ⟨k, k0, k1, _⟩ := key
          rw [k1]
          exact ⟨fun _ => ex, fun _ => nI_pos' (by omega)⟩
        · rw [if_neg ex] at key
          rw [key]
          exact ⟨fun x => absurd x (by decide), fun x => absurd x ex⟩
      simp only [b 0 (by decide), b 1 (by decide), b 2 (by decide)]
      match x, hx with
      | 0, _ => rfl
      | 1, _ => rfl
      | 2, _ => rfl
      | 3, _ => rfl
      | 4, _ => rfl
      | 5, _ => rfl
      | 6, _ => rfl
      | 7, _ => rfl
      | n + 8, h => exact absurd h (by omega)
/-- letters and clerks -/
theorem M_lt {c m h : Hp} (D : RD0 c m) (e : Agr SM m h) {l : Nat} (hl : l < nL m) : (10 : Int32) * (h.1 0 18) + nI l = nI (10 * lv m + l) ∧ inb (nI (10 * lv m + l)) 20 = true ∧ ix (nI (10 * lv m + l)) = 10 * lv m + l := by
  obtain ⟨⟨d1, d2⟩, _, _, _, ⟨s1, _⟩, _⟩ := D
  rw [e.i 0 18 rfl, d2, e10]
  exact ⟨rfl, nI_inb (by omega) (by decide), nI_ix (by omega)⟩
theorem M_writer {c m h : Hp} (D : RD0 c m) (e : Agr SM m h) {l : Nat} (hl : l < nL m) : fX12_writer (nI l) h = some (wrI m l, h) := by
  obtain ⟨q1, q2, q3⟩ := M_lt D e hl
  simp only [fX12_writer, q1, ck_of q2, q3, e.i 18 _ rfl]; rfl
theorem M_reader {c m h : Hp} (D : RD0 c m) (e : Agr SM m h) {l : Nat} (hl : l < nL m) : fX12_reader (nI l) h = some (rdI m l, h) := by
  obtain ⟨q1, q2, q3⟩ := M_lt D e hl
  simp only [fX12_reader, q1, ck_of q2, q3, e.i 19 _ rfl]; rfl
theorem sim_letter0 {c m : Hp} (a1 a2 : Int32) (D : RD0 c m) : ∃ r, fX11_letter a1 a2 c = some (r, c) ∧ fX12_letter a1 a2 m = some (r, m) := by
  simp only [fX11_letter, fX12_letter, M_hasLetter D .refl, C_isLetter D .refl, bi_some]
  cases hw : rng a1 0 (nI (nL m) - 1)
  · exact ⟨-1, rfl, rfl⟩
  · have D' := D
    obtain ⟨_, _, _, _, ⟨s1, _⟩, _, d7, _⟩ := D'
    obtain ⟨l, hl, rfl⟩ := (rng_n (by omega)).mp hw
    obtain ⟨q1, q2, q3⟩ := M_lt D .refl hl
    obtain ⟨z0, z1, z2, z3, z4⟩ := d7 l hl
    simp only [b2_t, i10, ↓reduceIte, M_writer D .refl hl, M_reader D .refl hl, bi_some, q1, ck_of q2, q3, ck_of (nI_inb (n := l) (N := 10) (by omega) (by decide)), nI_ix (show l < 2 ^ 31 by omega), z0, z1, z2, z3, z4]
    by_cases ho : a2.toInt < 0 ∨ 4 < a2.toInt
    · rw [if_pos ho, if_pos ho]; exact ⟨_, rfl, rfl⟩
    · rcases sw4 ho with rfl | rfl | rfl | rfl | rfl <;> exact ⟨_, rfl, rfl⟩
theorem nz_nI {n : Nat} (h0 : 0 < n) (h : n < 2 ^ 31) : nz (nI n) = true := decide_eq_true (nI_ne0 h0 h)
theorem sim_clerk0 {c m : Hp} (a1 : Int32) (D : RD0 c m) : ∃ r, fX11_clerk a1 c = some (r, c) ∧ fX12_clerk a1 m = some (r, m) := by
  obtain ⟨⟨d1, d2⟩, _, ⟨q1, q2, q3⟩, _⟩ := D
  simp only [fX11_clerk, fX12_clerk, fX0_clerkOf, M_isYear, C_isYear, bi_some, d2, ck_of (nI_inb d1 (by decide)), nI_ix (show lv m < 2 ^ 31 by omega), q2, q3]
  cases hw : rng a1 0 59
  · exact ⟨-1, rfl, rfl⟩
  · simp only [b2_t, i10, ↓reduceIte]
    by_cases e : nC m = 0
    · rw [e]; exact ⟨_, rfl, rfl⟩
    · rw [if_neg (nI_nle (by omega) (by omega)), if_neg (nI_ne0 (by omega) (by omega)), ck_of (nz_nI (n := nC m) (by omega) (by omega)), ck_of (nz_nI (n := nC m) (by omega) (by omega))]
      exact ⟨_, rfl, rfl⟩
theorem M_isBarred {c m h : Hp} (D : RD0 c m) (e : Agr SM m h) (q p : Int32) : fX12_isBarred q p h = some (b2 (barS m q p), h) := by
  obtain ⟨⟨d1, d2⟩, _, _, ⟨b1, b2', _⟩, _⟩ := D
  rw [← ok_eq]
  refine up0 (fun f i (_ : Unit) => lX12_isBarred_2 f q p (nI i) h) (nB m) (by omega) (fun i _ => ∀ k, k < i → ¬ (m.1 15 (12 * lv m + k) = q ∧ m.1 16 (12 * lv m + k) = p)) () (fun k hk => absurd hk (by omega)) ?_ ?_
  · intro f _ hI
    simp only [lX12_isBarred_2, bX12_isBarred_2, e.i 0 18 rfl, d2, ck_of (nI_inb d1 (by decide)), nI_ix (show lv m < 2 ^ 31 by omega), e.i 14 _ rfl, b2', if_pos (nI_le (Nat.le_refl (nB m)) (show nB m < 2 ^ 31 by omega)), ck_of zb_0, ok_some]
    have : barS m q p = false := by
      unfold barS
      rw [List.any_eq_false]
      intro k hk
      have := hI k (List.mem_range.mp hk)
      simpa using this
    rw [this]; rfl
  · intro f i _ hi hI k
    simp only [lX12_isBarred_2, bX12_isBarred_2, bX12_isBarred_53, e.i 0 18 rfl, d2, ck_of (nI_inb d1 (by decide)), nI_ix (show lv m < 2 ^ 31 by omega), e.i 14 _ rfl, b2', if_neg (nI_ge hi (show nB m < 2 ^ 31 by omega)), e12, ck_of (nI_inb (n := 12 * lv m + i) (N := 24) (by omega) (by decide)), nI_ix (show 12 * lv m + i < 2 ^ 31 by omega), e.i 15 _ rfl, e.i 16 _ rfl, lt_e, nI_1, ck_of zb_1]
    have k' : ¬ (m.1 15 (12 * lv m + i) = q ∧ m.1 16 (12 * lv m + i) = p) → Ok (lX12_isBarred_2 f q p (nI (i + 1)) h) (fun x => x = (b2 (barS m q p), h)) := fun hn => k () (fun a ha => by
      by_cases ea : a = i
      · subst ea; exact hn
      · exact hI a (by omega))
    by_cases e1 : m.1 15 (12 * lv m + i) = q
    · rw [if_pos e1]
      by_cases e2 : m.1 16 (12 * lv m + i) = p
      · rw [if_pos e2, ok_some]
        have : barS m q p = true := by
          unfold barS
          rw [List.any_eq_true]
          exact ⟨i, List.mem_range.mpr hi, by simp [e1, e2]⟩
        rw [this]; rfl
      · rw [if_neg e2]; exact k' fun x => e2 x.2
    · rw [if_neg e1]; exact k' fun x => e1 x.1
theorem sim_barred0 {c m : Hp} (a1 a2 : Int32) (D : RD0 c m) : ∃ r, fX11_barred a1 a2 c = some (r, c) ∧ fX12_barred a1 a2 m = some (r, m) := by
  have D' := D
  obtain ⟨⟨d1, d2⟩, ⟨p1, _⟩, ⟨q1, q2, q3⟩, _, _, _, _, _, d9⟩ := D'
  simp only [fX11_barred, fX12_barred, M_isPerson D .refl, C_isPerson D .refl, M_isBarred D .refl, C_within, M_in, C_has, bi_some, d2, ck_of (nI_inb d1 (by decide)), nI_ix (show lv m < 2 ^ 31 by omega), q2, q3]
  cases hw : rng a1 0 (nI (nC m) - 1)
  · exact ⟨-1, rfl, rfl⟩
  · cases hp : rng a2 0 (nI (nP m) - 1)
    · exact ⟨-1, rfl, rfl⟩
    · obtain ⟨q, hq, rfl⟩ := (rng_n (by omega)).mp hw
      obtain ⟨p, hpp, rfl⟩ := (rng_n (by omega)).mp hp
      simp only [b2_t, i10, ↓reduceIte, ck_of (nI_inb (n := q) (N := 4) (by omega) (by decide)), nI_ix (show q < 2 ^ 31 by omega), d9 q hq p hpp]
      cases barS m (nI q) (nI p) <;> exact ⟨_, rfl, rfl⟩
