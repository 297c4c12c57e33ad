/-- code of an expression: 0 a number, 1 a variable, 2 + 3 - 4 * 5 / -/
abbrev Cd : Type := List (Nat × Nat)
def opV (k : Nat) (a b : Int32) : Int32 := if k = 2 then a + b else if k = 3 then a - b else if k = 4 then a * b else a / b
def evA (vs : Nat → Int32) : Cd → Nat → (Nat → Int32) → Option (Nat × (Nat → Int32))
  | [], t, p => some (t, p)
  | x :: e, t, p => if x.1 = 0 then evA vs e (t + 1) (upN p t (nI x.2)) else if x.1 = 1 then evA vs e (t + 1) (upN p t (vs x.2)) else if x.1 = 5 ∧ p (t - 1) = 0 then none else evA vs e (t - 1) (upN p (t - 2) (opV x.1 (p (t - 2)) (p (t - 1))))
def dep : Cd → Nat → Option Nat
  | [], d => some d
  | x :: e, d => if x.1 < 2 then (if d < 60 ∧ (x.1 = 1 → x.2 < 4) then dep e (d + 1) else none) else if x.1 ≤ 5 ∧ 2 ≤ d then dep e (d - 1) else none
def cdM (m : Hp) (a : Nat) (e : Cd) : Prop := ∀ i, i < e.length → m.1 35 (a + i) = nI (e.getD i (0, 0)).1 ∧ m.1 36 (a + i) = nI (e.getD i (0, 0)).2
theorem cdM_h {m : Hp} {a : Nat} {x : Nat × Nat} {e : Cd} (h : cdM m a (x :: e)) : m.1 35 a = nI x.1 ∧ m.1 36 a = nI x.2 := by
  have := h 0 (by simp)
  simpa using this
theorem cdM_t {m : Hp} {a : Nat} {x : Nat × Nat} {e : Cd} (h : cdM m a (x :: e)) : cdM m (a + 1) e := fun i hi => by
  have := h (i + 1) (by simp; omega)
  rw [show a + (i + 1) = a + 1 + i by omega] at this
  simpa using this
def TM : Ws := [(39, none), (0, some 56)]
theorem M_termL {m : Hp} {vs : Nat → Int32} : ∀ (e : Cd) (i t d : Nat) (p : Nat → Int32) (h : Hp) (f : Nat), cdM m i e → i + e.length ≤ 840 → dep e t = some d → t ≤ 60 → e.length < f → (∀ x, x ∈ e → x.2 < 2 ^ 31) → Agr SM m h → (∀ v, v < 4 → h.1 38 v = vs v) → (∀ j, j < t → h.1 39 j = p j) → h.1 0 56 = 0 →
    Ok (lX12_termOf_10 f (nI (i + e.length)) (nI t) (nI i) h) (fun r => Agr TM h r.2 ∧ (∀ v, v < 4 → r.2.1 38 v = vs v) ∧ (match evA vs e t p with | none => r.2.1 0 56 = 1 ∧ r.1 = 0 | some s => r.2.1 0 56 = 0 ∧ (0 < s.1 → r.1 = s.2 0))) := by
  intro e
  induction e with
  | nil =>
    intro i t d p h f hc hi hd ht hf hb e hv hp h0
    obtain ⟨g, rfl⟩ : ∃ g, f = g + 1 := ⟨f - 1, by omega⟩
    rw [lX12_termOf_10]
    simp only [bX12_termOf_10, List.length_nil, Nat.add_zero, if_pos (nI_le (Nat.le_refl i) (show i < 2 ^ 31 by simp at hi; omega)), ck_of (show inb 0 400 = true from rfl), ok_some, evA]
    exact ⟨.refl, hv, h0, fun h => hp 0 h⟩
  | cons x e ih =>
    intro i t d p h f hc hi hd ht hf hb ea hv hp h0
    obtain ⟨g, rfl⟩ : ∃ g, f = g + 1 := ⟨f - 1, by omega⟩
    rw [List.length_cons] at hi hf
    obtain ⟨c1, c2⟩ := cdM_h hc
    have ct := cdM_t hc
    have x31 := hb x List.mem_cons_self
    have hbt : ∀ y, y ∈ e → y.2 < 2 ^ 31 := fun y hy => hb y (List.mem_cons_of_mem _ hy)
    rw [dep] at hd
    rw [List.length_cons, show i + (e.length + 1) = i + 1 + e.length by omega, lX12_termOf_10]
    simp only [bX12_termOf_10, if_neg (nI_ge (show i < i + 1 + e.length by omega) (show i + 1 + e.length < 2 ^ 31 by omega)), ck_of (nI_inb (n := i) (N := 840) (by omega) (by decide)), nI_ix (show i < 2 ^ 31 by omega), ea.i 35 _ rfl, ea.i 36 _ rfl, c1, c2, lt_q]
    rw [evA]
    -- what follows a write to the pile
    have nx : ∀ (t' d' : Nat) (p' : Nat → Int32) (h' : Hp), dep e t' = some d' → t' ≤ 60 → Agr TM h h' → (∀ v, v < 4 → h'.1 38 v = vs v) → (∀ j, j < t' → h'.1 39 j = p' j) → h'.1 0 56 = 0 → Ok (lX12_termOf_10 g (nI (i + 1 + e.length)) (nI t') (nI i + 1) h') (fun r => Agr TM h r.2 ∧ (∀ v, v < 4 → r.2.1 38 v = vs v) ∧ (match evA vs e t' p' with | none => r.2.1 0 56 = 1 ∧ r.1 = 0 | some s => r.2.1 0 56 = 0 ∧ (0 < s.1 → r.1 = s.2 0))) := by
      intro t' d' p' h' hd' ht' a' hv' hp' h0'
      rw [nI_1]
      refine (ih (i + 1) t' d' p' h' g ct (by omega) hd' ht' (by omega) hbt (ea.trans (a'.sub rfl)) hv' hp' h0').mono ?_
      rintro r ⟨a2, v2, m2⟩
      exact ⟨a'.trans a2, v2, m2⟩
    by_cases k2 : x.1 < 2
    · rw [if_pos k2] at hd
      by_cases kd : t < 60 ∧ (x.1 = 1 → x.2 < 4)
      · rw [if_pos kd] at hd
        rw [if_neg (show ¬ (2 : Int32) ≤ nI x.1 from nI_ge (b := 2) k2 (by decide))]
        have push : ∀ v : Int32, Ok (bX12_termOf_63 (lX12_termOf_10 g) (nI (i + 1 + e.length)) (nI t) (nI i) v (nI t) h) (fun r => Agr TM h r.2 ∧ (∀ v, v < 4 → r.2.1 38 v = vs v) ∧ (match evA vs e (t + 1) (upN p t v) with | none => r.2.1 0 56 = 1 ∧ r.1 = 0 | some s => r.2.1 0 56 = 0 ∧ (0 < s.1 → r.1 = s.2 0))) := by
          intro v
          simp only [bX12_termOf_63, bX12_termOf_164, ck_of (nI_inb (n := t) (N := 400) (by omega) (by decide)), nI_ix (show t < 2 ^ 31 by omega), lt_q]
          rw [nI_1 t]
          refine nx (t + 1) d (upN p t v) _ hd (by omega) (Agr.refl.wI rfl) (fun u hu => by rw [wI_k (by decide)]; exact hv u hu) (fun j hj => ?_) (by rw [wI_k (by decide)]; exact h0)
          by_cases ej : j = t
          · subst ej; rw [wI_s, upN_s]
          · rw [wI_j ej, upN_n ej]; exact hp j (by omega)
        by_cases k0 : x.1 = 0
        · rw [if_pos k0, if_pos (by rw [k0]; rfl)]
          exact push _
        · have k1 : x.1 = 1 := by omega
          have v4 := kd.2 k1
          rw [if_neg k0, if_pos k1, if_neg (nI_ne0 (by omega) (by omega)), ck_of (nI_inb (n := x.2) (N := 4) v4 (by decide)), nI_ix x31, hv x.2 v4]
          exact push _
      · rw [if_neg kd] at hd; cases hd
    · rw [if_neg k2] at hd
      by_cases kd : x.1 ≤ 5 ∧ 2 ≤ t
      · rw [if_pos kd] at hd
        obtain ⟨k5, t2⟩ := kd
        have et : nI t + (-1) = nI (t - 1) := by
          obtain ⟨u, rfl⟩ : ∃ u, t = u + 1 := ⟨t - 1, by omega⟩
          exact pk_m1 u
        have et2 : nI (t - 1) - 1 = nI (t - 2) := by rw [nI_sub1 (by omega)]; congr 1
        rw [if_pos (show (2 : Int32) ≤ nI x.1 from nI_le (a := 2) (by omega) (by omega)), et, et2, ck_of (nI_inb (n := t - 2) (N := 400) (by omega) (by decide)), ck_of (nI_inb (n := t - 1) (N := 400) (by omega) (by decide)), nI_ix (show t - 2 < 2 ^ 31 by omega), nI_ix (show t - 1 < 2 ^ 31 by omega), hp (t - 1) (by omega), hp (t - 2) (by omega), if_neg (show ¬ x.1 = 0 by omega), if_neg (show ¬ x.1 = 1 by omega)]
        have put : ∀ v : Int32, Ok (bX12_termOf_163 (lX12_termOf_10 g) (nI (i + 1 + e.length)) (nI (t - 1)) (nI i) v (nI (t - 1) - 1) h) (fun r => Agr TM h r.2 ∧ (∀ v, v < 4 → r.2.1 38 v = vs v) ∧ (match evA vs e (t - 1) (upN p (t - 2) v) with | none => r.2.1 0 56 = 1 ∧ r.1 = 0 | some s => r.2.1 0 56 = 0 ∧ (0 < s.1 → r.1 = s.2 0))) := by
          intro v
          rw [et2]
          simp only [bX12_termOf_163, bX12_termOf_164, ck_of (nI_inb (n := t - 2) (N := 400) (by omega) (by decide)), nI_ix (show t - 2 < 2 ^ 31 by omega), lt_q]
          refine nx (t - 1) d (upN p (t - 2) v) _ hd (by omega) (Agr.refl.wI rfl) (fun u hu => by rw [wI_k (by decide)]; exact hv u hu) (fun j hj => ?_) (by rw [wI_k (by decide)]; exact h0)
          by_cases ej : j = t - 2
          · subst ej; rw [wI_s, upN_s]
          · rw [wI_j ej, upN_n ej]; exact hp j (by omega)
        have nk : ∀ c : Nat, c < 6 → (nI x.1 = nI c ↔ x.1 = c) := fun c hc => nI_eq (by omega) (by omega)
        by_cases e5 : x.1 = 5
        · rw [if_pos (show nI x.1 = 5 from (nk 5 (by decide)).mpr e5)]
          by_cases z : p (t - 1) = 0
          · rw [if_pos z, if_pos ⟨e5, z⟩, ck_of zb_1, ok_some]
            exact ⟨Agr.refl.wI rfl, fun v hv' => by rw [wI_k (by decide)]; exact hv v hv', wI_s, rfl⟩
          · rw [if_neg z, if_neg fun y => z y.2]
            simp only [bX12_termOf_109]
            rw [if_neg (show ¬ nI x.1 = 2 from fun y => by have := (nk 2 (by decide)).mp y; omega), if_neg (show ¬ nI x.1 = 3 from fun y => by have := (nk 3 (by decide)).mp y; omega), if_neg (show ¬ nI x.1 = 4 from fun y => by have := (nk 4 (by decide)).mp y; omega), ck_of (show nz (p (t - 1)) = true from decide_eq_true z)]
            have : opV x.1 (p (t - 2)) (p (t - 1)) = p (t - 2) / p (t - 1) := by unfold opV; rw [if_neg (by omega), if_neg (by omega), if_neg (by omega)]
            rw [this]; exact put _
        · rw [if_neg (show ¬ nI x.1 = 5 from fun y => e5 ((nk 5 (by decide)).mp y)), if_neg fun y => e5 y.1]
          simp only [bX12_termOf_109]
          by_cases e2 : x.1 = 2
          · rw [if_pos (show nI x.1 = 2 from (nk 2 (by decide)).mpr e2)]
            have : opV x.1 (p (t - 2)) (p (t - 1)) = p (t - 2) + p (t - 1) := by unfold opV; rw [if_pos e2]
            rw [this]; exact put _
          · rw [if_neg (show ¬ nI x.1 = 2 from fun y => e2 ((nk 2 (by decide)).mp y))]
            by_cases e3 : x.1 = 3
            · rw [if_pos (show nI x.1 = 3 from (nk 3 (by decide)).mpr e3)]
              have : opV x.1 (p (t - 2)) (p (t - 1)) = p (t - 2) - p (t - 1) := by unfold opV; rw [if_neg e2, if_pos e3]
              rw [this]; exact put _
            · have e4 : x.1 = 4 := by omega
              rw [if_neg (show ¬ nI x.1 = 3 from fun y => e3 ((nk 3 (by decide)).mp y)), if_pos (show nI x.1 = 4 from (nk 4 (by decide)).mpr e4)]
              have : opV x.1 (p (t - 2)) (p (t - 1)) = p (t - 2) * p (t - 1) := by unfold opV; rw [if_neg e2, if_neg e3, if_pos e4]
              rw [this]; exact put _
      · rw [if_neg kd] at hd; cases hd
/-- what a rule's code says: nothing where a division by 0 comes -/
def evE (vs : Nat → Int32) (e : Cd) : Option Int32 := (evA vs e 0 (fun _ => 0)).map (fun s => s.2 0)
theorem ev_dep {vs : Nat → Int32} : ∀ (e : Cd) (t d : Nat) (p : Nat → Int32), dep e t = some d → ∀ s, evA vs e t p = some s → s.1 = d := by
  intro e
  induction e with
  | nil => intro t d p hd s hs; rw [dep] at hd; rw [evA] at hs; cases hd; cases hs; rfl
  | cons x e ih =>
    intro t d p hd s hs
    rw [dep] at hd
    rw [evA] at hs
    by_cases k2 : x.1 < 2
    · rw [if_pos k2] at hd
      by_cases kd : t < 60 ∧ (x.1 = 1 → x.2 < 4)
      · rw [if_pos kd] at hd
        by_cases k0 : x.1 = 0
        · rw [if_pos k0] at hs; exact ih _ _ _ hd _ hs
        · rw [if_neg k0, if_pos (show x.1 = 1 by omega)] at hs; exact ih _ _ _ hd _ hs
      · rw [if_neg kd] at hd; cases hd
    · rw [if_neg k2] at hd
      by_cases kd : x.1 ≤ 5 ∧ 2 ≤ t
      · rw [if_pos kd] at hd
        rw [if_neg (show ¬ x.1 = 0 by omega), if_neg (show ¬ x.1 = 1 by omega)] at hs
        by_cases z : x.1 = 5 ∧ p (t - 1) = 0
        · rw [if_pos z] at hs; cases hs
        · rw [if_neg z] at hs; exact ih _ _ _ hd _ hs
      · rw [if_neg kd] at hd; cases hd
theorem M_termOf {m h : Hp} {vs : Nat → Int32} {e : Cd} {a : Nat} (hc : cdM m a e) (ha : a + e.length ≤ 840) (hd : dep e 0 = some 1) (hb : ∀ x, x ∈ e → x.2 < 2 ^ 31) (ea : Agr SM m h) (hv : ∀ v, v < 4 → h.1 38 v = vs v) : Ok (fX12_termOf (nI a) (nI (a + e.length)) h) (fun r => Agr TM h r.2 ∧ (∀ v, v < 4 → r.2.1 38 v = vs v) ∧ (match evE vs e with | none => r.2.1 0 56 = 1 ∧ r.1 = 0 | some v => r.2.1 0 56 = 0 ∧ r.1 = v)) := by
  simp only [fX12_termOf, ck_of zb_0, lt_q]
  have w := M_termL (vs := vs) e a 0 1 (fun _ => 0) (wI h 0 56 0) FU hc ha hd (by decide) (show e.length < 20000 by omega) hb (ea.wI rfl) (fun v hv' => by rw [wI_k (by decide)]; exact hv v hv') (fun j hj => absurd hj (by omega)) wI_s
  rw [nI_0] at w
  refine w.mono ?_
  rintro r ⟨a2, v2, m2⟩
  refine ⟨(Agr.refl.wI rfl : Agr TM h (wI h 0 56 0)).trans a2, v2, ?_⟩
  unfold evE
  cases he : evA vs e 0 (fun _ => 0) with
  | none => rw [he] at m2; exact m2
  | some s =>
    rw [he] at m2
    have := ev_dep e 0 1 (fun _ => 0) hd s he
    exact ⟨m2.1, m2.2 (by omega)⟩
def heldS (v most : Int32) : Int32 := if v < 0 then 0 else if most < v then most else v
theorem M_held (v w : Int32) (h : Hp) : fX12_held v w h = some (heldS v w, h) := by
  unfold fX12_held heldS
  by_cases c1 : v < 0
  · rw [if_neg (i_nle.mpr c1), if_pos c1]
  · rw [if_pos (i_nlt.mp c1), if_neg c1]
    by_cases c2 : w < v
    · rw [if_neg (i_nle.mpr c2), if_pos c2]
    · rw [if_pos (i_nlt.mp c2), if_neg c2]
