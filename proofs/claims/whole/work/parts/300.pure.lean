/-- a call comes to an end, and what it gives is so -/
def Ok {β : Type} (o : Option β) (Q : β → Prop) : Prop := ∃ b, o = some b ∧ Q b
theorem ok_some {β : Type} {b : β} {Q : β → Prop} : Ok (some b) Q ↔ Q b := ⟨fun ⟨_, h, q⟩ => by cases h; exact q, fun q => ⟨b, rfl, q⟩⟩
theorem ok_ck {β : Type} {c : Bool} {x : Option β} {Q : β → Prop} : Ok (ck c x) Q ↔ c = true ∧ Ok x Q := by
  unfold ck
  constructor
  · intro h
    by_cases hc : c = true
    · rw [if_pos hc] at h; exact ⟨hc, h⟩
    · rw [if_neg hc] at h; obtain ⟨_, h, _⟩ := h; cases h
  · intro ⟨hc, h⟩; rw [if_pos hc]; exact h
theorem ok_lt {α β : Type} {x : α} {f : α → Option β} {Q : β → Prop} : Ok (lt x f) Q ↔ Ok (f x) Q := Iff.rfl
theorem ok_bi {α β : Type} {o : Option (α × Hp)} {f : α → Hp → Option β} {Q : β → Prop} : Ok (bi o f) Q ↔ Ok o (fun p => Ok (f p.1 p.2) Q) := by
  cases o with
  | none => constructor <;> (intro ⟨_, h, _⟩; cases h)
  | some p => exact (ok_some (b := p) (Q := fun (p : α × Hp) => Ok (f p.1 p.2) Q)).symm
theorem ok_bv {β : Type} {o : Option Hp} {f : Hp → Option β} {Q : β → Prop} : Ok (bv o f) Q ↔ Ok o (fun p => Ok (f p) Q) := by
  cases o with
  | none => constructor <;> (intro ⟨_, h, _⟩; cases h)
  | some p => exact (ok_some (Q := fun p => Ok (f p) Q)).symm
theorem Ok.mono {β : Type} {o : Option β} {P Q : β → Prop} (h : Ok o P) (f : ∀ b, P b → Q b) : Ok o Q := by
  obtain ⟨b, e, p⟩ := h; exact ⟨b, e, f b p⟩
theorem Ok.of {β : Type} {o : Option β} {b : β} {Q : β → Prop} (h : o = some b) (q : Q b) : Ok o Q := ⟨b, h, q⟩
theorem ok_eq {β : Type} {o : Option β} {b : β} : Ok o (fun p => p = b) ↔ o = some b := ⟨fun ⟨_, h, q⟩ => q ▸ h, fun h => ⟨b, h, rfl⟩⟩
theorem bi_some {α β : Type} {a : α} {h : Hp} {f : α → Hp → Option β} : bi (some (a, h)) f = f a h := rfl
theorem bv_some {β : Type} {h : Hp} {f : Hp → Option β} : bv (some h) f = f h := rfl
theorem ck_t {β : Type} {x : Option β} : ck true x = x := rfl
theorem ck_of {β : Type} {c : Bool} {x : Option β} (h : c = true) : ck c x = x := by rw [h]; rfl
theorem lt_e {α β : Type} {x : α} {f : α → β} : lt x f = f x := rfl
theorem zb_0 : zb 0 = true := rfl
theorem zb_1 : zb 1 = true := rfl
/-- a set of cells: whole cells, and slots of cells -/
abbrev Ws : Type := List (Nat × Option Nat)
def wm (W : Ws) (k j : Nat) : Bool := W.any (fun e => e.1 == k && (match e.2 with
  | none => true
  | some i => i == j))
def sbw (W V : Ws) : Bool := W.all (fun e => V.any (fun d => d.1 == e.1 && (match d.2 with
  | none => true
  | some i => match e.2 with
    | none => false
    | some j => i == j)))
def djw (W V : Ws) : Bool := W.all (fun e => V.all (fun d => d.1 != e.1 || (match d.2 with
  | none => false
  | some i => match e.2 with
    | none => false
    | some j => i != j)))
theorem wm_el {W : Ws} {k j : Nat} (h : wm W k j = true) : ∃ e, e ∈ W ∧ e.1 = k ∧ (e.2 = none ∨ e.2 = some j) := by
  unfold wm at h
  rw [List.any_eq_true] at h
  obtain ⟨e, he, hh⟩ := h
  rw [Bool.and_eq_true] at hh
  refine ⟨e, he, beq_iff_eq.mp hh.1, ?_⟩
  rcases e with ⟨a, _ | i⟩
  · exact Or.inl rfl
  · exact Or.inr (congrArg some (beq_iff_eq.mp hh.2))
theorem wm_in {W : Ws} {k j : Nat} {e : Nat × Option Nat} (he : e ∈ W) (h1 : e.1 = k) (h2 : e.2 = none ∨ e.2 = some j) : wm W k j = true := by
  unfold wm
  rw [List.any_eq_true]
  refine ⟨e, he, ?_⟩
  rcases e with ⟨a, _ | i⟩
  · simpa using h1
  · rcases h2 with h2 | h2
    · cases h2
    · cases h2; simpa using h1
theorem sbw_wm {W V : Ws} (hs : sbw W V = true) {k j : Nat} (h : wm W k j = true) : wm V k j = true := by
  obtain ⟨e, he, h1, h2⟩ := wm_el h
  unfold sbw at hs
  rw [List.all_eq_true] at hs
  have := hs e he
  rw [List.any_eq_true] at this
  obtain ⟨d, hd, hh⟩ := this
  rw [Bool.and_eq_true] at hh
  refine wm_in hd ((beq_iff_eq.mp hh.1).trans h1) ?_
  rcases d with ⟨a, _ | i⟩
  · exact Or.inl rfl
  · rcases e with ⟨b, _ | i'⟩
    · exact absurd hh.2 (by simp)
    · rcases h2 with h2 | h2
      · cases h2
      · cases h2; exact Or.inr (congrArg some (beq_iff_eq.mp hh.2))
theorem djw_wm {W V : Ws} (hs : djw W V = true) {k j : Nat} (h : wm W k j = true) : wm V k j = false := by
  by_cases hv : wm V k j = true
  · obtain ⟨e, he, h1, h2⟩ := wm_el h
    obtain ⟨d, hd, g1, g2⟩ := wm_el hv
    unfold djw at hs
    rw [List.all_eq_true] at hs
    have := hs e he
    rw [List.all_eq_true] at this
    have := this d hd
    rcases d with ⟨a, _ | i⟩ <;> rcases e with ⟨b, _ | i'⟩ <;> simp_all
  · exact Bool.eq_false_iff.mpr hv
/-- the heaps agree outside of W -/
def Agr (W : Ws) (h h' : Hp) : Prop := ∀ k j, wm W k j = false → h'.1 k j = h.1 k j ∧ h'.2 k j = h.2 k j
theorem Agr.refl {W : Ws} {h : Hp} : Agr W h h := fun _ _ _ => ⟨rfl, rfl⟩
theorem Agr.trans {W : Ws} {h h1 h2 : Hp} (a : Agr W h h1) (b : Agr W h1 h2) : Agr W h h2 := fun k j w => ⟨(b k j w).1.trans (a k j w).1, (b k j w).2.trans (a k j w).2⟩
theorem Agr.sub {W V : Ws} {h h1 : Hp} (hs : sbw W V = true) (a : Agr W h h1) : Agr V h h1 := fun k j w => a k j (by
  by_cases hw : wm W k j = true
  · rw [sbw_wm hs hw] at w; cases w
  · exact Bool.eq_false_iff.mpr hw)
theorem Agr.wI {W : Ws} {h h1 : Hp} (a : Agr W h h1) {k j : Nat} {v : Int32} (hk : wm W k j = true) : Agr W h (wI h1 k j v) := fun a' b w => by
  refine ⟨?_, (a a' b w).2⟩
  show (if a' = k ∧ b = j then v else h1.1 a' b) = _
  rw [if_neg, (a a' b w).1]
  rintro ⟨rfl, rfl⟩
  rw [hk] at w; cases w
theorem Agr.wL {W : Ws} {h h1 : Hp} (a : Agr W h h1) {k j : Nat} {v : Int64} (hk : wm W k j = true) : Agr W h (wL h1 k j v) := fun a' b w => by
  refine ⟨(a a' b w).1, ?_⟩
  show (if a' = k ∧ b = j then v else h1.2 a' b) = _
  rw [if_neg, (a a' b w).2]
  rintro ⟨rfl, rfl⟩
  rw [hk] at w; cases w
theorem Agr.i {W : Ws} {h h1 : Hp} (a : Agr W h h1) (k j : Nat) (w : wm W k j = false) : h1.1 k j = h.1 k j := (a k j w).1
theorem Agr.l {W : Ws} {h h1 : Hp} (a : Agr W h h1) (k j : Nat) (w : wm W k j = false) : h1.2 k j = h.2 k j := (a k j w).2
/-- the part of a heap in P -/
def prj (P : Ws) (h : Hp) : Hp := (fun k j => if wm P k j = true then h.1 k j else 0, fun k j => if wm P k j = true then h.2 k j else 0)
theorem prj_agr {P W : Ws} {h h' : Hp} (hd : djw P W = true) (a : Agr W h h') : prj P h' = prj P h := by
  unfold prj
  refine Prod.ext (funext fun k => funext fun j => ?_) (funext fun k => funext fun j => ?_)
  · show (if _ then _ else _) = (if _ then _ else _)
    by_cases hw : wm P k j = true
    · rw [if_pos hw, if_pos hw, (a k j (djw_wm hd hw)).1]
    · rw [if_neg hw, if_neg hw]
  · show (if _ then _ else _) = (if _ then _ else _)
    by_cases hw : wm P k j = true
    · rw [if_pos hw, if_pos hw, (a k j (djw_wm hd hw)).2]
    · rw [if_neg hw, if_neg hw]
theorem prj_i {P : Ws} {h : Hp} {k j : Nat} (hw : wm P k j = true) : (prj P h).1 k j = h.1 k j := if_pos hw
theorem prj_l {P : Ws} {h : Hp} {k j : Nat} (hw : wm P k j = true) : (prj P h).2 k j = h.2 k j := if_pos hw
/-- writing and reading -/
theorem wI_s {h : Hp} {k j : Nat} {v : Int32} : (wI h k j v).1 k j = v := if_pos ⟨rfl, rfl⟩
theorem wI_k {h : Hp} {k j a b : Nat} {v : Int32} (n : a ≠ k) : (wI h k j v).1 a b = h.1 a b := if_neg fun x => n x.1
theorem wI_j {h : Hp} {k j a b : Nat} {v : Int32} (n : b ≠ j) : (wI h k j v).1 a b = h.1 a b := if_neg fun x => n x.2
theorem wI_r {h : Hp} {k j a b : Nat} {v : Int32} : (wI h k j v).1 a b = if a = k ∧ b = j then v else h.1 a b := rfl
theorem wI_l {h : Hp} {k j : Nat} {v : Int32} : (wI h k j v).2 = h.2 := rfl
theorem wL_s {h : Hp} {k j : Nat} {v : Int64} : (wL h k j v).2 k j = v := if_pos ⟨rfl, rfl⟩
theorem wL_k {h : Hp} {k j a b : Nat} {v : Int64} (n : a ≠ k) : (wL h k j v).2 a b = h.2 a b := if_neg fun x => n x.1
theorem wL_j {h : Hp} {k j a b : Nat} {v : Int64} (n : b ≠ j) : (wL h k j v).2 a b = h.2 a b := if_neg fun x => n x.2
theorem wL_r {h : Hp} {k j a b : Nat} {v : Int64} : (wL h k j v).2 a b = if a = k ∧ b = j then v else h.2 a b := rfl
theorem wL_i {h : Hp} {k j : Nat} {v : Int64} : (wL h k j v).1 = h.1 := rfl
/-- numbers -/
theorem nI_ix {n : Nat} (h : n < 2 ^ 31) : ix (nI n) = n := nI_clamp h
theorem nI_inb {n N : Nat} (h : n < N) (hN : N < 2 ^ 31) : inb (nI n) N = true := by
  unfold inb
  rw [nI_toInt (by omega)]
  exact decide_eq_true (by omega)
theorem inb_nI {x : Int32} {N : Nat} (h : inb x N = true) (hN : N < 2 ^ 31) : ∃ j : Nat, j < N ∧ x = nI j := vp_in_of (inb_in h) hN
theorem nI_sub1 {n : Nat} (h : 0 < n) : nI n - 1 = nI (n - 1) := by
  obtain ⟨k, rfl⟩ : ∃ k, n = k + 1 := ⟨n - 1, by omega⟩
  exact nI_pred k
theorem bit_01 (x : Int32) : x &&& 1 = 0 ∨ x &&& 1 = 1 := by
  obtain ⟨j, hj, h⟩ := pk_andE x (m := 1) 1 rfl
  rw [h]
  have : j = 0 ∨ j = 1 := by omega
  rcases this with rfl | rfl
  · exact Or.inl rfl
  · exact Or.inr rfl
/-- the first n rounds, from round 0 -/
def forN {σ : Type} : Nat → (Nat → σ → σ) → σ → σ
  | 0, _, s => s
  | n + 1, f, s => f n (forN n f s)
theorem forN_0 {σ : Type} {f : Nat → σ → σ} {s : σ} : forN 0 f s = s := rfl
theorem forN_s {σ : Type} {n : Nat} {f : Nat → σ → σ} {s : σ} : forN (n + 1) f s = f n (forN n f s) := rfl
theorem forN_cg {σ : Type} {f g : Nat → σ → σ} {s : σ} : ∀ {n : Nat}, (∀ i t, i < n → f i t = g i t) → forN n f s = forN n g s
  | 0, _ => rfl
  | n + 1, h => by rw [forN_s, forN_s, forN_cg (n := n) (fun i t hi => h i t (by omega)), h n _ (by omega)]
/-- a loop that counts up to n -/
theorem upto {σ β : Type} {Q : β → Prop} (l : Nat → Nat → σ → Option β) (n : Nat) (I : Nat → σ → Prop)
    (he : ∀ f s, I n s → Ok (l (f + 1) n s) Q)
    (hs : ∀ f i s, i < n → I i s → (∀ s', I (i + 1) s' → Ok (l f (i + 1) s') Q) → Ok (l (f + 1) i s) Q) :
    ∀ d i s f, n - i = d → i ≤ n → d < f → I i s → Ok (l f i s) Q := by
  intro d
  induction d with
  | zero =>
    intro i s f hd hi hf hI
    obtain ⟨g, rfl⟩ : ∃ g, f = g + 1 := ⟨f - 1, by omega⟩
    have : i = n := by omega
    subst this
    exact he g s hI
  | succ d ih =>
    intro i s f hd hi hf hI
    obtain ⟨g, rfl⟩ : ∃ g, f = g + 1 := ⟨f - 1, by omega⟩
    exact hs g i s (by omega) hI (fun s' h' => ih (i + 1) s' g (by omega) (by omega) (by omega) h')
/-- the same from 0, entered with the usual fuel -/
theorem up0 {σ β : Type} {Q : β → Prop} (l : Nat → Nat → σ → Option β) (n : Nat) (hn : n < 20000) (I : Nat → σ → Prop) (s : σ) (h0 : I 0 s)
    (he : ∀ f s, I n s → Ok (l (f + 1) n s) Q)
    (hs : ∀ f i s, i < n → I i s → (∀ s', I (i + 1) s' → Ok (l f (i + 1) s') Q) → Ok (l (f + 1) i s) Q) : Ok (l FU 0 s) Q :=
  upto l n I he hs n 0 s FU (by omega) (by omega) hn h0
/-- a loop with a measure -/
theorem mloop {σ β : Type} {Q : β → Prop} (l : Nat → σ → Option β) (I : σ → Prop) (μ : σ → Nat)
    (hs : ∀ f s, I s → (∀ s', I s' → μ s' < μ s → Ok (l f s') Q) → Ok (l (f + 1) s) Q) :
    ∀ d s f, μ s ≤ d → d < f → I s → Ok (l f s) Q := by
  intro d
  induction d with
  | zero =>
    intro s f hd hf hI
    obtain ⟨g, rfl⟩ : ∃ g, f = g + 1 := ⟨f - 1, by omega⟩
    exact hs g s hI (fun s' _ h => absurd h (by omega))
  | succ d ih =>
    intro s f hd hf hI
    obtain ⟨g, rfl⟩ : ∃ g, f = g + 1 := ⟨f - 1, by omega⟩
    exact hs g s hI (fun s' h' hm => ih s' g (by omega) (by omega) h')
/-- the simple tests -/
def b2 (b : Bool) : Int32 := if b = true then 1 else 0
theorem b2_t : b2 true = 1 := rfl
theorem b2_f : b2 false = 0 := rfl
theorem b2_zb (b : Bool) : zb (b2 b) = true := by cases b <;> rfl
theorem b2_0 (b : Bool) : b2 b = 0 ↔ b = false := by cases b <;> decide
theorem b2_1 (b : Bool) : b2 b = 1 ↔ b = true := by cases b <;> decide
def rng (x a b : Int32) : Bool := decide (a ≤ x) && decide (x ≤ b)
theorem i_nlt {x y : Int32} : ¬ x < y ↔ y ≤ x := Int32.not_lt
theorem i_nle {x y : Int32} : ¬ x ≤ y ↔ y < x := Int32.not_le
theorem M_in (x a b : Int32) (h : Hp) : fX12_in x a b h = some (b2 (rng x a b), h) := by
  unfold fX12_in rng
  by_cases h1 : x < a
  · rw [if_pos h1, ck_of zb_0, decide_eq_false (fun h => i_nlt.mpr h h1)]; rfl
  · rw [if_neg h1, decide_eq_true (i_nlt.mp h1)]
    by_cases h2 : b < x
    · rw [if_pos h2, ck_of zb_0, decide_eq_false (fun h => i_nlt.mpr h h2)]; rfl
    · rw [if_neg h2, ck_of zb_1, decide_eq_true (i_nlt.mp h2)]; rfl
theorem C_within (x a b : Int32) (h : Hp) : fX11_within x a b h = some (b2 (rng x a b), h) := M_in x a b h
theorem rng_n {x : Int32} {n : Nat} (hn : n < 2 ^ 31) : rng x 0 (nI n - 1) = true ↔ ∃ j : Nat, j < n ∧ x = nI j := by
  unfold rng
  rw [Bool.and_eq_true, decide_eq_true_iff, decide_eq_true_iff]
  constructor
  · rintro ⟨h1, h2⟩
    obtain ⟨j, hj, rfl⟩ := nI_of (i_nlt.mpr h1)
    refine ⟨j, ?_, rfl⟩
    rcases Nat.eq_zero_or_pos n with rfl | h0
    · exact absurd (Int32.le_trans h1 h2) (by decide)
    · rw [nI_sub1 h0, nI_leI hj (by omega)] at h2
      omega
  · rintro ⟨j, hj, rfl⟩
    refine ⟨nI_pos' (by omega), ?_⟩
    rw [nI_sub1 (by omega), nI_leI (by omega) (by omega)]
    omega
theorem rng_c {x : Int32} {a n : Nat} (ha : a < 2 ^ 31) (hn : n < 2 ^ 31) : rng x (nI a) (nI n) = true ↔ ∃ j : Nat, a ≤ j ∧ j ≤ n ∧ x = nI j := by
  unfold rng
  rw [Bool.and_eq_true, decide_eq_true_iff, decide_eq_true_iff]
  constructor
  · rintro ⟨h1, h2⟩
    obtain ⟨j, hj, rfl⟩ := nI_of (i_nlt.mpr (Int32.le_trans (nI_pos' ha) h1))
    rw [nI_leI ha hj] at h1
    rw [nI_leI hj hn] at h2
    exact ⟨j, h1, h2, rfl⟩
  · rintro ⟨j, h1, h2, rfl⟩
    exact ⟨(nI_leI ha (by omega)).mpr h1, (nI_leI (by omega) hn).mpr h2⟩
