/-- code that is laid down -/
theorem gD_l {a b : Cd} {i : Nat} (h : i < a.length) : (a ++ b).getD i (0, 0) = a.getD i (0, 0) := by
  rw [List.getD_eq_getElem?_getD, List.getD_eq_getElem?_getD, List.getElem?_append_left h]
theorem gD_r {a b : Cd} {i : Nat} : (a ++ b).getD (a.length + i) (0, 0) = b.getD i (0, 0) := by
  rw [List.getD_eq_getElem?_getD, List.getD_eq_getElem?_getD, List.getElem?_append_right (by omega), Nat.add_sub_cancel_left]
def cwG (c : Hp) (a : Nat) (W : Cd) : Prop := ∀ i, i < W.length → c.1 129 (a + i) = nI ((W.getD i (0, 0)).1 + 256 * (W.getD i (0, 0)).2)
theorem cwG_n {c : Hp} {a : Nat} : cwG c a [] := fun i hi => absurd hi (by simp)
theorem cwG_app {c : Hp} {a : Nat} {V W : Cd} (h1 : cwG c a V) (h2 : cwG c (a + V.length) W) : cwG c a (V ++ W) := fun i hi => by
  rw [List.length_append] at hi
  by_cases e : i < V.length
  · rw [gD_l e]; exact h1 i e
  · have := h2 (i - V.length) (by omega)
    rw [show a + V.length + (i - V.length) = a + i by omega] at this
    rw [this, show i = V.length + (i - V.length) by omega, gD_r, Nat.add_sub_cancel_left]
theorem cwG_w {c c1 : Hp} {a : Nat} {W : Cd} (h : cwG c a W) (e : ∀ j, j < a + W.length → c1.1 129 j = c.1 129 j) : cwG c1 a W := fun i hi => by rw [e _ (by omega)]; exact h i hi
theorem cdM_n {m : Hp} {a : Nat} : cdM m a [] := fun i hi => absurd hi (by simp)
theorem cdM_app {m : Hp} {a : Nat} {V W : Cd} (h1 : cdM m a V) (h2 : cdM m (a + V.length) W) : cdM m a (V ++ W) := fun i hi => by
  rw [List.length_append] at hi
  by_cases e : i < V.length
  · rw [gD_l e]; exact h1 i e
  · have := h2 (i - V.length) (by omega)
    rw [show a + V.length + (i - V.length) = a + i by omega] at this
    rw [this.1, this.2, show i = V.length + (i - V.length) by omega, gD_r, Nat.add_sub_cancel_left]
    exact ⟨rfl, rfl⟩
theorem cdM_w {m m1 : Hp} {a : Nat} {W : Cd} (h : cdM m a W) (e : ∀ j, j < a + W.length → m1.1 35 j = m.1 35 j ∧ m1.1 36 j = m.1 36 j) : cdM m1 a W := fun i hi => by
  obtain ⟨e1, e2⟩ := e (a + i) (by omega)
  rw [e1, e2]; exact h i hi
theorem shl8 (v : Nat) : nI v <<< ((8 : Int32) &&& 31) = nI (256 * v) := by
  apply Int32.toBitVec_inj.mp
  rw [show ((8 : Int32) &&& 31) = 8 from by decide, Int32.toBitVec_shiftLeft, show ((8 : Int32).toBitVec.smod 32) = 8#32 from by decide]
  show (BitVec.ofNat 32 v) <<< 8#32 = BitVec.ofNat 32 (256 * v)
  apply BitVec.eq_of_toNat_eq
  simp [Nat.shiftLeft_eq]
  omega
theorem em_w {o v : Nat} (ho : o < 256) : nI o ||| (nI v <<< ((8 : Int32) &&& 31)) = nI (o + 256 * v) := by
  rw [shl8, nI_or, Nat.or_comm, show (256 : Nat) = 2 ^ 8 from rfl, ← Nat.two_pow_add_eq_or_of_lt (i := 8) ho v, Nat.add_comm]
def W129 : Ws := [(129, none), (125, some 11)]
theorem C_emit {c : Hp} {s o v : Nat} (hs : c.1 125 11 = nI s) (h4 : s < 400) (ho : o < 256) : ∃ c1, fX5_emit (nI o) (nI v) c = some c1 ∧ Agr W129 c c1 ∧ c1.1 125 11 = nI (s + 1) ∧ (∀ j, j < s → c1.1 129 j = c.1 129 j) ∧ cwG c1 s [(o, v)] := by
  refine ⟨wI (wI c 129 s (nI (o + 256 * v))) 125 11 (nI (s + 1)), ?_, (Agr.refl.wI rfl).wI rfl, wI_s, fun j hj => ?_, fun i hi => ?_⟩
  · unfold fX5_emit
    rw [hs, if_neg (show ¬ (400 : Int32) ≤ nI s from nI_ge (b := 400) h4 (by decide)), ck_of (nI_inb h4 (by decide)), nI_ix (by omega), em_w ho, lt_q, wI_k (show (125 : Nat) ≠ 129 by decide), hs, nI_1, lt_q]
  · rw [wI_k (by decide), wI_j (by omega)]
  · have : i = 0 := by simp at hi; omega
    subst this
    show (wI (wI c 129 s (nI (o + 256 * v))) 125 11 (nI (s + 1))).1 129 s = nI (o + 256 * v)
    rw [wI_k (by decide), wI_s]
theorem pw_420b {sd k b : Nat} (h : (k == 35 || k == 36) = true) (h1 : 420 * sd ≤ b) (h2 : b < 420 * sd + 420) : pwm sd k b = true := by
  have := pw_420 (sd := sd) (k := k) (j := b - 420 * sd) h (by omega)
  rwa [show 420 * sd + (b - 420 * sd) = b by omega] at this
def W356 : Ws := [(35, none), (36, none), (0, some 49)]
theorem M_emit {m : Hp} {b o v : Nat} (hb : m.1 0 49 = nI b) (h8 : b < 840) : ∃ m1, fX12_emit (nI o) (nI v) m = some m1 ∧ Agr W356 m m1 ∧ m1.1 0 49 = nI (b + 1) ∧ (∀ j, j < b → m1.1 35 j = m.1 35 j ∧ m1.1 36 j = m.1 36 j) ∧ cdM m1 b [(o, v)] ∧ (∀ sd, 420 * sd ≤ b → b < 420 * sd + 420 → AgrM sd m m1) := by
  refine ⟨wI (wI (wI m 35 b (nI o)) 36 b (nI v)) 0 49 (nI (b + 1)), ?_, ((Agr.refl.wI rfl).wI rfl).wI rfl, wI_s, fun j hj => ?_, fun i hi => ?_, fun sd h1 h2 => ((AgrM.refl.wI (pw_420b rfl h1 h2)).wI (pw_420b rfl h1 h2)).wI (pw_0 rfl)⟩
  · unfold fX12_emit
    rw [hb, ck_of (nI_inb h8 (by decide)), nI_ix (by omega), lt_q, wI_k (show (0 : Nat) ≠ 35 by decide), hb, ck_of (nI_inb h8 (by decide)), nI_ix (by omega), lt_q, wI_k (show (0 : Nat) ≠ 36 by decide), wI_k (show (0 : Nat) ≠ 35 by decide), hb, nI_1, lt_q]
  · rw [wI_k (by decide), wI_k (by decide), wI_j (by omega), wI_k (by decide), wI_j (by omega), wI_k (by decide)]
    exact ⟨rfl, rfl⟩
  · have : i = 0 := by simp at hi; omega
    subst this
    show (wI (wI (wI m 35 b (nI o)) 36 b (nI v)) 0 49 (nI (b + 1))).1 35 b = nI o ∧ (wI (wI (wI m 35 b (nI o)) 36 b (nI v)) 0 49 (nI (b + 1))).1 36 b = nI v
    rw [wI_k (by decide), wI_k (by decide), wI_s, wI_k (by decide), wI_s]
    exact ⟨rfl, rfl⟩
/-- signs that wait -/
def clo (x : Nat) : Nat := if x = 5 then 1 else if x = 6 then 1 else if x = 7 then 2 else if x = 8 then 2 else 0
theorem clo_34 : ∀ x, x < 34 → (0 < clo x → 5 ≤ x ∧ x ≤ 8) ∧ clo x ≤ 2 ∧ (x = 14 → clo x = 0) := by decide +kernel
def okS : List Nat → Bool
  | [] => true
  | x :: r => okS r && (decide (x = 14) || decide (5 ≤ x ∧ x ≤ 8 ∧ clo (r.headD 14) < clo x))
def nst : List Nat → Nat
  | [] => 0
  | x :: r => nst r + (if x = 14 then 1 else 0)
def ops : List Nat → Nat
  | [] => 0
  | x :: r => ops r + (if x = 14 then 0 else 1)
theorem okS_h {x : Nat} {r : List Nat} (h : okS (x :: r) = true) : okS r = true ∧ (x = 14 ∨ (5 ≤ x ∧ x ≤ 8 ∧ clo (r.headD 14) < clo x)) := by
  rw [okS, Bool.and_eq_true, Bool.or_eq_true, decide_eq_true_iff, decide_eq_true_iff] at h
  exact h
theorem okS_len : ∀ {st : List Nat}, okS st = true → st.length ≤ 3 * nst st + clo (st.headD 14) ∧ ops st ≤ st.length
  | [], _ => by simp [ops]
  | x :: r, h => by
    obtain ⟨h1, h2⟩ := okS_h h
    obtain ⟨i1, i2⟩ := okS_len h1
    have c2 : clo (r.headD 14) ≤ 2 := by
      cases r with
      | nil => decide
      | cons y r =>
        have := (okS_h h1).2
        exact (clo_34 y (by omega)).2.1
    rw [List.length_cons, nst, ops]
    rcases h2 with rfl | ⟨a, b, d⟩
    · rw [if_pos rfl, if_pos rfl]
      omega
    · rw [if_neg (by omega), if_neg (by omega)]
      show _ ≤ _ + clo x ∧ _
      omega
theorem okS_20 {st : List Nat} (h : okS st = true) (h6 : nst st ≤ 6) : st.length ≤ 20 := by
  have := (okS_len h).1
  have c2 : clo (st.headD 14) ≤ 2 := by
    cases st with
    | nil => decide
    | cons y r =>
      have := (okS_h h).2
      exact (clo_34 y (by omega)).2.1
  omega
def skC : List Nat → Hp → Prop
  | [], _ => True
  | x :: r, h => h.1 146 r.length = nI x ∧ skC r h
def skM : List Nat → Hp → Prop
  | [], _ => True
  | x :: r, h => h.1 37 r.length = nI (kM x) ∧ skM r h
theorem skC_w {h h1 : Hp} : ∀ {st : List Nat}, skC st h → (∀ j, j < st.length → h1.1 146 j = h.1 146 j) → skC st h1
  | [], _, _ => trivial
  | x :: r, hs, e => ⟨by rw [e _ (by simp)]; exact hs.1, skC_w hs.2 fun j hj => e j (by simp; omega)⟩
theorem skM_w {h h1 : Hp} : ∀ {st : List Nat}, skM st h → (∀ j, j < st.length → h1.1 37 j = h.1 37 j) → skM st h1
  | [], _, _ => trivial
  | x :: r, hs, e => ⟨by rw [e _ (by simp)]; exact hs.1, skM_w hs.2 fun j hj => e j (by simp; omega)⟩
def popR (k : Nat) : List Nat → List Nat
  | [] => []
  | x :: r => if k ≤ clo x then popR k r else x :: r
def popE (k : Nat) : List Nat → Cd
  | [] => []
  | x :: r => if k ≤ clo x then (x - 3, 0) :: popE k r else []
theorem pop_p {k : Nat} (hk : 1 ≤ k) : ∀ {st : List Nat}, okS st = true → okS (popR k st) = true ∧ nst (popR k st) = nst st ∧ ops st = ops (popR k st) + (popE k st).length ∧ clo ((popR k st).headD 14) < k
  | [], _ => ⟨rfl, rfl, rfl, by show clo 14 < k; exact hk⟩
  | x :: r, h => by
    obtain ⟨h1, h2⟩ := okS_h h
    by_cases c : k ≤ clo x
    · obtain ⟨a, b, d, e⟩ := pop_p hk h1
      rw [popR, popE, if_pos c, if_pos c, nst, ops, List.length_cons]
      have ne : ¬ x = 14 := fun z => by subst z; exact absurd c (by show ¬ k ≤ clo 14; have : clo 14 = 0 := rfl; omega)
      rw [if_neg ne, if_neg ne]
      exact ⟨a, by omega, by omega, e⟩
    · rw [popR, popE, if_neg c, if_neg c]
      exact ⟨h, rfl, rfl, by show clo x < k; omega⟩
theorem pop_1 {st : List Nat} (h : okS st = true) (h0 : nst st = 0) : popR 1 st = [] := by
  obtain ⟨a, b, d, e⟩ := pop_p (k := 1) (by decide) h
  cases hp : popR 1 st with
  | nil => rfl
  | cons x r =>
    rw [hp] at a b e
    obtain ⟨_, h2⟩ := okS_h a
    rw [nst] at b
    have e' : clo x < 1 := e
    rcases h2 with rfl | ⟨q1, q2, q3⟩
    · rw [if_pos rfl] at b; omega
    · omega
theorem pop_14 {st : List Nat} (h : okS st = true) (h0 : 0 < nst st) : ∃ r, popR 1 st = 14 :: r ∧ okS r = true ∧ nst st = nst r + 1 ∧ ops st = ops r + (popE 1 st).length := by
  obtain ⟨a, b, d, e⟩ := pop_p (k := 1) (by decide) h
  cases hp : popR 1 st with
  | nil => rw [hp] at b; rw [← b] at h0; exact absurd h0 (by simp [nst])
  | cons x r =>
    rw [hp] at a b d e
    obtain ⟨a1, h2⟩ := okS_h a
    have e' : clo x < 1 := e
    rcases h2 with rfl | ⟨q1, q2, q3⟩
    · rw [nst, if_pos rfl] at b
      rw [ops, if_pos rfl] at d
      exact ⟨r, rfl, a1, by omega, by omega⟩
    · omega
/-- depth -/
theorem dep_app : ∀ {V W : Cd} {d : Nat}, dep (V ++ W) d = (dep V d).bind (fun d => dep W d)
  | [], W, d => rfl
  | x :: V, W, d => by
    rw [List.cons_append, dep, dep]
    by_cases c : x.1 < 2
    · rw [if_pos c, if_pos c]
      by_cases c2 : d < 60 ∧ (x.1 = 1 → x.2 < 4)
      · rw [if_pos c2, if_pos c2, dep_app]
      · rw [if_neg c2, if_neg c2]; rfl
    · rw [if_neg c, if_neg c]
      by_cases c2 : x.1 ≤ 5 ∧ 2 ≤ d
      · rw [if_pos c2, if_pos c2, dep_app]
      · rw [if_neg c2, if_neg c2]; rfl
theorem dep_pop {k : Nat} (hk : 1 ≤ k) : ∀ {st : List Nat}, okS st = true → dep (popE k st) (ops st + 1) = some (ops (popR k st) + 1)
  | [], _ => rfl
  | x :: r, h => by
    obtain ⟨h1, h2⟩ := okS_h h
    by_cases c : k ≤ clo x
    · have ne : ¬ x = 14 := fun z => by subst z; exact absurd c (by show ¬ k ≤ clo 14; have : clo 14 = 0 := rfl; omega)
      have b : 5 ≤ x ∧ x ≤ 8 := by omega
      rw [popE, popR, if_pos c, if_pos c, ops, if_neg ne, dep, if_neg (show ¬ (x - 3, 0).1 < 2 by show ¬ x - 3 < 2; omega), if_pos (show (x - 3, 0).1 ≤ 5 ∧ 2 ≤ ops r + 1 + 1 from ⟨by show x - 3 ≤ 5; omega, by omega⟩), Nat.add_sub_cancel]
      exact dep_pop hk h1
    · rw [popE, popR, if_neg c, if_neg c]; rfl
theorem popE_2 {k : Nat} : ∀ {st : List Nat} (y : Nat × Nat), y ∈ popE k st → y.2 = 0
  | [], y, h => by cases h
  | x :: r, y, h => by
    rw [popE] at h
    by_cases c : k ≤ clo x
    · rw [if_pos c, List.mem_cons] at h
      rcases h with rfl | h
      · rfl
      · exact popE_2 y h
    · rw [if_neg c] at h; cases h
