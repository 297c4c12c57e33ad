/-- a run: 0 state, 1 since, 2 left, 3 date, 4 weight, 5 paid, 6 dead, been, harm -/
abbrev Run : Type := Nat → Nat → Int32
def up (R : Run) (k j : Nat) (v : Int32) : Run := fun a b => if a = k ∧ b = j then v else R a b
theorem up_s {R : Run} {k j : Nat} {v : Int32} : up R k j v k j = v := if_pos ⟨rfl, rfl⟩
theorem up_k {R : Run} {k j a b : Nat} {v : Int32} (h : a ≠ k) : up R k j v a b = R a b := if_neg fun x => h x.1
theorem up_j {R : Run} {k j a b : Nat} {v : Int32} (h : b ≠ j) : up R k j v a b = R a b := if_neg fun x => h x.2
theorem up_id {R : Run} {k j : Nat} {v : Int32} (h : R k j = v) : up R k j v = R := by
  funext a b
  show (if _ then _ else _) = _
  by_cases e : a = k ∧ b = j
  · rw [if_pos e, e.1, e.2, h]
  · rw [if_neg e]
theorem up_cm {R : Run} {k j k' j' : Nat} {v v' : Int32} (h : ¬ (k = k' ∧ j = j')) : up (up R k j v) k' j' v' = up (up R k' j' v') k j v := by
  funext a b
  show (if _ then _ else (if _ then _ else _)) = (if _ then _ else (if _ then _ else _))
  by_cases e : a = k ∧ b = j
  · rw [if_pos e, if_neg, if_pos e]
    rintro ⟨e1, e2⟩
    exact h ⟨e.1.symm.trans e1, e.2.symm.trans e2⟩
  · rw [if_neg e]
    by_cases e' : a = k' ∧ b = j'
    · rw [if_pos e', if_neg e]
    · rw [if_neg e', if_neg e]
def cM (k : Nat) : Nat := if k = 6 then 0 else 44 + k
def oM (k : Nat) : Nat := if k = 6 then 69 else 0
def cC (o k : Nat) : Nat := if k = 6 then o else if k < 4 then o + 1 + k else o + 2 + k
def oC (k : Nat) : Nat := if k = 6 then 11 else 0
def dm (N k j : Nat) : Prop := (k < 4 ∧ j < N) ∨ (k = 4 ∧ j < 10) ∨ (k = 5 ∧ j < 60) ∨ (k = 6 ∧ j < 3)
theorem dm_6 {N k j : Nat} (h : dm N k j) : k ≤ 6 := by unfold dm at h; omega
theorem cM_inj {a k b j : Nat} (ha : a ≤ 6) (hk : k ≤ 6) (h : cM a = cM k ∧ b + oM a = j + oM k) : a = k ∧ b = j := by
  unfold cM oM at h
  split at h <;> split at h <;> omega
theorem cC_inj {o a k b j : Nat} (ha : a ≤ 6) (hk : k ≤ 6) (h : cC o a = cC o k ∧ b + oC a = j + oC k) : a = k ∧ b = j := by
  unfold cC oC at h
  repeat' split at h
  all_goals omega
def RM (N : Nat) (R : Run) (h : Hp) : Prop := ∀ k j, dm N k j → h.1 (cM k) (j + oM k) = R k j
def RC (o N : Nat) (R : Run) (h : Hp) : Prop := ∀ k j, dm N k j → h.1 (cC o k) (j + oC k) = R k j
theorem RM_up {N : Nat} {R : Run} {h : Hp} (H : RM N R h) {k j : Nat} (v : Int32) (hd : dm N k j) : RM N (up R k j v) (wI h (cM k) (j + oM k) v) := by
  intro a b hab
  show (if cM a = cM k ∧ b + oM a = j + oM k then v else h.1 (cM a) (b + oM a)) = (if a = k ∧ b = j then v else R a b)
  by_cases e : a = k ∧ b = j
  · rw [if_pos e, if_pos (by rw [e.1, e.2]; exact ⟨rfl, rfl⟩)]
  · rw [if_neg e, if_neg (fun x => e (cM_inj (dm_6 hab) (dm_6 hd) x)), H a b hab]
theorem RC_up {o N : Nat} {R : Run} {h : Hp} (H : RC o N R h) {k j : Nat} (v : Int32) (hd : dm N k j) : RC o N (up R k j v) (wI h (cC o k) (j + oC k) v) := by
  intro a b hab
  show (if cC o a = cC o k ∧ b + oC a = j + oC k then v else h.1 (cC o a) (b + oC a)) = (if a = k ∧ b = j then v else R a b)
  by_cases e : a = k ∧ b = j
  · rw [if_pos e, if_pos (by rw [e.1, e.2]; exact ⟨rfl, rfl⟩)]
  · rw [if_neg e, if_neg (fun x => e (cC_inj (dm_6 hab) (dm_6 hd) x)), H a b hab]
/-- the cells of a run in the model -/
theorem cM_c {N k j : Nat} (h : dm N k j) : (44 ≤ cM k ∧ cM k ≤ 49) ∨ (cM k = 0 ∧ 69 ≤ j + oM k ∧ j + oM k ≤ 71) := by
  unfold dm at h
  unfold cM oM
  split <;> omega
theorem cC_c {o N k j : Nat} (h : dm N k j) : (o + 1 ≤ cC o k ∧ cC o k ≤ o + 7 ∧ cC o k ≠ o + 5) ∨ (cC o k = o ∧ 11 ≤ j + oC k ∧ j + oC k ≤ 13) := by
  unfold dm at h
  unfold cC oC
  repeat' split
  all_goals omega
theorem RM_w {N : Nat} {R : Run} {h : Hp} (H : RM N R h) {a b : Nat} {v : Int32} (ha : 50 ≤ a ∨ (a = 0 ∧ ¬ (69 ≤ b ∧ b ≤ 71))) : RM N R (wI h a b v) := by
  intro k j hd
  have := cM_c hd
  show (if cM k = a ∧ j + oM k = b then v else h.1 (cM k) (j + oM k)) = _
  rw [if_neg (by omega), H k j hd]
theorem RM_agr {N : Nat} {R : Run} {h h' : Hp} {W : Ws} (H : RM N R h) (e : Agr W h h') (hw : djw [(44, none), (45, none), (46, none), (47, none), (48, none), (49, none), (0, some 69), (0, some 70), (0, some 71)] W = true) : RM N R h' := by
  intro k j hd
  rw [(e (cM k) (j + oM k) (djw_wm hw ?_)).1, H k j hd]
  rcases cM_c hd with h1 | h1
  · have : cM k = 44 ∨ cM k = 45 ∨ cM k = 46 ∨ cM k = 47 ∨ cM k = 48 ∨ cM k = 49 := by omega
    rcases this with h | h | h | h | h | h <;> rw [h] <;> rfl
  · have : j + oM k = 69 ∨ j + oM k = 70 ∨ j + oM k = 71 := by omega
    rw [h1.1]
    rcases this with h | h | h <;> rw [h] <;> rfl
/-- what the model holds in a run: the run, and the latest look -/
def KM (N : Nat) (R : Run) (ls : List Nat) (h : Hp) : Prop := RM N R h ∧ h.1 0 73 = nI ls.length ∧ ∀ i, i < ls.length → h.1 50 i = nI (ls.getD i 0)
def KC (o N : Nat) (R : Run) (ls : List Nat) (tr : Bool) (h : Hp) : Prop := RC o N R h ∧ h.1 o 10 = nI ls.length ∧ (∀ i, i < ls.length → h.1 (o + 5) i = nI (ls.getD i 0)) ∧ h.1 o 14 = b2 tr
theorem KM_up {N : Nat} {R : Run} {ls : List Nat} {h : Hp} (H : KM N R ls h) {k j : Nat} (v : Int32) (hd : dm N k j) : KM N (up R k j v) ls (wI h (cM k) (j + oM k) v) := by
  have := cM_c hd
  refine ⟨RM_up H.1 v hd, ?_, fun i hi => ?_⟩
  · rw [wI_r, if_neg (by omega)]; exact H.2.1
  · rw [wI_r, if_neg (by omega)]; exact H.2.2 i hi
theorem KC_up {o N : Nat} {R : Run} {ls : List Nat} {tr : Bool} {h : Hp} (H : KC o N R ls tr h) {k j : Nat} (v : Int32) (hd : dm N k j) : KC o N (up R k j v) ls tr (wI h (cC o k) (j + oC k) v) := by
  have := cC_c (o := o) hd
  refine ⟨RC_up H.1 v hd, ?_, fun i hi => ?_, ?_⟩
  · rw [wI_r, if_neg (by omega)]; exact H.2.1
  · rw [wI_r, if_neg (by omega)]; exact H.2.2.1 i hi
  · rw [wI_r, if_neg (by omega)]; exact H.2.2.2
def EM : Ws := [(38, none), (39, none), (0, some 56), (0, some 57), (0, some 58)]
def EC : Ws := [(148, none), (149, none), (147, some 5), (147, some 6), (147, some 7)]
def RWM : Ws := [(38, none), (39, none), (0, some 56), (0, some 57), (0, some 58), (44, none), (45, none), (46, none), (47, none), (48, none), (49, none), (50, none), (0, some 69), (0, some 70), (0, some 71), (0, some 73)]
theorem KM_agr {N : Nat} {R : Run} {ls : List Nat} {h h' : Hp} {W : Ws} (H : KM N R ls h) (e : Agr W h h') (hw : djw [(44, none), (45, none), (46, none), (47, none), (48, none), (49, none), (0, some 69), (0, some 70), (0, some 71), (50, none), (0, some 73)] W = true) : KM N R ls h' := by
  refine ⟨RM_agr H.1 e ?_, ?_, fun i hi => ?_⟩
  · unfold djw at hw ⊢
    rw [List.all_eq_true] at hw ⊢
    intro x hx
    refine hw x ?_
    simp only [List.mem_cons, List.not_mem_nil, or_false] at hx ⊢
    rcases hx with h | h | h | h | h | h | h | h | h <;> simp [h]
  · rw [e.i 0 73 (djw_wm hw rfl)]; exact H.2.1
  · rw [e.i 50 i (djw_wm hw rfl)]; exact H.2.2 i hi
/-- nothing but a course, and what reckoning needs, has changed -/
def CF (o : Nat) (h h' : Hp) : Prop := ∀ k j, ¬ (o ≤ k ∧ k ≤ o + 7) → wm EC k j = false → h'.1 k j = h.1 k j ∧ h'.2 k j = h.2 k j
theorem CF.refl {o : Nat} {h : Hp} : CF o h h := fun _ _ _ _ => ⟨rfl, rfl⟩
theorem CF.trans {o : Nat} {h h1 h2 : Hp} (a : CF o h h1) (b : CF o h1 h2) : CF o h h2 := fun k j x w => ⟨(b k j x w).1.trans (a k j x w).1, (b k j x w).2.trans (a k j x w).2⟩
theorem CF.wI {o : Nat} {h h1 : Hp} (a : CF o h h1) {k j : Nat} {v : Int32} (hk : o ≤ k ∧ k ≤ o + 7) : CF o h (wI h1 k j v) := fun a' b x w => by
  refine ⟨?_, (a a' b x w).2⟩
  rw [wI_k, (a a' b x w).1]
  rintro rfl
  exact x hk
theorem CF.ev {o : Nat} {h h1 h2 : Hp} (a : CF o h h1) (b : Agr EC h1 h2) : CF o h h2 := fun k j x w => ⟨(b k j w).1.trans (a k j x w).1, (b k j w).2.trans (a k j x w).2⟩
theorem SC_o {o k j : Nat} (ho : isC o) (hk : o ≤ k ∧ k ≤ o + 7) : wm SC k j = true := by
  have h1 : 182 ≤ k ∧ k ≤ 205 := by rcases ho with h | h | h <;> omega
  have key : ∀ x, x < 24 → wm SC (182 + x) j = true := by
    intro x hx
    match x, hx with
    | 0, _ => rfl
    | 1, _ => rfl
    | 2, _ => rfl
    | 3, _ => rfl
    | 4, _ => rfl
    | 5, _ => rfl
    | 6, _ => rfl
    | 7, _ => rfl
    | 8, _ => rfl
    | 9, _ => rfl
    | 10, _ => rfl
    | 11, _ => rfl
    | 12, _ => rfl
    | 13, _ => rfl
    | 14, _ => rfl
    | 15, _ => rfl
    | 16, _ => rfl
    | 17, _ => rfl
    | 18, _ => rfl
    | 19, _ => rfl
    | 20, _ => rfl
    | 21, _ => rfl
    | 22, _ => rfl
    | 23, _ => rfl
    | n + 24, h => exact absurd h (by omega)
  have := key (k - 182) (by omega)
  rwa [show 182 + (k - 182) = k by omega] at this
theorem CF.agr {o : Nat} {h h' : Hp} (a : CF o h h') (ho : isC o) : Agr SC h h' := fun k j w => by
  refine a k j ?_ ?_
  · intro hk
    rw [SC_o ho hk] at w; cases w
  · by_cases he : wm EC k j = true
    · rw [sbw_wm (show sbw EC SC = true from rfl) he] at w; cases w
    · exact Bool.eq_false_iff.mpr he
theorem isC_ge {o : Nat} (ho : isC o) : 182 ≤ o := by rcases ho with h | h | h <;> omega
theorem EC_lt {k j : Nat} (h : 182 ≤ k) : wm EC k j = false := by
  rw [Bool.eq_false_iff]
  intro hw
  obtain ⟨e, he, h1, _⟩ := wm_el hw
  simp only [EC, List.mem_cons, List.not_mem_nil, or_false] at he
  rcases he with rfl | rfl | rfl | rfl | rfl <;> simp only at h1 <;> omega
theorem KC_ev {o N : Nat} {R : Run} {ls : List Nat} {tr : Bool} {h h' : Hp} (H : KC o N R ls tr h) (ho : isC o) (e : Agr EC h h') : KC o N R ls tr h' := by
  have h0 := isC_ge ho
  have q : ∀ k j, o ≤ k → h'.1 k j = h.1 k j := fun k j hk => e.i k j (EC_lt (by omega))
  refine ⟨fun k j hd => ?_, ?_, fun i hi => ?_, ?_⟩
  · have := cC_c (o := o) hd
    rw [q _ _ (by omega)]; exact H.1 k j hd
  · rw [q _ _ (by omega)]; exact H.2.1
  · rw [q _ _ (by omega)]; exact H.2.2.1 i hi
  · rw [q _ _ (by omega)]; exact H.2.2.2
theorem KC_cf {o o' N : Nat} {R : Run} {ls : List Nat} {tr : Bool} {h h' : Hp} (H : KC o N R ls tr h) (ho : isC o) (ho' : isC o') (hne : o ≠ o') (e : CF o' h h') : KC o N R ls tr h' := by
  have h0 := isC_ge ho
  have h8 : o + 8 ≤ o' ∨ o' + 8 ≤ o := by rcases ho with h | h | h <;> rcases ho' with h' | h' | h' <;> omega
  have q : ∀ k j, o ≤ k → k ≤ o + 7 → h'.1 k j = h.1 k j := fun k j hk hk' => (e k j (by omega) (EC_lt (by omega))).1
  refine ⟨fun k j hd => ?_, ?_, fun i hi => ?_, ?_⟩
  · have := cC_c (o := o) hd
    rw [q _ _ (by omega) (by omega)]; exact H.1 k j hd
  · rw [q _ _ (by omega) (by omega)]; exact H.2.1
  · rw [q _ _ (by omega) (by omega)]; exact H.2.2.1 i hi
  · rw [q _ _ (by omega) (by omega)]; exact H.2.2.2
theorem KM.st {N : Nat} {R : Run} {ls : List Nat} {h : Hp} (H : KM N R ls h) {l : Nat} (hl : l < N) : h.1 44 l = R 0 l := H.1 0 l (.inl ⟨by decide, hl⟩)
theorem KC.st {o N : Nat} {R : Run} {ls : List Nat} {tr : Bool} {h : Hp} (H : KC o N R ls tr h) {l : Nat} (hl : l < N) : h.1 (o + 1) l = R 0 l := H.1 0 l (.inl ⟨by decide, hl⟩)
theorem KM.st_u {N : Nat} {R : Run} {ls : List Nat} {h : Hp} (H : KM N R ls h) {l : Nat} (hl : l < N) (v : Int32) : KM N (up R 0 l v) ls (wI h 44 l v) := KM_up H (k := 0) (j := l) v (.inl ⟨by decide, hl⟩)
theorem KC.st_u {o N : Nat} {R : Run} {ls : List Nat} {tr : Bool} {h : Hp} (H : KC o N R ls tr h) {l : Nat} (hl : l < N) (v : Int32) : KC o N (up R 0 l v) ls tr (wI h (o + 1) l v) := KC_up H (k := 0) (j := l) v (.inl ⟨by decide, hl⟩)
theorem KM.si {N : Nat} {R : Run} {ls : List Nat} {h : Hp} (H : KM N R ls h) {l : Nat} (hl : l < N) : h.1 45 l = R 1 l := H.1 1 l (.inl ⟨by decide, hl⟩)
theorem KC.si {o N : Nat} {R : Run} {ls : List Nat} {tr : Bool} {h : Hp} (H : KC o N R ls tr h) {l : Nat} (hl : l < N) : h.1 (o + 2) l = R 1 l := H.1 1 l (.inl ⟨by decide, hl⟩)
theorem KM.si_u {N : Nat} {R : Run} {ls : List Nat} {h : Hp} (H : KM N R ls h) {l : Nat} (hl : l < N) (v : Int32) : KM N (up R 1 l v) ls (wI h 45 l v) := KM_up H (k := 1) (j := l) v (.inl ⟨by decide, hl⟩)
theorem KC.si_u {o N : Nat} {R : Run} {ls : List Nat} {tr : Bool} {h : Hp} (H : KC o N R ls tr h) {l : Nat} (hl : l < N) (v : Int32) : KC o N (up R 1 l v) ls tr (wI h (o + 2) l v) := KC_up H (k := 1) (j := l) v (.inl ⟨by decide, hl⟩)
theorem KM.lf {N : Nat} {R : Run} {ls : List Nat} {h : Hp} (H : KM N R ls h) {l : Nat} (hl : l < N) : h.1 46 l = R 2 l := H.1 2 l (.inl ⟨by decide, hl⟩)
theorem KC.lf {o N : Nat} {R : Run} {ls : List Nat} {tr : Bool} {h : Hp} (H : KC o N R ls tr h) {l : Nat} (hl : l < N) : h.1 (o + 3) l = R 2 l := H.1 2 l (.inl ⟨by decide, hl⟩)
theorem KM.lf_u {N : Nat} {R : Run} {ls : List Nat} {h : Hp} (H : KM N R ls h) {l : Nat} (hl : l < N) (v : Int32) : KM N (up R 2 l v) ls (wI h 46 l v) := KM_up H (k := 2) (j := l) v (.inl ⟨by decide, hl⟩)
theorem KC.lf_u {o N : Nat} {R : Run} {ls : List Nat} {tr : Bool} {h : Hp} (H : KC o N R ls tr h) {l : Nat} (hl : l < N) (v : Int32) : KC o N (up R 2 l v) ls tr (wI h (o + 3) l v) := KC_up H (k := 2) (j := l) v (.inl ⟨by decide, hl⟩)
theorem KM.da {N : Nat} {R : Run} {ls : List Nat} {h : Hp} (H : KM N R ls h) {l : Nat} (hl : l < N) : h.1 47 l = R 3 l := H.1 3 l (.inl ⟨by decide, hl⟩)
theorem KC.da {o N : Nat} {R : Run} {ls : List Nat} {tr : Bool} {h : Hp} (H : KC o N R ls tr h) {l : Nat} (hl : l < N) : h.1 (o + 4) l = R 3 l := H.1 3 l (.inl ⟨by decide, hl⟩)
theorem KM.da_u {N : Nat} {R : Run} {ls : List Nat} {h : Hp} (H : KM N R ls h) {l : Nat} (hl : l < N) (v : Int32) : KM N (up R 3 l v) ls (wI h 47 l v) := KM_up H (k := 3) (j := l) v (.inl ⟨by decide, hl⟩)
theorem KC.da_u {o N : Nat} {R : Run} {ls : List Nat} {tr : Bool} {h : Hp} (H : KC o N R ls tr h) {l : Nat} (hl : l < N) (v : Int32) : KC o N (up R 3 l v) ls tr (wI h (o + 4) l v) := KC_up H (k := 3) (j := l) v (.inl ⟨by decide, hl⟩)
theorem KM.we {N : Nat} {R : Run} {ls : List Nat} {h : Hp} (H : KM N R ls h) {l : Nat} (hl : l < 10) : h.1 48 l = R 4 l := H.1 4 l (.inr (.inl ⟨rfl, hl⟩))
theorem KC.we {o N : Nat} {R : Run} {ls : List Nat} {tr : Bool} {h : Hp} (H : KC o N R ls tr h) {l : Nat} (hl : l < 10) : h.1 (o + 6) l = R 4 l := H.1 4 l (.inr (.inl ⟨rfl, hl⟩))
theorem KM.we_u {N : Nat} {R : Run} {ls : List Nat} {h : Hp} (H : KM N R ls h) {l : Nat} (hl : l < 10) (v : Int32) : KM N (up R 4 l v) ls (wI h 48 l v) := KM_up H (k := 4) (j := l) v (.inr (.inl ⟨rfl, hl⟩))
theorem KC.we_u {o N : Nat} {R : Run} {ls : List Nat} {tr : Bool} {h : Hp} (H : KC o N R ls tr h) {l : Nat} (hl : l < 10) (v : Int32) : KC o N (up R 4 l v) ls tr (wI h (o + 6) l v) := KC_up H (k := 4) (j := l) v (.inr (.inl ⟨rfl, hl⟩))
theorem KM.pa {N : Nat} {R : Run} {ls : List Nat} {h : Hp} (H : KM N R ls h) {l : Nat} (hl : l < 60) : h.1 49 l = R 5 l := H.1 5 l (.inr (.inr (.inl ⟨rfl, hl⟩)))
theorem KC.pa {o N : Nat} {R : Run} {ls : List Nat} {tr : Bool} {h : Hp} (H : KC o N R ls tr h) {l : Nat} (hl : l < 60) : h.1 (o + 7) l = R 5 l := H.1 5 l (.inr (.inr (.inl ⟨rfl, hl⟩)))
theorem KM.pa_u {N : Nat} {R : Run} {ls : List Nat} {h : Hp} (H : KM N R ls h) {l : Nat} (hl : l < 60) (v : Int32) : KM N (up R 5 l v) ls (wI h 49 l v) := KM_up H (k := 5) (j := l) v (.inr (.inr (.inl ⟨rfl, hl⟩)))
theorem KC.pa_u {o N : Nat} {R : Run} {ls : List Nat} {tr : Bool} {h : Hp} (H : KC o N R ls tr h) {l : Nat} (hl : l < 60) (v : Int32) : KC o N (up R 5 l v) ls tr (wI h (o + 7) l v) := KC_up H (k := 5) (j := l) v (.inr (.inr (.inl ⟨rfl, hl⟩)))
theorem KM.de {N : Nat} {R : Run} {ls : List Nat} {h : Hp} (H : KM N R ls h) : h.1 0 69 = R 6 0 := H.1 6 0 (.inr (.inr (.inr ⟨rfl, by decide⟩)))
theorem KC.de {o N : Nat} {R : Run} {ls : List Nat} {tr : Bool} {h : Hp} (H : KC o N R ls tr h) : h.1 o 11 = R 6 0 := H.1 6 0 (.inr (.inr (.inr ⟨rfl, by decide⟩)))
theorem KM.de_u {N : Nat} {R : Run} {ls : List Nat} {h : Hp} (H : KM N R ls h) (v : Int32) : KM N (up R 6 0 v) ls (wI h 0 69 v) := KM_up H (k := 6) (j := 0) v (.inr (.inr (.inr ⟨rfl, by decide⟩)))
theorem KC.de_u {o N : Nat} {R : Run} {ls : List Nat} {tr : Bool} {h : Hp} (H : KC o N R ls tr h) (v : Int32) : KC o N (up R 6 0 v) ls tr (wI h o 11 v) := KC_up H (k := 6) (j := 0) v (.inr (.inr (.inr ⟨rfl, by decide⟩)))
theorem KM.be {N : Nat} {R : Run} {ls : List Nat} {h : Hp} (H : KM N R ls h) : h.1 0 70 = R 6 1 := H.1 6 1 (.inr (.inr (.inr ⟨rfl, by decide⟩)))
theorem KC.be {o N : Nat} {R : Run} {ls : List Nat} {tr : Bool} {h : Hp} (H : KC o N R ls tr h) : h.1 o 12 = R 6 1 := H.1 6 1 (.inr (.inr (.inr ⟨rfl, by decide⟩)))
theorem KM.be_u {N : Nat} {R : Run} {ls : List Nat} {h : Hp} (H : KM N R ls h) (v : Int32) : KM N (up R 6 1 v) ls (wI h 0 70 v) := KM_up H (k := 6) (j := 1) v (.inr (.inr (.inr ⟨rfl, by decide⟩)))
theorem KC.be_u {o N : Nat} {R : Run} {ls : List Nat} {tr : Bool} {h : Hp} (H : KC o N R ls tr h) (v : Int32) : KC o N (up R 6 1 v) ls tr (wI h o 12 v) := KC_up H (k := 6) (j := 1) v (.inr (.inr (.inr ⟨rfl, by decide⟩)))
theorem KM.ha {N : Nat} {R : Run} {ls : List Nat} {h : Hp} (H : KM N R ls h) : h.1 0 71 = R 6 2 := H.1 6 2 (.inr (.inr (.inr ⟨rfl, by decide⟩)))
theorem KC.ha {o N : Nat} {R : Run} {ls : List Nat} {tr : Bool} {h : Hp} (H : KC o N R ls tr h) : h.1 o 13 = R 6 2 := H.1 6 2 (.inr (.inr (.inr ⟨rfl, by decide⟩)))
theorem KM.ha_u {N : Nat} {R : Run} {ls : List Nat} {h : Hp} (H : KM N R ls h) (v : Int32) : KM N (up R 6 2 v) ls (wI h 0 71 v) := KM_up H (k := 6) (j := 2) v (.inr (.inr (.inr ⟨rfl, by decide⟩)))
theorem KC.ha_u {o N : Nat} {R : Run} {ls : List Nat} {tr : Bool} {h : Hp} (H : KC o N R ls tr h) (v : Int32) : KC o N (up R 6 2 v) ls tr (wI h o 13 v) := KC_up H (k := 6) (j := 2) v (.inr (.inr (.inr ⟨rfl, by decide⟩)))
/-- what a book says of years: whether a letter's condition holds, who dies, fees, goods -/
abbrev Sem : Type := (Nat → Nat → Int32 → Int32 → Bool) × (Nat → Nat → Int32) × (Nat → Nat → Int32) × (Nat → Nat → Int32 → Int32)
def XM (S : Sem) (m : Hp) : Prop := ∀ h, Agr SM m h →
  (∀ l y d b, l < nL m → y < 60 → Ok (fX12_holdsFor (nI l) (nI y) d b h) (fun p => p.1 = b2 (S.1 l y d b) ∧ Agr EM h p.2)) ∧
  (∀ p y, p < nP m → y < 60 → Ok (fX12_diesBy (nI p) (nI y) h) (fun r => r.1 = S.2.1 p y ∧ Agr EM h r.2)) ∧
  (∀ l y, l < nL m → y < 60 → Ok (fX12_feeOf (nI l) (nI y) h) (fun r => r.1 = S.2.2.1 l y ∧ Agr EM h r.2)) ∧
  (∀ l y t, l < nL m → y < 60 → Ok (fX12_goodOf (nI l) (nI y) t h) (fun r => r.1 = S.2.2.2 l y t ∧ Agr EM h r.2))
def XC (S : Sem) (c m : Hp) : Prop := ∀ h, Agr SC c h →
  (∀ l y d b, l < nL m → y < 60 → Ok (fX6_holds (115 + l) (nI y) d b h) (fun p => p.1 = b2 (S.1 l y d b) ∧ Agr EC h p.2)) ∧
  (∀ p y, p < nP m → y < 60 → fX6_diesOf (nI p) (nI y) h = some (S.2.1 p y, h)) ∧
  (∀ l y, l < nL m → y < 60 → fX6_feeOf (shI m l) (nI y) h = some (S.2.2.1 l y, h)) ∧
  (∀ l y t, l < nL m → y < 60 → Ok (fX6_gainIn (nI y) (shI m l) t h) (fun r => r.1 = S.2.2.2 l y t ∧ Agr EC h r.2))
/-- a letter comes to an end -/
def becS (R : Run) (l : Nat) (w y : Int32) : Run := up (up R 0 l w) 1 l y
def opnS (R : Run) (l : Nat) (w y : Int32) : Run := up (becS R l w y) 6 1 (R 6 1 ||| ((1 : Int32) <<< (nI l &&& 31)))
theorem M_becomes {N : Nat} {R : Run} {ls : List Nat} {h : Hp} (H : KM N R ls h) (hN : N ≤ 10) {l : Nat} (hl : l < N) (w y : Int32) (h1 : ¬ w = 1) (h2 : ¬ w = 2) : Ok (fX12_becomes (nI l) w y h) (fun h' => KM N (becS R l w y) ls h' ∧ Agr RWM h h') := by
  simp only [fX12_becomes, ck_of (nI_inb (n := l) (N := 10) (by omega) (by decide)), nI_ix (show l < 2 ^ 31 by omega), lt_e, if_neg h1, if_neg h2, ok_some]
  exact ⟨(H.st_u hl w).si_u hl y, (Agr.refl.wI rfl).wI rfl⟩
theorem M_becomesO {N : Nat} {R : Run} {ls : List Nat} {h : Hp} (H : KM N R ls h) (hN : N ≤ 10) {l : Nat} (hl : l < N) (w y : Int32) (h1 : w = 1 ∨ w = 2) : Ok (fX12_becomes (nI l) w y h) (fun h' => KM N (opnS R l w y) ls h' ∧ Agr RWM h h') := by
  have H2 := (H.st_u hl w).si_u hl y
  have e : (wI (wI h 44 l w) 45 l y).1 0 70 = R 6 1 := H2.be
  have fin : Ok (bX12_becomes_24 (nI l) (wI (wI h 44 l w) 45 l y)) (fun h' => KM N (opnS R l w y) ls h' ∧ Agr RWM h h') := by
    simp only [bX12_becomes_24, lt_e, ok_some, e]
    exact ⟨H2.be_u _, ((Agr.refl.wI rfl).wI rfl).wI rfl⟩
  simp only [fX12_becomes, ck_of (nI_inb (n := l) (N := 10) (by omega) (by decide)), nI_ix (show l < 2 ^ 31 by omega), lt_e]
  rcases h1 with rfl | rfl
  · exact fin
  · exact fin
theorem C_endAs {o N : Nat} {R : Run} {ls : List Nat} {tr : Bool} {h : Hp} (H : KC o N R ls tr h) (hN : N ≤ 10) {l : Nat} (hl : l < N) (w y : Int32) : Ok (fX1_endAs o w (nI l) y h) (fun h' => KC o N (becS R l w y) ls tr h' ∧ CF o h h') := by
  simp only [fX1_endAs, ck_of (nI_inb (n := l) (N := 10) (by omega) (by decide)), nI_ix (show l < 2 ^ 31 by omega), lt_e, ok_some]
  exact ⟨(H.st_u hl w).si_u hl y, (CF.refl.wI (by omega)).wI (by omega)⟩
/-- a flood -/
def floF (m : Hp) (s y : Int32) (l : Nat) (R : Run) : Run := if R 0 l = 0 ∧ shI m l = s then becS R l 4 y else R
def floS (m : Hp) (s y : Int32) (R : Run) : Run := forN (nL m) (floF m s y) R
theorem M_floods {c m h : Hp} {R : Run} {ls : List Nat} (D : RD0 c m) (e : Agr SM m h) (H : KM (nL m) R ls h) (s y : Int32) : Ok (fX12_floods s y h) (fun h' => KM (nL m) (floS m s y R) ls h' ∧ Agr RWM h h') := by
  have D' := D
  obtain ⟨⟨d1, d2⟩, _, _, _, ⟨s1, s2, s3⟩, _⟩ := D'
  refine up0 (fun f i h => lX12_floods_2 f s y (nI i) h) (nL m) (by omega) (fun i h' => KM (nL m) (forN i (floF m s y) R) ls h' ∧ Agr RWM h h') h ⟨H, .refl⟩ ?_ ?_
  · rintro f h' ⟨H', a⟩
    have e' : Agr SM m h' := e.trans (a.sub rfl)
    simp only [lX12_floods_2, bX12_floods_2, e'.i 0 18 rfl, d2, ck_of (nI_inb d1 (by decide)), nI_ix (show lv m < 2 ^ 31 by omega), e'.i 17 _ rfl, s2, if_pos (nI_le (Nat.le_refl (nL m)) (show nL m < 2 ^ 31 by omega)), ok_some]
    exact ⟨H', a⟩
  · rintro f l h' hl ⟨H', a⟩ K
    have e' : Agr SM m h' := e.trans (a.sub rfl)
    simp only [lX12_floods_2, bX12_floods_2, bX12_floods_49, e'.i 0 18 rfl, d2, ck_of (nI_inb d1 (by decide)), nI_ix (show lv m < 2 ^ 31 by omega), e'.i 17 _ rfl, s2, if_neg (nI_ge hl (show nL m < 2 ^ 31 by omega)), ck_of (nI_inb (n := l) (N := 10) (by omega) (by decide)), nI_ix (show l < 2 ^ 31 by omega), H'.st hl, e10, ck_of (nI_inb (n := 10 * lv m + l) (N := 20) (by omega) (by decide)), nI_ix (show 10 * lv m + l < 2 ^ 31 by omega), e'.i 20 _ rfl, lt_e, nI_1, ok_bv]
    have nx : ∀ R', R' = forN (l + 1) (floF m s y) R → ∀ h'', KM (nL m) R' ls h'' → Agr RWM h h'' → Ok (lX12_floods_2 f s y (nI (l + 1)) h'') (fun h' => KM (nL m) (floS m s y R) ls h' ∧ Agr RWM h h') := by
      rintro R' rfl h'' H'' a''
      exact K h'' ⟨H'', a''⟩
    by_cases h0 : forN l (floF m s y) R 0 l = 0
    · rw [if_pos h0]
      by_cases h1 : m.1 20 (10 * lv m + l) = s
      · rw [if_pos h1, ok_bv]
        refine (M_becomes H' s1 hl 4 y (by decide) (by decide)).mono ?_
        rintro h2 ⟨H2, a2⟩
        refine nx _ ?_ h2 H2 (a.trans a2)
        rw [forN_s]; unfold floF
        rw [if_pos ⟨h0, h1⟩]
      · rw [if_neg h1]
        refine nx _ ?_ h' H' a
        rw [forN_s]; unfold floF
        rw [if_neg fun x => h1 x.2]
    · rw [if_neg h0]
      refine nx _ ?_ h' H' a
      rw [forN_s]; unfold floF
      rw [if_neg fun x => h0 x.1]
theorem SC_l {c h : Hp} (e : Agr SC c h) {l j : Nat} (hl : l < 10) : h.1 (115 + l) j = c.1 (115 + l) j := e.i _ _ (djw_wm (show djw PDc SC = true from rfl) (PDc_l hl))
theorem C_floods {c m h : Hp} {o : Nat} {R : Run} {ls : List Nat} {tr : Bool} (D : RD0 c m) (ho : isC o) (e : Agr SC c h) (H : KC o (nL m) R ls tr h) (s y : Int32) : Ok (fX1_floodShelf o s y h) (fun h' => KC o (nL m) (floS m s y R) ls tr h' ∧ CF o h h') := by
  have D' := D
  obtain ⟨⟨d1, d2⟩, _, _, _, ⟨s1, s2, s3⟩, _, d7, _⟩ := D'
  refine up0 (fun f i h => lX1_floodShelf_2 o f s y (nI i) h) (nL m) (by omega) (fun i h' => KC o (nL m) (forN i (floF m s y) R) ls tr h' ∧ CF o h h') h ⟨H, .refl⟩ ?_ ?_
  · rintro f h' ⟨H', a⟩
    have e' : Agr SC c h' := e.trans (a.agr ho)
    simp only [lX1_floodShelf_2, bX1_floodShelf_2, e'.i 108 9 rfl, s3, if_pos (nI_le (Nat.le_refl (nL m)) (show nL m < 2 ^ 31 by omega)), ok_some]
    exact ⟨H', a⟩
  · rintro f l h' hl ⟨H', a⟩ K
    have e' : Agr SC c h' := e.trans (a.agr ho)
    simp only [lX1_floodShelf_2, bX1_floodShelf_2, bX1_floodShelf_45, e'.i 108 9 rfl, s3, if_neg (nI_ge hl (show nL m < 2 ^ 31 by omega)), ck_of (nI_inb (n := l) (N := 10) (by omega) (by decide)), nI_ix (show l < 2 ^ 31 by omega), H'.st hl, SC_l e' (show l < 10 by omega), (d7 l hl).2.2.1, lt_e, nI_1]
    have nx : ∀ R', R' = forN (l + 1) (floF m s y) R → ∀ h'', KC o (nL m) R' ls tr h'' → CF o h h'' → Ok (lX1_floodShelf_2 o f s y (nI (l + 1)) h'') (fun h' => KC o (nL m) (floS m s y R) ls tr h' ∧ CF o h h') := by
      rintro R' rfl h'' H'' a''
      exact K h'' ⟨H'', a''⟩
    by_cases h0 : forN l (floF m s y) R 0 l = 0
    · rw [if_pos h0]
      by_cases h1 : shI m l = s
      · rw [if_pos h1, ok_bv]
        refine (C_endAs H' s1 hl 4 y).mono ?_
        rintro h2 ⟨H2, a2⟩
        refine nx _ ?_ h2 H2 (a.trans a2)
        rw [forN_s]; unfold floF
        rw [if_pos ⟨h0, h1⟩]
      · rw [if_neg h1]
        refine nx _ ?_ h' H' a
        rw [forN_s]; unfold floF
        rw [if_neg fun x => h1 x.2]
    · rw [if_neg h0]
      refine nx _ ?_ h' H' a
      rw [forN_s]; unfold floF
      rw [if_neg fun x => h0 x.1]
