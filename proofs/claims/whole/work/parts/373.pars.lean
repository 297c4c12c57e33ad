/-- reading: frames -/
def PWc : Ws := [(125, none), (126, none), (127, none), (129, none), (130, none), (131, none), (132, none), (133, none), (134, none), (135, none), (136, none), (137, none), (138, none), (139, none), (140, none), (141, none), (142, some 6), (142, some 7), (142, some 8), (142, some 9), (143, none), (144, none), (145, none), (146, none)]
def PWm : Ws := [(0, some 11), (0, some 12), (0, some 13), (0, some 14), (0, some 15), (0, some 16), (0, some 20), (0, some 42), (0, some 49), (0, some 53), (8, none), (9, none), (10, none), (37, none)]
def pwm (sd k j : Nat) : Bool := wm PWm k j || ((k == 11 || (k == 13 || (k == 14 || (k == 17 || k == 25)))) && decide (j = sd)) || ((k == 12 || (k == 18 || (k == 19 || (k == 20 || (k == 21 || (k == 22 || (k == 23 || k == 24))))))) && decide (10 * sd ≤ j ∧ j < 10 * sd + 10)) || ((k == 15 || k == 16) && decide (12 * sd ≤ j ∧ j < 12 * sd + 12)) || ((k == 26 || (k == 27 || k == 28)) && decide (3 * sd ≤ j ∧ j < 3 * sd + 3)) || ((k == 29 || (k == 30 || (k == 31 || (k == 32 || (k == 33 || k == 34))))) && decide (150 * sd ≤ j ∧ j < 150 * sd + 150)) || ((k == 35 || k == 36) && decide (420 * sd ≤ j ∧ j < 420 * sd + 420))
def AgrM (sd : Nat) (h h' : Hp) : Prop := ∀ k j, pwm sd k j = false → h'.1 k j = h.1 k j ∧ h'.2 k j = h.2 k j
theorem AgrM.refl {sd : Nat} {h : Hp} : AgrM sd h h := fun _ _ _ => ⟨rfl, rfl⟩
theorem AgrM.trans {sd : Nat} {h h1 h2 : Hp} (a : AgrM sd h h1) (b : AgrM sd h1 h2) : AgrM sd h h2 := fun k j w => ⟨(b k j w).1.trans (a k j w).1, (b k j w).2.trans (a k j w).2⟩
theorem AgrM.wI {sd : Nat} {h h1 : Hp} (a : AgrM sd h h1) {k j : Nat} {v : Int32} (hk : pwm sd k j = true) : AgrM sd h (wI h1 k j v) := fun a' b w => by
  refine ⟨?_, (a a' b w).2⟩
  show (if a' = k ∧ b = j then v else h1.1 a' b) = _
  rw [if_neg, (a a' b w).1]
  rintro ⟨rfl, rfl⟩
  rw [hk] at w; cases w
theorem AgrM.wL {sd : Nat} {h h1 : Hp} (a : AgrM sd h h1) {k j : Nat} {v : Int64} (hk : pwm sd k j = true) : AgrM sd h (wL h1 k j v) := fun a' b w => by
  refine ⟨(a a' b w).1, ?_⟩
  show (if a' = k ∧ b = j then v else h1.2 a' b) = _
  rw [if_neg, (a a' b w).2]
  rintro ⟨rfl, rfl⟩
  rw [hk] at w; cases w
theorem AgrM.i {sd : Nat} {h h1 : Hp} (a : AgrM sd h h1) (k j : Nat) (w : pwm sd k j = false) : h1.1 k j = h.1 k j := (a k j w).1
theorem AgrM.l {sd : Nat} {h h1 : Hp} (a : AgrM sd h h1) (k j : Nat) (w : pwm sd k j = false) : h1.2 k j = h.2 k j := (a k j w).2
theorem AgrM.ag {sd : Nat} {W : Ws} {h h1 : Hp} (hs : sbw W PWm = true) (a : Agr W h h1) : AgrM sd h h1 := fun k j w => a k j (by
  by_cases hw : wm W k j = true
  · have := sbw_wm hs hw
    unfold pwm at w
    rw [this] at w
    simp at w
  · exact Bool.eq_false_iff.mpr hw)
theorem pw_0 {sd k j : Nat} (h : wm PWm k j = true) : pwm sd k j = true := by unfold pwm; rw [h]; simp
theorem pw_1 {sd k : Nat} (h : (k == 11 || (k == 13 || (k == 14 || (k == 17 || k == 25)))) = true) : pwm sd k sd = true := by unfold pwm; rw [h]; simp
theorem pw_10 {sd k j : Nat} (h : (k == 12 || (k == 18 || (k == 19 || (k == 20 || (k == 21 || (k == 22 || (k == 23 || k == 24))))))) = true) (h1 : j < 10) : pwm sd k (10 * sd + j) = true := by
  unfold pwm; rw [h, decide_eq_true (show 10 * sd ≤ 10 * sd + j ∧ 10 * sd + j < 10 * sd + 10 by omega)]; simp
theorem pw_12 {sd k j : Nat} (h : (k == 15 || k == 16) = true) (h1 : j < 12) : pwm sd k (12 * sd + j) = true := by
  unfold pwm; rw [h, decide_eq_true (show 12 * sd ≤ 12 * sd + j ∧ 12 * sd + j < 12 * sd + 12 by omega)]; simp
theorem pw_3 {sd k j : Nat} (h : (k == 26 || (k == 27 || k == 28)) = true) (h1 : j < 3) : pwm sd k (3 * sd + j) = true := by
  unfold pwm; rw [h, decide_eq_true (show 3 * sd ≤ 3 * sd + j ∧ 3 * sd + j < 3 * sd + 3 by omega)]; simp
theorem pw_150 {sd k j : Nat} (h : (k == 29 || (k == 30 || (k == 31 || (k == 32 || (k == 33 || k == 34))))) = true) (h1 : j < 150) : pwm sd k (150 * sd + j) = true := by
  unfold pwm; rw [h, decide_eq_true (show 150 * sd ≤ 150 * sd + j ∧ 150 * sd + j < 150 * sd + 150 by omega)]; simp
theorem pw_420 {sd k j : Nat} (h : (k == 35 || k == 36) = true) (h1 : j < 420) : pwm sd k (420 * sd + j) = true := by
  unfold pwm; rw [h, decide_eq_true (show 420 * sd ≤ 420 * sd + j ∧ 420 * sd + j < 420 * sd + 420 by omega)]; simp
/-- marks -/
def MK (c m : Hp) : Prop := (c.1 142 8 = 0 ∧ c.1 142 9 = -1 ∧ m.1 0 15 = 0) ∨ ∃ f p, 3 ≤ f ∧ f ≤ 5 ∧ p ≤ 2000 ∧ c.1 142 8 = nI f ∧ c.1 142 9 = nI p ∧ m.1 0 15 = nI f ∧ m.1 0 16 = nI p
def PB (c0 m0 : Hp) (K : Nat) (kd : Nat → Nat) (sd t : Nat) (c m : Hp) : Prop := Agr PWc c0 c ∧ AgrM sd m0 m ∧ t < K ∧ c.1 142 6 = nI t ∧ c.1 142 7 = nI (kd t) ∧ m.1 0 11 = nI t ∧ m.1 0 13 = 0 ∧ MK c m
def CTX (c0 m0 : Hp) (K : Nat) (kd pl : Nat → Nat) (sd : Nat) : Prop := TkR K kd pl c0 m0 ∧ m0.1 0 19 = nI sd ∧ sd < 2
theorem PB_w {c0 m0 c m c1 m1 : Hp} {K sd t : Nat} {kd : Nat → Nat} {W : Ws} (P : PB c0 m0 K kd sd t c m) (ec : Agr W c c1) (hs : sbw W PWc = true) (hd : djw [(142, some 6), (142, some 7), (142, some 8), (142, some 9)] W = true) (em : AgrM sd m m1) (q : m1.1 0 11 = m.1 0 11 ∧ m1.1 0 13 = m.1 0 13 ∧ m1.1 0 15 = m.1 0 15 ∧ m1.1 0 16 = m.1 0 16) : PB c0 m0 K kd sd t c1 m1 := by
  have r : ∀ j, wm [(142, some 6), (142, some 7), (142, some 8), (142, some 9)] 142 j = true → c1.1 142 j = c.1 142 j := fun j w => (ec 142 j (djw_wm hd w)).1
  obtain ⟨p1, p2, p3, p4, p5, p6, p7, p8⟩ := P
  refine ⟨p1.trans (ec.sub hs), p2.trans em, p3, by rw [r 6 rfl]; exact p4, by rw [r 7 rfl]; exact p5, by rw [q.1]; exact p6, by rw [q.2.1]; exact p7, ?_⟩
  unfold MK
  rw [r 8 rfl, r 9 rfl, q.2.2.1, q.2.2.2]
  exact p8
/-- a fault that ends the reading -/
def FM (m0 : Hp) (sd f p : Nat) (m : Hp) : Prop := AgrM sd m0 m ∧ m.1 0 13 = nI f ∧ (f = 1 ∨ f = 2) ∧ m.1 0 14 = nI p ∧ ∃ t, t ≤ 400 ∧ m.1 0 11 = nI t
def FF (c0 m0 : Hp) (sd : Nat) (c m : Hp) : Prop := ∃ f p, p ≤ 2000 ∧ Agr PWc c0 c ∧ c.1 142 8 = nI f ∧ c.1 142 9 = nI p ∧ FM m0 sd f p m
theorem FM_w {m0 m m1 : Hp} {sd f p : Nat} (F : FM m0 sd f p m) (em : AgrM sd m m1) (q : m1.1 0 11 = m.1 0 11 ∧ m1.1 0 13 = m.1 0 13 ∧ m1.1 0 14 = m.1 0 14) : FM m0 sd f p m1 := by
  obtain ⟨p1, p2, p3, p4, p5⟩ := F
  exact ⟨p1.trans em, by rw [q.2.1]; exact p2, p3, by rw [q.2.2]; exact p4, by rw [q.1]; exact p5⟩
def R2 (c0 m0 : Hp) (sd : Nat) (oc : Option (Int32 × Hp)) (om : Option Hp) (S : Hp → Hp → Prop) : Prop := ∃ v c1 m1, oc = some (v, c1) ∧ om = some m1 ∧ ((v = 1 ∧ S c1 m1) ∨ (v = 0 ∧ FF c0 m0 sd c1 m1))
def R3 (c0 m0 : Hp) (sd : Nat) (oc om : Option (Int32 × Hp)) (S : Int32 → Int32 → Hp → Hp → Prop) : Prop := ∃ v c1 x m1, oc = some (v, c1) ∧ om = some (x, m1) ∧ ((0 ≤ v ∧ S v x c1 m1) ∨ (v = -1 ∧ FF c0 m0 sd c1 m1))
theorem R2.mono {c0 m0 : Hp} {sd : Nat} {oc : Option (Int32 × Hp)} {om : Option Hp} {S S' : Hp → Hp → Prop} (h : R2 c0 m0 sd oc om S) (f : ∀ c m, S c m → S' c m) : R2 c0 m0 sd oc om S' := by
  obtain ⟨v, c1, m1, e1, e2, h⟩ := h
  refine ⟨v, c1, m1, e1, e2, ?_⟩
  rcases h with ⟨h1, h2⟩ | h
  · exact .inl ⟨h1, f _ _ h2⟩
  · exact .inr h
/-- behind a step that may fail -/
theorem R2_seq {c0 m0 : Hp} {sd : Nat} {oc : Option (Int32 × Hp)} {om : Option Hp} {S S' : Hp → Hp → Prop} {kc : Hp → Option (Int32 × Hp)} {km : Hp → Option Hp} (h : R2 c0 m0 sd oc om S) (hs : ∀ c m, S c m → R2 c0 m0 sd (kc c) (km m) S') (hf : ∀ f p m, FM m0 sd f p m → Ok (km m) (FM m0 sd f p)) : R2 c0 m0 sd (bi oc (fun w h => if w = 0 then ck (zb 0) (some (0, h)) else kc h)) (bv om km) S' := by
  obtain ⟨v, c1, m1, e1, e2, h⟩ := h
  rw [e1, e2, bi_q, bv_q]
  rcases h with ⟨rfl, h2⟩ | ⟨rfl, f, p, hp, g1, g2, g3, g4⟩
  · rw [if_neg (by decide)]
    exact hs _ _ h2
  · rw [if_pos rfl, ck_of zb_0]
    obtain ⟨m2, e3, g5⟩ := hf f p m1 g4
    exact ⟨0, c1, m2, rfl, e3, .inr ⟨rfl, f, p, hp, g1, g2, g3, g5⟩⟩
/-- the model when the reading has ended -/
theorem FM_13 {m0 m : Hp} {sd f p : Nat} (F : FM m0 sd f p m) : ¬ m.1 0 13 = 0 ∧ ¬ m.1 0 13 ≤ 0 ∧ 0 < m.1 0 13 := by
  obtain ⟨_, e, h, _⟩ := F
  rw [e]
  rcases h with rfl | rfl <;> decide
theorem D_is {m0 m : Hp} {sd f p : Nat} (F : FM m0 sd f p m) (a : Int32) : fX12_is a m = some (0, m) := by
  unfold fX12_is
  rw [if_neg (FM_13 F).1, ck_of zb_0]
theorem D_fail {m0 m : Hp} {sd f p : Nat} (F : FM m0 sd f p m) (a : Int32) : fX12_fail a m = some m := by
  unfold fX12_fail
  rw [if_neg (FM_13 F).2.1]
theorem D_goesOn {m0 m : Hp} {sd f p : Nat} (F : FM m0 sd f p m) : Ok (fX12_goesOn m) (FM m0 sd f p) := by
  unfold fX12_goesOn
  rw [D_fail F, bv_q, lt_q]
  have F' := F
  obtain ⟨g1, g2, g3, g4, t, t1, t2⟩ := F'
  by_cases c : m.1 0 11 = 400
  · rw [if_pos c, ok_some]; exact F
  · rw [if_neg c, ok_some]
    have : t ≠ 400 := fun e => c (by rw [t2, e]; rfl)
    exact ⟨g1.wI (pw_0 rfl), by rw [wI_j (by decide)]; exact g2, g3, by rw [wI_j (by decide)]; exact g4, t + 1, by omega, by rw [wI_s, t2, nI_1]⟩
theorem D_must {m0 m : Hp} {sd f p : Nat} (F : FM m0 sd f p m) (a : Int32) : Ok (fX12_must a m) (FM m0 sd f p) := by
  unfold fX12_must
  rw [D_is F, bi_q, if_pos rfl, D_fail F, bv_q, ok_some]
  exact F
theorem D_bounded {m0 m : Hp} {sd f p : Nat} (F : FM m0 sd f p m) (a b : Int32) : Ok (fX12_bounded a b m) (fun q => FM m0 sd f p q.2) := by
  unfold fX12_bounded bX12_bounded_15
  rw [if_pos (FM_13 F).2.2, D_fail F, bv_q, ok_some]
  exact F
theorem D_known {m0 m : Hp} {sd f p : Nat} (F : FM m0 sd f p m) (a : Int32) : Ok (fX12_known a m) (fun q => FM m0 sd f p q.2) := by
  unfold fX12_known
  rw [lt_q, ok_bv]
  refine (D_must F 1).mono fun m1 F1 => ?_
  rw [if_neg (FM_13 F1).2.1, ok_some]
  exact F1
theorem D_named {m0 m : Hp} {sd f p : Nat} (F : FM m0 sd f p m) : Ok (fX12_named m) (fun q => FM m0 sd f p q.2) := by
  unfold fX12_named
  rw [lt_q, ok_bv]
  refine (D_must F 1).mono fun m1 F1 => ?_
  rw [lt_q, show FU = 19999 + 1 from rfl, lX12_named_12]
  simp only [bX12_named_12, if_neg (FM_13 F1).1, ite_self, ok_some]
  exact F1
