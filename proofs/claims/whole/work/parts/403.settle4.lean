/-- all letters' asking is settled, both -/
def SLt (sd nl l : Nat) (g : Nat → Option Nat) (Ls : Nat → List Lit) (as bs : Nat → Nat) (mB c m : Hp) : Prop := c.1 (132 + l) 7 = nI (akS ((Ls l).map (lS (ag g)))) ∧ cwG c (as l) ((letW (Ls l)).map (wS (ag g))) ∧ (∀ k (h : k < (Ls l).length), (Ls l)[k].1.1 = 5 → m.1 32 (150 * sd + bs l + k) = nI (ag g (Ls l)[k].1.2.2.2) ∧ ag g (Ls l)[k].1.2.2.2 < nl) ∧ ∀ k (h : k < (Ls l).length), (Ls l)[k].1.1 ≠ 5 → m.1 32 (150 * sd + bs l + k) = mB.1 32 (150 * sd + bs l + k)
def SJ (c0 m0 : Hp) (K : Nat) (kd : Nat → Nat) (sd t nl : Nat) (g : Nat → Option Nat) (Ls : Nat → List Lit) (as bs : Nat → Nat) (cB mB : Hp) (l : Nat) (c m : Hp) : Prop := PB c0 m0 K kd sd t c m ∧ Agr W7 cB c ∧ Agr W32 mB m ∧ (∀ l', l ≤ l' → l' < nl → ∀ q, as l' ≤ q → q < as l' + (letW (Ls l')).length → c.1 129 q = cB.1 129 q) ∧ (∀ q, 150 * sd + bs l ≤ q → m.1 32 q = mB.1 32 q) ∧ (c.1 142 8 = 0 → cB.1 142 8 = 0 ∧ (∀ q o x, o < 256 → x < 2 ^ 20 → o ≠ 29 → cB.1 129 q = nI (o + 256 * x) → c.1 129 q = nI (o + 256 * x)) ∧ ∀ l', l' < l → SLt sd nl l' g Ls as bs mB c m)
theorem w_ne {o x o' x' : Nat} (ho : o < 256) (hx : x < 2 ^ 20) (ho' : o' < 256) (hx' : x' < 2 ^ 20) (e : nI (o + 256 * x) = nI (o' + 256 * x')) : o = o' := by
  have : nI (o + 256 * x) &&& 255 = nI (o' + 256 * x') &&& 255 := by rw [e]
  rw [w_op ho hx, w_op ho' hx'] at this
  exact nI_inj (by omega) (by omega) this
theorem settle_loop {c0 m0 cB mB : Hp} {K sd t np nc nb nl cs cd ln : Nat} {kd pl : Nat → Nat} {A : Nat → Option Cd} {Ls : Nat → List Lit} {as bs : Nat → Nat} (X : CTX c0 m0 K kd pl sd) (T : TSt c0 m0 K kd sd t np nc nb nl cs cd ln A Ls as bs cB mB) : ∀ (d l : Nat) (c m : Hp) (fc : Nat), nl - l = d → l ≤ nl → SJ c0 m0 K kd sd t nl (fnd nl cB) Ls as bs cB mB l c m → d < fc → ∃ c1 m1, lX5_settle_19 fc (nI l) c = some c1 ∧ (∀ f, lX12_findsRead_9 (f + (ln - bs l)) (nI (150 * sd + bs l)) m = lX12_findsRead_9 f (nI (150 * sd + ln)) m1) ∧ SJ c0 m0 K kd sd t nl (fnd nl cB) Ls as bs cB mB nl c1 m1 := by
  obtain ⟨LS, C, N, hc, hl3, TD, TV, TR⟩ := T
  obtain ⟨C1, C2, C3, C4, C5, C6, C7, C8, C9, C10, C11, C12, C13⟩ := C
  obtain ⟨U1, U2, U3, U4, U5⟩ := TD
  have s2 := X.2.2
  have t4 : t < 401 := by have := LS.1.2.2.1; have := X.1.2.1; omega
  intro d
  induction d with
  | zero =>
    intro l c m fc hd hl J hf
    obtain rfl : l = nl := by omega
    obtain ⟨gc, rfl⟩ : ∃ g, fc = g + 1 := ⟨fc - 1, by omega⟩
    refine ⟨c, m, ?_, fun f => ?_, J⟩
    · rw [lX5_settle_19]
      unfold bX5_settle_19
      rw [J.2.1.i 125 9 rfl, C8, if_pos (nI_le (Nat.le_refl _) (by omega))]
    · rw [U2, Nat.sub_self]; rfl
  | succ d ih =>
    intro l c m fc hd hl J hf
    obtain ⟨gc, rfl⟩ : ∃ g, fc = g + 1 := ⟨fc - 1, by omega⟩
    obtain ⟨J1, J2, J3, J4, J5, J6⟩ := J
    have l1 : l < nl := by omega
    obtain ⟨⟨V1, V2, V3, V4, V5, V6, V7, V8, V9⟩, Vb⟩ := U5 l l1
    obtain ⟨w1, w2, w3⟩ := let_all (ag (fnd nl cB)) V6
    have b1 := U3 l l1
    have A7 : Agr W7a c (wI c (132 + l) 7 0) := Agr.refl.wI (wm_7 (by omega))
    have A7' : Agr W7 cB (wI c (132 + l) 7 0) := J2.trans (A7.sub rfl)
    have P' : PB c0 m0 K kd sd t (wI c (132 + l) 7 0) m := PB_w J1 A7 rfl rfl .refl ⟨rfl, rfl, rfl, rfl⟩
    have cw : cwG (wI c (132 + l) 7 0) (as l) (letW (Ls l)) := fun k hk => by
      rw [wI_k (by omega), J4 l (Nat.le_refl _) l1 _ (by omega) (by omega)]
      exact V4 k hk
    have L : lsR K kd m (150 * sd + bs l) (Ls l) := fun k hk => by
      obtain ⟨y1, y2, y3, y4, y5⟩ := V9 k hk
      refine ⟨y1, by rw [J3.i 29 _ rfl]; exact y2, fun h5 => ?_⟩
      rw [if_neg (by omega), if_pos h5] at y5
      rw [J5 _ (by omega)]
      exact y5
    obtain ⟨c1, m1, e1, e2, S1, S2, S3, S4, S5, S6, S7, S8⟩ := settle_in (l := l) (nl := nl) (np := np) (nc := nc) (e := as l + (letW (Ls l)).length) (B := 150 * sd + ln) (g := fnd nl cB) (r19 := lX5_settle_19 gc) X (by omega) C4 (by omega) (by omega) (by omega) ((letW (Ls l)).length + (Ls l).length) (letW (Ls l)) (Ls l) (as l) (150 * sd + bs l) 0 (wI c (132 + l) 7 0) m FU (Nat.le_refl _) w2 w1 rfl (by rw [A7'.i _ 6 (wm_7n (by omega) (by decide))]; exact V3) (by rw [A7'.i 125 9 rfl]; exact C8) cw (by omega) (by omega) (by rw [J3.i 0 42 rfl]; exact LS.2.2.2.2.1) L (fun v => fnd_w A7') P' (NmR_7 N A7' J3) wI_s (by decide) (show (letW (Ls l)).length < 20000 by omega)
    have J' : SJ c0 m0 K kd sd t nl (fnd nl cB) Ls as bs cB mB (l + 1) c1 m1 := by
      refine ⟨S1, A7'.trans S2, J3.trans S3, fun l' h1 h2 q hq1 hq2 => ?_, fun q hq => ?_, fun z => ?_⟩
      · have := U4 l l' (by omega) h2
        rw [S4 q (.inr (by omega)), wI_k (by omega)]
        exact J4 l' (by omega) h2 q hq1 hq2
      · rw [S5 q (.inr (by omega))]
        exact J5 q (by omega)
      · obtain ⟨z1, z2, z3, z4⟩ := S8 z
        rw [wI_k (by omega)] at z1
        obtain ⟨j1, j2, j3⟩ := J6 z1
        refine ⟨j1, fun q o x ho hx hn hq => ?_, fun l' hl' => ?_⟩
        · have cq : (wI c (132 + l) 7 0).1 129 q = nI (o + 256 * x) := by rw [wI_k (by omega)]; exact j2 q o x ho hx hn hq
          by_cases hin : as l ≤ q ∧ q < as l + (letW (Ls l)).length
          · obtain ⟨k, rfl⟩ : ∃ k, q = as l + k := ⟨q - as l, by omega⟩
            have hk : k < (letW (Ls l)).length := by omega
            have g1 := cw k hk
            have g2 := z3 k (by rw [List.length_map]; exact hk)
            have em : (letW (Ls l)).getD k (0, 0) = (letW (Ls l))[k] := by rw [List.getD_eq_getElem?_getD, List.getElem?_eq_getElem hk]; rfl
            have em2 : ((letW (Ls l)).map (wS (ag (fnd nl cB)))).getD k (0, 0) = wS (ag (fnd nl cB)) (letW (Ls l))[k] := by rw [List.getD_eq_getElem?_getD, List.getElem?_map, List.getElem?_eq_getElem hk]; rfl
            rw [em] at g1
            rw [em2] at g2
            obtain ⟨o1, o2⟩ := w1 _ (List.getElem_mem hk)
            have ne : (letW (Ls l))[k].1 ≠ 29 := by
              rw [← w_ne ho hx o1 o2 (cq.symm.trans g1)]; exact hn
            unfold wS at g2
            rw [if_neg ne] at g2
            rw [g2, ← g1, cq]
          · rw [S4 q (by omega)]; exact cq
        · by_cases el : l' = l
          · subst el
            refine ⟨z2, z3, z4, fun k hk h5 => ?_⟩
            rw [S7 k hk h5]
            exact J5 _ (by omega)
          · have ll : l' < l := by omega
            obtain ⟨i1, i2, i3, i4⟩ := j3 l' ll
            have dj := U4 l' l ll l1
            have bb : bs l' + (Ls l').length ≤ bs l := by
              have mono : ∀ k, l' + 1 + k ≤ nl → bs (l' + 1) ≤ bs (l' + 1 + k) := by
                intro k
                induction k with
                | zero => intro _; exact Nat.le_refl _
                | succ k ihk =>
                  intro hk
                  have a := ihk (by omega)
                  have b := U3 (l' + 1 + k) (by omega)
                  rw [← Nat.add_assoc]; omega
              have a := mono (l - (l' + 1)) (by omega)
              rw [show l' + 1 + (l - (l' + 1)) = l by omega] at a
              have b := U3 l' (by omega)
              omega
            refine ⟨?_, fun k hk => ?_, fun k hk h5 => ?_, fun k hk h5 => ?_⟩
            · rw [S6 l' (by omega) (by omega), wI_k (by omega)]; exact i1
            · rw [S4 _ (.inl (by rw [List.length_map] at hk; omega)), wI_k (by omega)]
              exact i2 k hk
            · rw [S5 _ (.inl (by omega))]
              exact i3 k hk h5
            · rw [S5 _ (.inl (by omega))]
              exact i4 k hk h5
    obtain ⟨c3, m3, f1, f2, f3⟩ := ih (l + 1) c1 m1 gc (by omega) (by omega) J' (by omega)
    refine ⟨c3, m3, ?_, fun f => ?_, f3⟩
    · rw [lX5_settle_19]
      unfold bX5_settle_19
      rw [J2.i 125 9 rfl, C8, if_neg (nI_ge l1 (by omega)), ck_of (nI_inb (show l < 10 by omega) (by decide)), nI_ix (by omega), lt_q, A7'.i _ 5 (wm_7n (by omega) (by decide)), V2, lt_q, e1]
      exact f1
    · have e : ln - bs l = ln - bs (l + 1) + (Ls l).length := by omega
      rw [e, ← Nat.add_assoc, e2, show 150 * sd + bs l + (Ls l).length = 150 * sd + bs (l + 1) by omega]
      exact f2 f
