/-- a letter's words and literals, both -/
theorem settle_in {c0 m0 : Hp} {K sd t np nc nl l e B : Nat} {kd pl : Nat → Nat} {g : Nat → Option Nat} {r19 : Int32 → Hp → Option Hp} (X : CTX c0 m0 K kd pl sd) (hl : l < 10) (hnl : nl ≤ 10) (h24 : np + nc + nl ≤ 24) (he : e ≤ 400) (hB : B ≤ 150 * sd + 150) : ∀ (n : Nat) (W : Cd) (ls : List Lit) (j i acc : Nat) (c m : Hp) (fc : Nat), W.length + ls.length ≤ n → rdW W = rdL ls → (∀ w, w ∈ W → wOk w) → j + W.length = e → c.1 (132 + l) 6 = nI e → c.1 125 9 = nI nl → cwG c j W → 150 * sd ≤ i → i + ls.length ≤ B → m.1 0 42 = nI B → lsR K kd m i ls → (∀ v, fnd nl c v = g v) → PB c0 m0 K kd sd t c m → NmR np nc nl c m → c.1 (132 + l) 7 = nI acc → acc < 2 ^ 10 → W.length < fc → ∃ c1 m1, lX5_settle_50 r19 fc (nI l) (132 + l) (nI j) c = r19 (nI (l + 1)) c1 ∧ (∀ f, lX12_findsRead_9 (f + ls.length) (nI i) m = lX12_findsRead_9 f (nI (i + ls.length)) m1) ∧ SIn c0 m0 K kd sd t np nc nl l g W ls j i acc c m c1 m1 := by
  have s2 := X.2.2
  intro n
  induction n with
  | zero =>
    intro W ls j i acc c m fc hn hr ho hj h6 q9 cw hi hiB h42 L hg P N ha h10 hf
    obtain rfl : W = [] := List.length_eq_zero_iff.mp (by omega)
    obtain rfl : ls = [] := List.length_eq_zero_iff.mp (by omega)
    obtain ⟨gc, rfl⟩ : ∃ g, fc = g + 1 := ⟨fc - 1, by omega⟩
    refine ⟨c, m, ?_, fun f => rfl, P, .refl, .refl, fun _ _ => rfl, fun _ _ => rfl, fun _ _ _ => rfl, fun k hk => absurd hk (by simp), fun z => ⟨z, ha, cwG_n, fun k hk => absurd hk (by simp)⟩⟩
    rw [lX5_settle_50]
    unfold bX5_settle_50
    rw [h6, if_pos (nI_le (by simp at hj; omega) (by simp at hj; omega)), nI_1, lt_q]
  | succ n ih =>
    intro W ls j i acc c m fc hn hr ho hj h6 q9 cw hi hiB h42 L hg P N ha h10 hf
    obtain ⟨gc, rfl⟩ : ∃ g, fc = g + 1 := ⟨fc - 1, by omega⟩
    -- the model passes a literal that asks for no letter
    have ml : ∀ x r, ls = x :: r → x.1.1 ≠ 5 → ∃ c1 m1, lX5_settle_50 r19 (gc + 1) (nI l) (132 + l) (nI j) c = r19 (nI (l + 1)) c1 ∧ (∀ f, lX12_findsRead_9 (f + ls.length) (nI i) m = lX12_findsRead_9 f (nI (i + ls.length)) m1) ∧ SIn c0 m0 K kd sd t np nc nl l g W ls j i acc c m c1 m1 := fun x r el h5 => by
      subst el
      rw [List.length_cons] at hn hiB
      obtain ⟨x1, x2, x3⟩ := lsR_h L
      have hr' : rdW W = rdL r := by rw [hr]; unfold rdL; rw [List.filterMap_cons, if_neg h5]
      obtain ⟨c1, m1, e1, e2, e3⟩ := ih W r j (i + 1) acc c m (gc + 1) (by omega) hr' ho hj h6 q9 cw (by omega) (by omega) h42 (lsR_t L ⟨fun _ => rfl, fun _ _ => rfl⟩) hg P N ha h10 hf
      refine ⟨c1, m1, e1, fun f => ?_, SIn_lit h5 e3⟩
      have := e2 f
      rw [List.length_cons, ← Nat.add_assoc, lX12_findsRead_9, show i + (r.length + 1) = i + 1 + r.length by omega, ← this]
      unfold bX12_findsRead_9 bX12_findsRead_65
      rw [h42, if_neg (nI_ge (show i < B by omega) (by omega)), ck_of (nI_inb (show i < 300 by omega) (by decide)), nI_ix (by omega), x2, if_neg (show ¬ nI x.1.1 = 5 from fun y => h5 ((nI_eq (b := 5) (by omega) (by decide)).mp y)), nI_1, lt_q]
    -- the class passes a word that asks for none
    have cl : ∀ w V, W = w :: V → w.1 ≠ 29 → ∃ c1 m1, lX5_settle_50 r19 (gc + 1) (nI l) (132 + l) (nI j) c = r19 (nI (l + 1)) c1 ∧ (∀ f, lX12_findsRead_9 (f + ls.length) (nI i) m = lX12_findsRead_9 f (nI (i + ls.length)) m1) ∧ SIn c0 m0 K kd sd t np nc nl l g W ls j i acc c m c1 m1 := fun w V eW h29 => by
      subst eW
      rw [List.length_cons] at hn hj hf
      have hr' : rdW V = rdL ls := by rw [← hr]; unfold rdW; rw [List.filterMap_cons, if_neg h29]
      have w0 : c.1 129 j = nI (w.1 + 256 * w.2) := by have := cw 0 (by simp); simpa using this
      obtain ⟨o1, o2⟩ := ho w (by simp)
      have cw' : cwG c (j + 1) V := fun k hk => by
        have := cw (k + 1) (by simp; omega)
        rw [show j + (k + 1) = j + 1 + k by omega] at this
        simpa using this
      obtain ⟨c1, m1, e1, e2, e3⟩ := ih V ls (j + 1) i acc c m gc (by omega) hr' (fun w hw => ho w (by simp [hw])) (by omega) h6 q9 cw' hi hiB h42 L hg P N ha h10 (by omega)
      refine ⟨c1, m1, ?_, e2, SIn_word h29 w0 e3⟩
      rw [lX5_settle_50, ← e1]
      unfold bX5_settle_50 bX5_settle_82
      rw [h6, if_neg (nI_ge (show j < e by omega) (by omega)), ck_of (nI_inb (show j < 400 by omega) (by decide)), nI_ix (by omega), w0, w_op o1 o2, if_neg (show ¬ nI w.1 = 29 from fun y => h29 ((nI_eq (b := 29) (by omega) (by decide)).mp y)), nI_1, lt_q]
    cases ls with
    | nil =>
      cases W with
      | nil =>
        refine ⟨c, m, ?_, fun f => rfl, P, .refl, .refl, fun _ _ => rfl, fun _ _ => rfl, fun _ _ _ => rfl, fun k hk => absurd hk (by simp), fun z => ⟨z, ha, cwG_n, fun k hk => absurd hk (by simp)⟩⟩
        rw [lX5_settle_50]
        unfold bX5_settle_50
        rw [h6, if_pos (nI_le (by simp at hj; omega) (by simp at hj; omega)), nI_1, lt_q]
      | cons w V =>
        by_cases h29 : w.1 = 29
        · exfalso
          unfold rdW rdL at hr
          rw [List.filterMap_cons, if_pos h29] at hr
          cases hr
        · exact cl w V rfl h29
    | cons x r =>
      by_cases h5 : x.1.1 = 5
      · cases W with
        | nil =>
          exfalso
          unfold rdW rdL at hr
          rw [List.filterMap_cons, if_pos h5] at hr
          cases hr
        | cons w V =>
          by_cases h29 : w.1 = 29
          · obtain ⟨w1, v⟩ := w
            simp only at h29
            subst h29
            have hr2 : v = x.1.2.2.2 ∧ rdW V = rdL r := by
              unfold rdW rdL at hr
              rw [List.filterMap_cons, List.filterMap_cons, if_pos h5, if_pos rfl] at hr
              exact ⟨List.head_eq_of_cons_eq hr, List.tail_eq_of_cons_eq hr⟩
            obtain ⟨x1, x2, x3⟩ := lsR_h L
            obtain ⟨y1, y2, y3⟩ := x3 h5
            rw [← hr2.1] at y1 y2 y3
            rw [List.length_cons] at hn hj hf
            rw [List.length_cons] at hn hiB
            have w0 : c.1 129 j = nI (29 + 256 * v) := by have := cw 0 (by simp); simpa using this
            obtain ⟨o1, o2⟩ := ho (29, v) (by simp)
            obtain ⟨c2, m2, acc', z1, z2, z3, z4, z5, z6, z7, z8, z9, z10, z11⟩ := read_both (l := l) (j := j) (i := i) X hl hnl h24 (by omega) hi (by omega) q9 w0 y1 y2 y3 hg P N ha h10
            have cw' : cwG c2 (j + 1) V := fun k hk => by
              have := cw (k + 1) (by simp; omega)
              rw [show j + (k + 1) = j + 1 + k by omega] at this
              rw [z6 _ (by omega)]
              simpa using this
            obtain ⟨c1, m1, e1, e2, e3⟩ := ih V r (j + 1) (i + 1) acc' c2 m2 gc (by omega) hr2.2 (fun w hw => ho w (by simp [hw])) (by omega) (by rw [z4.i _ 6 (wm_7n hl (by decide))]; exact h6) (by rw [z4.i 125 9 rfl]; exact q9) cw' (by omega) (by omega) (by rw [z5.i 0 42 rfl]; exact h42) (lsR_t L ⟨fun q => z5.i 29 q rfl, fun q hq => z7 q (by omega)⟩) (fun v => by rw [fnd_w z4]; exact hg v) z3 (NmR_7 N z4 z5) z9 z10 (by omega)
            refine ⟨c1, m1, ?_, fun f => ?_, SIn_read h5 hr2.1.symm z4 z5 z6 z7 z8 z11 e3⟩
            · rw [lX5_settle_50, ← e1]
              unfold bX5_settle_50 bX5_settle_82
              rw [h6, if_neg (nI_ge (show j < e by omega) (by omega)), ck_of (nI_inb (show j < 400 by omega) (by decide)), nI_ix (by omega), w0, w_op (by decide) o2, if_pos (show nI 29 = (29 : Int32) from rfl), z1, bv_q, nI_1, lt_q]
            · have := e2 f
              rw [List.length_cons, ← Nat.add_assoc, lX12_findsRead_9, show i + (r.length + 1) = i + 1 + r.length by omega, ← this, ← z2 (lX12_findsRead_9 (f + r.length)) rfl]
              unfold bX12_findsRead_9
              rw [h42, if_neg (nI_ge (show i < B by omega) (by omega)), ck_of (nI_inb (show i < 300 by omega) (by decide)), nI_ix (by omega), x2, if_pos (show nI x.1.1 = 5 by rw [h5]; rfl)]
          · exact cl w V rfl h29
      · exact ml x r rfl h5
