/-- the first opening behind a year -/
def MinP (P : Nat → Prop) (M : Nat) : Prop := (∀ t, P t → M ≤ t) ∧ (M = 60 ∨ P M)
theorem MinP_u {P P' : Nat → Prop} {M M' : Nat} (h : MinP P M) (h' : MinP P' M') (e : ∀ t, P t ↔ P' t) (b : ∀ t, P t → t < 60) : M = M' := by
  rcases h.2 with h2 | h2 <;> rcases h'.2 with h2' | h2'
  · omega
  · have := b _ ((e _).mpr h2'); have := h.1 _ ((e _).mpr h2'); omega
  · have := b _ h2; have := h'.1 _ ((e _).mp h2); omega
  · have := h.1 _ ((e _).mpr h2'); have := h'.1 _ ((e _).mp h2); omega
theorem C_openingBehind {m h : Hp} {o y : Nat} {R : Run} {ls : List Nat} {tr : Bool} (hN : nL m ≤ 10) (H : KC o (nL m) R ls tr h) (hy : y < 60) (hlen : ls.length ≤ 10) (hp : ∀ l, l ∈ ls → l < nL m ∧ ∃ t, t < 60 ∧ R 1 l = nI t) : ∃ M, MinP (fun t => y < t ∧ t < 60 ∧ ∃ l, l ∈ ls ∧ R 1 l = nI t) M ∧ fX1_openingBehind o (nI y) h = some (if M = 60 then -2 else nI M, h) := by
  have key : Ok (fX1_openingBehind o (nI y) h) (fun p => ∃ M, MinP (fun t => y < t ∧ t < 60 ∧ ∃ l, l ∈ ls ∧ R 1 l = nI t) M ∧ p = (if M = 60 then -2 else nI M, h)) := by
    unfold fX1_openingBehind
    rw [lt_e, lt_e]
    refine up0 (fun f i s => lX1_openingBehind_5 o f (nI y) s (nI i) h) ls.length (by omega) (fun i s => ∃ M, M ≤ 60 ∧ s = nI M ∧ MinP (fun t => y < t ∧ t < 60 ∧ ∃ p, p < i ∧ R 1 (ls.getD p 0) = nI t) M) 60 ⟨60, by omega, rfl, fun t ht => by obtain ⟨_, _, p, hp, _⟩ := ht; omega, .inl rfl⟩ ?_ ?_
    · rintro f s ⟨M, hM, rfl, hm⟩
      simp only [lX1_openingBehind_5, bX1_openingBehind_5, H.2.1, if_pos (nI_le (Nat.le_refl ls.length) (show ls.length < 2 ^ 31 by omega))]
      have hm' : MinP (fun t => y < t ∧ t < 60 ∧ ∃ l, l ∈ ls ∧ R 1 l = nI t) M := by
        refine ⟨fun t ht => hm.1 t ?_, hm.2.imp id fun ht => ?_⟩
        · obtain ⟨t1, t2, l, hl, e⟩ := ht
          obtain ⟨p, hp', e'⟩ := List.getElem_of_mem hl
          exact ⟨t1, t2, p, hp', by rw [List.getD_eq_getElem?_getD, List.getElem?_eq_getElem hp', Option.getD_some, e']; exact e⟩
        · obtain ⟨t1, t2, p, hp', e⟩ := ht
          exact ⟨t1, t2, _, getD_mem hp', e⟩
      by_cases e : M = 60
      · subst e
        rw [if_pos (by decide), ok_some]; exact ⟨60, hm', rfl⟩
      · rw [if_neg (show ¬ (60 : Int32) ≤ nI M from nI_ge (b := 60) (by omega) (by decide)), ok_some]
        exact ⟨M, hm', by rw [if_neg e]⟩
    · rintro f i s hi ⟨M, hM, rfl, hm⟩ K
      obtain ⟨hl, t, ht, et⟩ := hp _ (getD_mem hi)
      simp only [lX1_openingBehind_5, bX1_openingBehind_5, bX1_openingBehind_41, H.2.1, if_neg (nI_ge hi (show ls.length < 2 ^ 31 by omega)), ck_of (nI_inb (n := i) (N := 10) (by omega) (by decide)), nI_ix (show i < 2 ^ 31 by omega), H.2.2.1 i hi, ck_of (nI_inb (n := ls.getD i 0) (N := 10) (by omega) (by decide)), nI_ix (show ls.getD i 0 < 2 ^ 31 by omega), H.si hl, et, lt_e, nI_1]
      have ext : ∀ u, (∃ p, p < i + 1 ∧ R 1 (ls.getD p 0) = nI u) ↔ (∃ p, p < i ∧ R 1 (ls.getD p 0) = nI u) ∨ R 1 (ls.getD i 0) = nI u := by
        intro u
        constructor
        · rintro ⟨p, hp1, hp2⟩
          by_cases e : p = i
          · subst e; exact .inr hp2
          · exact .inl ⟨p, by omega, hp2⟩
        · rintro (⟨p, hp1, hp2⟩ | hp2)
          · exact ⟨p, by omega, hp2⟩
          · exact ⟨i, by omega, hp2⟩
      have same : (y < t → M ≤ t) → MinP (fun t => y < t ∧ t < 60 ∧ ∃ p, p < i + 1 ∧ R 1 (ls.getD p 0) = nI t) M := fun hle => by
        refine ⟨fun u hu => ?_, hm.2.imp id fun ⟨u1, u2, u3⟩ => ⟨u1, u2, (ext _).mpr (.inl u3)⟩⟩
        obtain ⟨u1, u2, u3⟩ := hu
        rcases (ext u).mp u3 with u3 | u3
        · exact hm.1 u ⟨u1, u2, u3⟩
        · have : t = u := (nI_eq (by omega) (by omega)).mp (et.symm.trans u3)
          subst this; exact hle u1
      by_cases c1 : t ≤ y
      · rw [if_pos (nI_le c1 (by omega))]
        exact K _ ⟨M, hM, rfl, same fun x => absurd x (by omega)⟩
      · rw [if_neg (nI_ge (by omega) (by omega))]
        by_cases c2 : M ≤ t
        · rw [if_pos (nI_le c2 (by omega))]
          exact K _ ⟨M, hM, rfl, same fun _ => c2⟩
        · rw [if_neg (nI_ge (by omega) (by omega))]
          refine K _ ⟨t, by omega, rfl, fun u hu => ?_, .inr ⟨by omega, ht, i, by omega, et⟩⟩
          obtain ⟨u1, u2, u3⟩ := hu
          rcases (ext u).mp u3 with u3 | u3
          · have := hm.1 u ⟨u1, u2, u3⟩; omega
          · have : t = u := (nI_eq (by omega) (by omega)).mp (et.symm.trans u3)
            omega
  obtain ⟨p, e, M, hM, rfl⟩ := key
  exact ⟨M, hM, e⟩
theorem M_nextL {c m h : Hp} {y : Nat} {R : Run} {ls : List Nat} (D : RD0 c m) (e : Agr SM m h) (H : KM (nL m) R ls h) (hy : y < 60) (hp : ∀ l, l < nL m → R 0 l = 1 → ∃ t, t < 60 ∧ R 1 l = nI t) : ∃ M, MinP (fun t => y < t ∧ t < 60 ∧ ∃ l, (l < nL m ∧ R 0 l = 1) ∧ R 1 l = nI t) M ∧ lX12_next_28 FU (nI y) (-2) 0 h = some (if M = 60 then -2 else nI M, h) := by
  obtain ⟨⟨d1, d2⟩, _, _, _, ⟨s1, s2, s3⟩, _⟩ := D
  have key : Ok (lX12_next_28 FU (nI y) (-2) 0 h) (fun p => ∃ M, MinP (fun t => y < t ∧ t < 60 ∧ ∃ l, (l < nL m ∧ R 0 l = 1) ∧ R 1 l = nI t) M ∧ p = (if M = 60 then -2 else nI M, h)) := by
    refine up0 (fun f i s => lX12_next_28 f (nI y) s (nI i) h) (nL m) (by omega) (fun i s => ∃ M, M ≤ 60 ∧ s = (if M = 60 then -2 else nI M) ∧ MinP (fun t => y < t ∧ t < 60 ∧ ∃ l, (l < i ∧ R 0 l = 1) ∧ R 1 l = nI t) M) (-2) ⟨60, by omega, rfl, fun t ht => by obtain ⟨_, _, p, ⟨hp, _⟩, _⟩ := ht; omega, .inl rfl⟩ ?_ ?_
    · rintro f s ⟨M, hM, rfl, hm⟩
      simp only [lX12_next_28, bX12_next_28, e.i 0 18 rfl, d2, ck_of (nI_inb d1 (by decide)), nI_ix (show lv m < 2 ^ 31 by omega), e.i 17 _ rfl, s2, if_pos (nI_le (Nat.le_refl (nL m)) (show nL m < 2 ^ 31 by omega)), ok_some]
      exact ⟨M, hm, rfl⟩
    · rintro f i s hi ⟨M, hM, rfl, hm⟩ K
      simp only [lX12_next_28, bX12_next_28, bX12_next_87, bX12_next_79, e.i 0 18 rfl, d2, ck_of (nI_inb d1 (by decide)), nI_ix (show lv m < 2 ^ 31 by omega), e.i 17 _ rfl, s2, if_neg (nI_ge hi (show nL m < 2 ^ 31 by omega)), ck_of (nI_inb (n := i) (N := 10) (by omega) (by decide)), nI_ix (show i < 2 ^ 31 by omega), H.st hi, H.si hi, lt_e, nI_1]
      have ext : ∀ u, (∃ l, (l < i + 1 ∧ R 0 l = 1) ∧ R 1 l = nI u) ↔ (∃ l, (l < i ∧ R 0 l = 1) ∧ R 1 l = nI u) ∨ (R 0 i = 1 ∧ R 1 i = nI u) := by
        intro u
        constructor
        · rintro ⟨p, ⟨hp1, hp2⟩, hp3⟩
          by_cases e : p = i
          · subst e; exact .inr ⟨hp2, hp3⟩
          · exact .inl ⟨p, ⟨by omega, hp2⟩, hp3⟩
        · rintro (⟨p, ⟨hp1, hp2⟩, hp3⟩ | ⟨hp2, hp3⟩)
          · exact ⟨p, ⟨by omega, hp2⟩, hp3⟩
          · exact ⟨i, ⟨by omega, hp2⟩, hp3⟩
      have same : (∀ u, R 0 i = 1 → R 1 i = nI u → u < 60 → y < u → M ≤ u) → MinP (fun t => y < t ∧ t < 60 ∧ ∃ l, (l < i + 1 ∧ R 0 l = 1) ∧ R 1 l = nI t) M := fun hle => by
        refine ⟨fun u hu => ?_, hm.2.imp id fun ⟨u1, u2, u3⟩ => ⟨u1, u2, (ext _).mpr (.inl u3)⟩⟩
        obtain ⟨u1, u2, u3⟩ := hu
        rcases (ext u).mp u3 with u3 | u3
        · exact hm.1 u ⟨u1, u2, u3⟩
        · exact hle u u3.1 u3.2 u2 u1
      by_cases c0 : R 0 i = 1
      · rw [if_pos c0]
        obtain ⟨t, ht, et⟩ := hp i hi c0
        have tu : ∀ u, u < 60 → R 1 i = nI u → t = u := fun u hu x => (nI_eq (by omega) (by omega)).mp (et.symm.trans x)
        rw [et]
        have new : ¬ M ≤ t → y < t → MinP (fun t => y < t ∧ t < 60 ∧ ∃ l, (l < i + 1 ∧ R 0 l = 1) ∧ R 1 l = nI t) t := fun c2 c1 => by
          refine ⟨fun u hu => ?_, .inr ⟨c1, ht, i, ⟨by omega, c0⟩, et⟩⟩
          obtain ⟨u1, u2, u3⟩ := hu
          rcases (ext u).mp u3 with u3 | u3
          · have := hm.1 u ⟨u1, u2, u3⟩; omega
          · have := tu u u2 u3.2; omega
        by_cases c1 : t ≤ y
        · rw [if_pos (nI_le c1 (by omega))]
          exact K _ ⟨M, hM, rfl, same fun u _ x hu hyu => by have := tu u hu x; omega⟩
        · rw [if_neg (nI_ge (by omega) (by omega))]
          by_cases eM : M = 60
          · rw [if_pos eM, if_pos (show (-2 : Int32) < 0 by decide)]
            exact K _ ⟨t, by omega, by rw [if_neg (by omega)], new (by omega) (by omega)⟩
          · rw [if_neg eM, if_neg (nI_pos (show M < 2 ^ 31 by omega))]
            by_cases c2 : M ≤ t
            · rw [if_pos (nI_le c2 (by omega))]
              exact K _ ⟨M, hM, by rw [if_neg eM], same fun u _ x hu hyu => by have := tu u hu x; omega⟩
            · rw [if_neg (nI_ge (by omega) (by omega))]
              exact K _ ⟨t, by omega, by rw [if_neg (by omega)], new c2 (by omega)⟩
      · rw [if_neg c0]
        exact K _ ⟨M, hM, rfl, same fun u x => absurd x c0⟩
  obtain ⟨p, e, M, hM, rfl⟩ := key
  exact ⟨M, hM, e⟩
theorem sim_next0 {S : Sem} {F : Nat} {c m : Hp} (a1 a2 : Int32) (Q : QH S F c m) : SimQ c m (fX11_next a1 a2 c) (fX12_next a1 a2 m) := by
  obtain ⟨D, RF, XM', XC'⟩ := Q
  have Q : QH S F c m := ⟨D, RF, XM', XC'⟩
  have s1 := D.2.2.2.2.1.1
  have h60 := RF.1
  simp only [fX11_next, fX12_next, M_isKnown RF .refl, C_isKnown RF .refl, M_isYear, C_isYear, bi_some, bi_id, lt_e]
  cases h1 : rng a1 0 59
  · exact SimQ_no (-1)
  · cases h2 : rng a2 0 (nI F)
    · exact SimQ_no (-1)
    · obtain ⟨y, hy, rfl⟩ := rng_0 (n := 59) (by omega) h1
      obtain ⟨n, hn, rfl⟩ := rng_0 (by omega) h2
      simp only [b2_t, i10, ↓reduceIte]
      have rc := C_runOf (k := 1) (la := 59) Q .refl hn (by omega) (by omega) (by decide)
      rw [n59, n1] at rc
      have rm := M_runsAll Q .refl hn
      have iv := inv_run (S := S) (m := m) (n := n) (tr := false) (q := qk 1) 60
      rw [show 59 + 1 = 60 from rfl] at rc
      generalize (runS S m n false (qk 1) 60).1 = R at *
      generalize (runS S m n false (qk 1) 60).2 = ls at *
      obtain ⟨c2, ec, H, a⟩ := rc
      obtain ⟨m2, em, H2, a2⟩ := rm
      obtain ⟨M, hM, e1⟩ := C_openingBehind s1 H (show y < 60 by omega) (by have := iv.1; omega) (fun l hl => ⟨(iv.2.1 l hl).1, (iv.2.1 l hl).2.2⟩)
      obtain ⟨M', hM', e2⟩ := M_nextL D a2 H2 (show y < 60 by omega) (fun l hl h1 => (iv.2.1 l (iv.2.2.2.1 l hl h1)).2.2)
      have : M = M' := MinP_u hM hM' (fun t => ⟨fun ⟨t1, t2, l, hl, et⟩ => ⟨t1, t2, l, ⟨(iv.2.1 l hl).1, (iv.2.1 l hl).2.1⟩, et⟩, fun ⟨t1, t2, l, hl, et⟩ => ⟨t1, t2, l, iv.2.2.2.1 l hl.1 hl.2, et⟩⟩) (fun t ht => ht.2.1)
      subst this
      rw [ec, em, bv_some, bv_some, e1, e2]
      exact ⟨_, c2, m2, rfl, rfl, a, a2⟩
