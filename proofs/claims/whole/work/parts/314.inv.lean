/-- steps that open nothing by a look, and leave alone what has come to an end -/
def stp (R R' : Run) : Prop := ∀ l, (R' 0 l = R 0 l ∧ R' 1 l = R 1 l) ∨ (R 0 l = 0 ∧ ¬ R' 0 l = 0 ∧ ¬ R' 0 l = 1)
theorem stp.refl {R : Run} : stp R R := fun _ => .inl ⟨rfl, rfl⟩
theorem stp.trans {R R1 R2 : Run} (a : stp R R1) (b : stp R1 R2) : stp R R2 := fun l => by
  rcases a l with ⟨a1, a2⟩ | ⟨a1, a2, a3⟩
  · rcases b l with ⟨b1, b2⟩ | ⟨b1, b2, b3⟩
    · exact .inl ⟨b1.trans a1, b2.trans a2⟩
    · exact .inr ⟨a1 ▸ b1, b2, b3⟩
  · rcases b l with ⟨b1, b2⟩ | ⟨b1, b2, b3⟩
    · exact .inr ⟨a1, b1 ▸ a2, b1 ▸ a3⟩
    · exact absurd b1 a2
theorem stp_up {R : Run} {k j : Nat} {v : Int32} (h : 2 ≤ k) : stp R (up R k j v) := fun l => .inl ⟨up_k (by omega), up_k (by omega)⟩
theorem bec_0 {R : Run} {l : Nat} {w y : Int32} (j : Nat) : becS R l w y 0 j = if j = l then w else R 0 j := by
  unfold becS
  rw [up_k (by decide)]
  by_cases e : j = l
  · subst e; rw [up_s, if_pos rfl]
  · rw [up_j e, if_neg e]
theorem bec_1 {R : Run} {l : Nat} {w y : Int32} (j : Nat) : becS R l w y 1 j = if j = l then y else R 1 j := by
  unfold becS
  by_cases e : j = l
  · subst e; rw [up_s, if_pos rfl]
  · rw [up_j e, up_j e, if_neg e]
theorem opn_1 {R : Run} {l : Nat} {w y : Int32} (j : Nat) : opnS R l w y 1 j = if j = l then y else R 1 j := by
  unfold opnS
  rw [up_k (by decide), bec_1]
theorem stp_bec {R : Run} {l : Nat} {w y : Int32} (h0 : R 0 l = 0) (h1 : ¬ w = 0) (h2 : ¬ w = 1) : stp R (becS R l w y) := fun j => by
  rw [bec_0, bec_1]
  by_cases e : j = l
  · subst e; rw [if_pos rfl]; exact .inr ⟨h0, h1, h2⟩
  · rw [if_neg e, if_neg e]; exact .inl ⟨rfl, rfl⟩
theorem stp_opn {R : Run} {l : Nat} {w y : Int32} (h0 : R 0 l = 0) (h1 : ¬ w = 0) (h2 : ¬ w = 1) : stp R (opnS R l w y) := (stp_bec h0 h1 h2).trans (stp_up (by decide))
theorem stp_for {f : Nat → Run → Run} {R : Run} (h : ∀ i T, stp T (f i T)) : ∀ n, stp R (forN n f R)
  | 0 => .refl
  | n + 1 => (stp_for h n).trans (h n _)
theorem stp_flo {m : Hp} {s y : Int32} {R : Run} : stp R (floS m s y R) := stp_for (fun i T => by
  unfold floF
  split
  · exact stp_bec (by have := ‹_ ∧ _›; exact this.1) (by decide) (by decide)
  · exact .refl) _
theorem stp_pay {S : Sem} {m : Hp} {y : Nat} {R : Run} : stp R (payS S m y R) := stp_for (fun i T => by
  unfold payF
  by_cases h0 : T 0 i = 0
  · rw [if_pos h0]
    split
    · exact stp_up (by decide)
    · split
      · exact (stp_up (by decide)).trans (stp_up (by decide))
      · refine ((stp_up (by decide)).trans (stp_up (by decide))).trans (stp_bec ?_ (by decide) (by decide))
        rw [up_k (by decide), up_k (by decide)]; exact h0
  · rw [if_neg h0]; exact .refl) _
theorem stp_hap {S : Sem} {m : Hp} {tr : Bool} {k : Nat} {R : Run} : stp R (hapS S m tr k R) := by
  unfold hapS
  split
  · split
    · exact (stp_up (by decide)).trans (stp_up (by decide))
    · exact stp_up (by decide)
  · split
    · split
      · exact stp_up (by decide)
      · exact .refl
    · split
      · split
        · exact stp_bec (by have := ‹_ ∧ _›; exact this.1) (by decide) (by decide)
        · exact .refl
      · split
        · split
          · rename_i h0
            split
            · exact stp_opn h0 (by decide) (by decide)
            · refine (stp_up (by decide)).trans (stp_opn ?_ (by decide) (by decide))
              rw [up_k (by decide)]; exact h0
          · exact .refl
        · split
          · exact stp_up (by decide)
          · exact stp_flo
theorem stp_fac {S : Sem} {m : Hp} {n y : Nat} {tr : Bool} {R : Run} : stp R (facS S m n tr y R) := stp_for (fun i T => by
  unfold facF
  split
  · exact stp_hap
  · exact .refl) _
theorem kpt_stp {R R' : Run} (h : stp R R') : ∀ {N : Nat}, kpt N R' ≤ kpt N R
  | 0 => Nat.le_refl _
  | N + 1 => by
    rw [kpt_s, kpt_s]
    have := kpt_stp h (N := N)
    rcases h N with ⟨a, _⟩ | ⟨a, b, _⟩
    · rw [a]; omega
    · rw [if_neg b]; omega
/-- what a look has done -/
theorem look_p {S : Sem} {m : Hp} {y : Nat} : ∀ (n : Nat) (R : Run), (∀ l, l ∈ (lookS S m y n R).2 → l < nL m ∧ R 0 l = 0 ∧ (lookS S m y n R).1 0 l = 1 ∧ (lookS S m y n R).1 1 l = nI y) ∧ (∀ l, ¬ l ∈ (lookS S m y n R).2 → (lookS S m y n R).1 0 l = R 0 l ∧ (lookS S m y n R).1 1 l = R 1 l) ∧ (lookS S m y n R).2.Nodup ∧ (lookS S m y n R).2.length + kpt (nL m) (lookS S m y n R).1 = kpt (nL m) R := by
  intro n
  induction n with
  | zero =>
    intro R
    rw [lookS]
    exact ⟨fun l hl => absurd hl (by simp), fun l _ => ⟨rfl, rfl⟩, List.nodup_nil, Nat.zero_add _⟩
  | succ n ih =>
    intro R
    rw [lookS]
    cases hf : fdS S m y R with
    | none => exact ⟨fun l hl => absurd hl (by simp), fun l _ => ⟨rfl, rfl⟩, List.nodup_nil, Nat.zero_add _⟩
    | some l =>
      obtain ⟨hln, hd⟩ := fd_el hf
      have h0 := due_0 hd
      have hk := kpt_end (R := R) (l := l) (v := 1) (by decide) h0 (R' := opnS R l 1 (nI y)) opn_0 hln
      obtain ⟨i1, i2, i3, i4⟩ := ih (opnS R l 1 (nI y))
      have hn : ¬ l ∈ (lookS S m y n (opnS R l 1 (nI y))).2 := fun x => by
        have := (i1 l x).2.1
        rw [opn_0, if_pos rfl] at this
        exact absurd this (by decide)
      simp only
      refine ⟨fun j hj => ?_, fun j hj => ?_, List.nodup_cons.mpr ⟨hn, i3⟩, ?_⟩
      · by_cases e : j = l
        · subst e
          have := i2 j hn
          rw [opn_0, opn_1, if_pos rfl, if_pos rfl] at this
          exact ⟨hln, h0, this.1, this.2⟩
        · rcases List.mem_cons.mp hj with hj | hj
          · exact absurd hj e
          · have := i1 j hj
            rw [opn_0, if_neg e] at this
            exact this
      · rw [List.mem_cons, not_or] at hj
        have := i2 j hj.2
        rw [opn_0, opn_1, if_neg hj.1, if_neg hj.1] at this
        exact this
      · rw [List.length_cons]; omega
/-- a run, year by year -/
def R0S (m : Hp) : Run := fun k j => if k = 1 then -2 else if k = 2 then liI m j else 0
def yrR (S : Sem) (m : Hp) (n : Nat) (tr : Bool) (q : Nat → Bool) (y : Nat) (R : Run) : Run × List Nat := if q y = true then lookS S m y 10 (payS S m y (facS S m n tr y R)) else (payS S m y (facS S m n tr y R), [])
def runS (S : Sem) (m : Hp) (n : Nat) (tr : Bool) (q : Nat → Bool) : Nat → Run × List Nat
  | 0 => (R0S m, [])
  | y + 1 => ((yrR S m n tr q y (runS S m n tr q y).1).1, (runS S m n tr q y).2 ++ (yrR S m n tr q y (runS S m n tr q y).1).2)
/-- what holds of a run and the order of its openings -/
def inv (m : Hp) (y : Nat) (R : Run) (ls : List Nat) : Prop := ls.length + kpt (nL m) R ≤ nL m ∧ (∀ l, l ∈ ls → l < nL m ∧ R 0 l = 1 ∧ ∃ t, t < y ∧ R 1 l = nI t) ∧ ls.Nodup ∧ (∀ l, l < nL m → R 0 l = 1 → l ∈ ls) ∧ (∀ l, R 0 l = 0 → R 1 l = -2)
theorem inv_0 {m : Hp} : inv m 0 (R0S m) [] := ⟨by rw [List.length_nil, Nat.zero_add]; exact kpt_le, fun l hl => absurd hl (by simp), List.nodup_nil, fun l _ h => absurd (show (0 : Int32) = 1 from h) (by decide), fun l _ => rfl⟩
theorem inv_stp {m : Hp} {y : Nat} {R R' : Run} {ls : List Nat} (h : inv m y R ls) (s : stp R R') : inv m y R' ls := by
  obtain ⟨h1, h2, h3, h4, h5⟩ := h
  have hk := kpt_stp s (N := nL m)
  refine ⟨by omega, fun l hl => ?_, h3, fun l hl h => ?_, fun l h => ?_⟩
  · obtain ⟨a1, a2, a3⟩ := h2 l hl
    rcases s l with ⟨b1, b2⟩ | ⟨b1, _⟩
    · rw [b1, b2]; exact ⟨a1, a2, a3⟩
    · rw [b1] at a2; exact absurd a2 (by decide)
  · rcases s l with ⟨b1, b2⟩ | ⟨b1, b2, b3⟩
    · exact h4 l hl (b1 ▸ h)
    · exact absurd h b3
  · rcases s l with ⟨b1, b2⟩ | ⟨b1, b2, b3⟩
    · rw [b2]; exact h5 l (b1 ▸ h)
    · exact absurd h b2
theorem inv_le {m : Hp} {y z : Nat} {R : Run} {ls : List Nat} (h : inv m y R ls) (hz : y ≤ z) : inv m z R ls := ⟨h.1, fun l hl => by obtain ⟨a1, a2, t, a3, a4⟩ := h.2.1 l hl; exact ⟨a1, a2, t, by omega, a4⟩, h.2.2⟩
theorem inv_look {S : Sem} {m : Hp} {y n : Nat} {R : Run} {ls : List Nat} (h : inv m y R ls) : inv m (y + 1) (lookS S m y n R).1 (ls ++ (lookS S m y n R).2) := by
  obtain ⟨p1, p2, p3, p4⟩ := look_p (S := S) (m := m) (y := y) n R
  obtain ⟨h1, h2, h3, h4, h5⟩ := h
  have dj : ∀ l, l ∈ ls → ¬ l ∈ (lookS S m y n R).2 := fun l hl x => by
    have := (h2 l hl).2.1
    rw [(p1 l x).2.1] at this
    exact absurd this (by decide)
  refine ⟨by rw [List.length_append]; omega, fun l hl => ?_, ?_, fun l hl h => ?_, fun l h => ?_⟩
  · rcases List.mem_append.mp hl with hl | hl
    · obtain ⟨a1, a2, t, a3, a4⟩ := h2 l hl
      obtain ⟨b1, b2⟩ := p2 l (dj l hl)
      rw [b1, b2]; exact ⟨a1, a2, t, by omega, a4⟩
    · obtain ⟨a1, a2, a3, a4⟩ := p1 l hl
      exact ⟨a1, a3, y, by omega, a4⟩
  · rw [List.nodup_append]
    refine ⟨h3, p3, fun a ha b hb hab => ?_⟩
    subst hab
    exact dj a ha hb
  · by_cases hm : l ∈ (lookS S m y n R).2
    · exact List.mem_append_right _ hm
    · rw [(p2 l hm).1] at h
      exact List.mem_append_left _ (h4 l hl h)
  · by_cases hm : l ∈ (lookS S m y n R).2
    · rw [(p1 l hm).2.2.1] at h; exact absurd h (by decide)
    · obtain ⟨b1, b2⟩ := p2 l hm
      rw [b2]; exact h5 l (b1 ▸ h)
theorem inv_run {S : Sem} {m : Hp} {n : Nat} {tr : Bool} {q : Nat → Bool} : ∀ y, inv m y (runS S m n tr q y).1 (runS S m n tr q y).2
  | 0 => inv_0
  | y + 1 => by
    have h := inv_stp (inv_run (S := S) (m := m) (n := n) (tr := tr) (q := q) y) ((stp_fac (S := S) (m := m) (n := n) (y := y) (tr := tr)).trans (stp_pay (S := S) (m := m) (y := y)))
    rw [runS]
    unfold yrR
    by_cases hq : q y = true
    · rw [if_pos hq]; exact inv_look h
    · rw [if_neg hq]
      show inv m (y + 1) (payS S m y (facS S m n tr y (runS S m n tr q y).1)) ((runS S m n tr q y).2 ++ [])
      rw [List.append_nil]
      exact inv_le h (by omega)
