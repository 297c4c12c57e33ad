/-- a course becomes another one -/
theorem cpb10 : cpb 0 0 10 10 10 = true := cpb_ok (n := 10) (N := 10) (by decide) (by decide)
theorem cpb60 : cpb 0 0 60 60 60 = true := cpb_ok (n := 60) (N := 60) (by decide) (by decide)
theorem C_becomeC {m h : Hp} {R : Run} {ls : List Nat} {tr : Bool} (hN : nL m ≤ 10) (hlen : ls.length ≤ 10) (H : KC 198 (nL m) R ls tr h) : Ok (fX1_become 190 198 h) (fun h' => KC 190 (nL m) R ls tr h' ∧ CF 190 h h') := by
  have i10' : ix 10 = 10 := rfl
  have i60' : ix 60 = 60 := rfl
  have i0' : ix 0 = 0 := rfl
  have ke : ∀ (g : Hp) (ks kd n a b : Nat), a ≠ kd → (cpI g ks kd 0 0 n).1 a b = g.1 a b := fun g ks kd n a b => cpI_k
  have kw : ∀ (g : Hp) (k j a b : Nat) (v : Int32), a ≠ k → (wI g k j v).1 a b = g.1 a b := fun g k j a b v => wI_k
  have r10 : h.1 198 10 = nI ls.length := H.2.1
  have r11 : h.1 198 11 = R 6 0 := H.de
  have r12 : h.1 198 12 = R 6 1 := H.be
  have r13 : h.1 198 13 = R 6 2 := H.ha
  have r14 : h.1 198 14 = b2 tr := H.2.2.2
  simp only [fX1_become, ck_of cpb10, ck_of cpb60, lt_q, i10', i60', i0', ke _ _ 191 _ 198 _ (by decide), ke _ _ 192 _ 198 _ (by decide), ke _ _ 193 _ 198 _ (by decide), ke _ _ 194 _ 198 _ (by decide), ke _ _ 195 _ 198 _ (by decide), ke _ _ 196 _ 198 _ (by decide), ke _ _ 197 _ 198 _ (by decide), kw _ 190 _ 198 _ _ (by decide), r10, r11, r12, r13, r14, ck_of (b2_zb tr), ok_some, Nat.reduceAdd]
  refine ⟨⟨fun k j hd => ?_, ?_, fun i hi => ?_, wI_s⟩, ?_⟩
  · have h6 := dm_6 hd
    have hc : k = 0 ∨ k = 1 ∨ k = 2 ∨ k = 3 ∨ k = 4 ∨ k = 5 ∨ k = 6 := by omega
    have hd' := hd
    unfold dm at hd
    rcases hc with rfl | rfl | rfl | rfl | rfl | rfl | rfl
    · show (wI (wI (wI (wI (wI (cpI (cpI (cpI (cpI (cpI (cpI (cpI h 199 191 0 0 10) 200 192 0 0 10) 201 193 0 0 10) 202 194 0 0 10) 203 195 0 0 10) 204 196 0 0 10) 205 197 0 0 60) 190 10 _) 190 11 _) 190 12 _) 190 13 _) 190 14 _).1 191 j = R 0 j
      rw [wI_k (by decide), wI_k (by decide), wI_k (by decide), wI_k (by decide), wI_k (by decide), cpI_k (by decide), cpI_k (by decide), cpI_k (by decide), cpI_k (by decide), cpI_k (by decide), cpI_k (by decide), cpI_in (by omega)]
      exact H.1 0 j hd'
    · show (wI (wI (wI (wI (wI (cpI (cpI (cpI (cpI (cpI (cpI (cpI h 199 191 0 0 10) 200 192 0 0 10) 201 193 0 0 10) 202 194 0 0 10) 203 195 0 0 10) 204 196 0 0 10) 205 197 0 0 60) 190 10 _) 190 11 _) 190 12 _) 190 13 _) 190 14 _).1 192 j = R 1 j
      rw [wI_k (by decide), wI_k (by decide), wI_k (by decide), wI_k (by decide), wI_k (by decide), cpI_k (by decide), cpI_k (by decide), cpI_k (by decide), cpI_k (by decide), cpI_k (by decide), cpI_in (by omega), cpI_k (by decide)]
      exact H.1 1 j hd'
    · show (wI (wI (wI (wI (wI (cpI (cpI (cpI (cpI (cpI (cpI (cpI h 199 191 0 0 10) 200 192 0 0 10) 201 193 0 0 10) 202 194 0 0 10) 203 195 0 0 10) 204 196 0 0 10) 205 197 0 0 60) 190 10 _) 190 11 _) 190 12 _) 190 13 _) 190 14 _).1 193 j = R 2 j
      rw [wI_k (by decide), wI_k (by decide), wI_k (by decide), wI_k (by decide), wI_k (by decide), cpI_k (by decide), cpI_k (by decide), cpI_k (by decide), cpI_k (by decide), cpI_in (by omega), cpI_k (by decide), cpI_k (by decide)]
      exact H.1 2 j hd'
    · show (wI (wI (wI (wI (wI (cpI (cpI (cpI (cpI (cpI (cpI (cpI h 199 191 0 0 10) 200 192 0 0 10) 201 193 0 0 10) 202 194 0 0 10) 203 195 0 0 10) 204 196 0 0 10) 205 197 0 0 60) 190 10 _) 190 11 _) 190 12 _) 190 13 _) 190 14 _).1 194 j = R 3 j
      rw [wI_k (by decide), wI_k (by decide), wI_k (by decide), wI_k (by decide), wI_k (by decide), cpI_k (by decide), cpI_k (by decide), cpI_k (by decide), cpI_in (by omega), cpI_k (by decide), cpI_k (by decide), cpI_k (by decide)]
      exact H.1 3 j hd'
    · show (wI (wI (wI (wI (wI (cpI (cpI (cpI (cpI (cpI (cpI (cpI h 199 191 0 0 10) 200 192 0 0 10) 201 193 0 0 10) 202 194 0 0 10) 203 195 0 0 10) 204 196 0 0 10) 205 197 0 0 60) 190 10 _) 190 11 _) 190 12 _) 190 13 _) 190 14 _).1 196 j = R 4 j
      rw [wI_k (by decide), wI_k (by decide), wI_k (by decide), wI_k (by decide), wI_k (by decide), cpI_k (by decide), cpI_in (by omega), cpI_k (by decide), cpI_k (by decide), cpI_k (by decide), cpI_k (by decide), cpI_k (by decide)]
      exact H.1 4 j hd'
    · show (wI (wI (wI (wI (wI (cpI (cpI (cpI (cpI (cpI (cpI (cpI h 199 191 0 0 10) 200 192 0 0 10) 201 193 0 0 10) 202 194 0 0 10) 203 195 0 0 10) 204 196 0 0 10) 205 197 0 0 60) 190 10 _) 190 11 _) 190 12 _) 190 13 _) 190 14 _).1 197 j = R 5 j
      rw [wI_k (by decide), wI_k (by decide), wI_k (by decide), wI_k (by decide), wI_k (by decide), cpI_in (by omega), cpI_k (by decide), cpI_k (by decide), cpI_k (by decide), cpI_k (by decide), cpI_k (by decide), cpI_k (by decide)]
      exact H.1 5 j hd'
    · have : j = 0 ∨ j = 1 ∨ j = 2 := by omega
      rcases this with rfl | rfl | rfl
      · show (wI (wI (wI (wI (wI _ 190 10 _) 190 11 (R 6 0)) 190 12 _) 190 13 _) 190 14 _).1 190 11 = R 6 0
        rw [wI_j (by decide), wI_j (by decide), wI_j (by decide), wI_s]
      · show (wI (wI (wI (wI (wI _ 190 10 _) 190 11 _) 190 12 (R 6 1)) 190 13 _) 190 14 _).1 190 12 = R 6 1
        rw [wI_j (by decide), wI_j (by decide), wI_s]
      · show (wI (wI (wI (wI (wI _ 190 10 _) 190 11 _) 190 12 _) 190 13 (R 6 2)) 190 14 _).1 190 13 = R 6 2
        rw [wI_j (by decide), wI_s]
  · rw [wI_j (by decide), wI_j (by decide), wI_j (by decide), wI_j (by decide), wI_s]
  · show (wI (wI (wI (wI (wI (cpI (cpI (cpI (cpI (cpI (cpI (cpI h 199 191 0 0 10) 200 192 0 0 10) 201 193 0 0 10) 202 194 0 0 10) 203 195 0 0 10) 204 196 0 0 10) 205 197 0 0 60) 190 10 _) 190 11 _) 190 12 _) 190 13 _) 190 14 _).1 195 i = nI (ls.getD i 0)
    rw [wI_k (by decide), wI_k (by decide), wI_k (by decide), wI_k (by decide), wI_k (by decide), cpI_k (by decide), cpI_k (by decide), cpI_in (by omega), cpI_k (by decide), cpI_k (by decide), cpI_k (by decide), cpI_k (by decide)]
    exact H.2.2.1 i hi
  · have cp : ∀ (g0 g : Hp) (ks kd n : Nat), CF 190 g0 g → 190 ≤ kd ∧ kd ≤ 190 + 7 → CF 190 g0 (cpI g ks kd 0 0 n) := fun g0 g ks kd n a hk a' b x w => by
      refine ⟨?_, (a a' b x w).2⟩
      rw [cpI_k, (a a' b x w).1]
      rintro rfl
      exact x hk
    refine ((((CF.wI ?_ (by omega)).wI (by omega)).wI (by omega)).wI (by omega)).wI (by omega)
    exact cp _ _ _ _ _ (cp _ _ _ _ _ (cp _ _ _ _ _ (cp _ _ _ _ _ (cp _ _ _ _ _ (cp _ _ _ _ _ (cp _ _ _ _ _ CF.refl (by omega)) (by omega)) (by omega)) (by omega)) (by omega)) (by omega)) (by omega)
/-- what a look opened is shut again -/
theorem look_6 {S : Sem} {m : Hp} {y j : Nat} (h : j ≠ 1) : ∀ (n : Nat) (R : Run), (lookS S m y n R).1 6 j = R 6 j := by
  intro n
  induction n with
  | zero => intro R; rfl
  | succ n ih =>
    intro R
    rw [lookS]
    cases fdS S m y R with
    | none => rfl
    | some l =>
      simp only
      rw [ih]
      unfold opnS
      rw [up_j h, bec_k (by decide)]
def shuS (ls : List Nat) (R : Run) : Run := ls.foldl (fun R l => becS R l 0 (-2)) R
theorem shu_k {k j : Nat} (h : 2 ≤ k) : ∀ (ls : List Nat) (R : Run), shuS ls R k j = R k j
  | [], R => rfl
  | l :: ls, R => by
    show shuS ls (becS R l 0 (-2)) k j = _
    rw [shu_k h ls, bec_k h]
theorem shu_0 {j : Nat} : ∀ (ls : List Nat) (R : Run), shuS ls R 0 j = if j ∈ ls then 0 else R 0 j
  | [], R => by rw [if_neg (by simp)]; rfl
  | l :: ls, R => by
    show shuS ls (becS R l 0 (-2)) 0 j = _
    rw [shu_0 ls, bec_0]
    by_cases e1 : j ∈ ls
    · rw [if_pos e1, if_pos (List.mem_cons_of_mem _ e1)]
    · rw [if_neg e1]
      by_cases e2 : j = l
      · rw [if_pos e2, if_pos (by rw [e2]; exact List.mem_cons_self)]
      · rw [if_neg e2, if_neg (by rw [List.mem_cons, not_or]; exact ⟨e2, e1⟩)]
theorem shu_1 {j : Nat} : ∀ (ls : List Nat) (R : Run), shuS ls R 1 j = if j ∈ ls then -2 else R 1 j
  | [], R => by rw [if_neg (by simp)]; rfl
  | l :: ls, R => by
    show shuS ls (becS R l 0 (-2)) 1 j = _
    rw [shu_1 ls, bec_1]
    by_cases e1 : j ∈ ls
    · rw [if_pos e1, if_pos (List.mem_cons_of_mem _ e1)]
    · rw [if_neg e1]
      by_cases e2 : j = l
      · rw [if_pos e2, if_pos (by rw [e2]; exact List.mem_cons_self)]
      · rw [if_neg e2, if_neg (by rw [List.mem_cons, not_or]; exact ⟨e2, e1⟩)]
theorem shu_look {S : Sem} {m : Hp} {y n : Nat} {R : Run} (h5 : ∀ l, R 0 l = 0 → R 1 l = -2) : up (shuS (lookS S m y n R).2 (lookS S m y n R).1) 6 1 (R 6 1) = R := by
  obtain ⟨p1, p2, _, _⟩ := look_p (S := S) (m := m) (y := y) n R
  funext k j
  show (if k = 6 ∧ j = 1 then R 6 1 else _) = _
  by_cases e : k = 6 ∧ j = 1
  · rw [if_pos e, e.1, e.2]
  · rw [if_neg e]
    by_cases k0 : k = 0
    · subst k0
      rw [shu_0]
      by_cases hm : j ∈ (lookS S m y n R).2
      · rw [if_pos hm]; exact (p1 j hm).2.1.symm
      · rw [if_neg hm]; exact (p2 j hm).1
    · by_cases k1 : k = 1
      · subst k1
        rw [shu_1]
        by_cases hm : j ∈ (lookS S m y n R).2
        · rw [if_pos hm]; exact (h5 j (p1 j hm).2.1).symm
        · rw [if_neg hm]; exact (p2 j hm).2
      · rw [shu_k (by omega)]
        by_cases k6 : k = 6
        · subst k6; exact look_6 (fun x => e ⟨rfl, x⟩) n R
        · exact look_k (by omega) k6 n R
