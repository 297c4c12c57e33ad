theorem WD_nil {q : Nat → Nat} {cy : Nat → ClassId} {h : Hp} {D : va_G} {H : Heap} : va_P D vwCl (WD [] q cy h) H := fun k x hx => by simp [WD] at hx
theorem va_nd_range : ∀ n, va_nd (List.range n) = true := by
  have key : ∀ l : List Nat, l.Nodup → va_nd l = true := by
    intro l
    induction l with
    | nil => intro _; rfl
    | cons a l ih =>
      intro h
      have h2 := List.nodup_cons.mp h
      simp only [va_nd, Bool.and_eq_true, decide_eq_true_eq]
      exact ⟨h2.1, ih h2.2⟩
  exact fun n => key _ List.nodup_range
theorem range_map_get {α : Type} (l r : List α) : (List.range l.length).map (fun i => (l ++ r)[i]?) = l.map some := by
  apply List.ext_getElem?
  intro i
  rw [List.getElem?_map, List.getElem?_map]
  by_cases h : i < l.length
  · rw [List.getElem?_range h]
    simp [List.getElem?_append_left h, h]
  · have e1 : (List.range l.length)[i]? = none := List.getElem?_eq_none (by rw [List.length_range]; omega)
    have e2 : l[i]? = none := List.getElem?_eq_none (by omega)
    rw [e1, e2]; rfl
theorem rw_join {D : va_G} {A : Nat → Prop} {rest w1 : va_W} {x : Nat × va_E} {H H1 : Heap} (hP : va_P D vwCl (rest ++ [x]) H) (hD : va_D A (rest ++ [x])) (hF : ∀ q, va_A [x] H.size q → A q) (hk : ∀ q : Nat, q < H.size → ¬ va_A [x] H.size q → H1[q]? = H[q]?) (hP1 : va_P D vwCl w1 H1) (hD1 : va_D (va_A [x] H.size) w1) : va_P D vwCl (rest ++ w1) H1 ∧ va_D A (rest ++ w1) := by
  refine va_join (wr := rest) (w1 := w1) (wc := [x]) hP hD [rest.length] (List.range rest.length) ?_ (range_map_get rest [x]) (va_nd_range _) ?_ hk hF hP1 hD1
  · simp
  · intro i hi h
    rw [List.mem_range] at hi
    rw [List.mem_singleton] at h
    omega
section CRULES3
variable {qs : Nat → Nat} {D : va_G} {cy : Nat → ClassId} {l : Launch} {G : GT} {cc : ByteArray} {own : String} {ca sl nL n mc ms pc : Nat} {lv : List (Nat × Value)} {st : List Value} {ws : va_W} {Post : va_W → Prop}
theorem r_callS {y : MethodName} {cc' : ByteArray} {mL np n' idx : Nat} {ret : Option FieldType} {As rest : List Value} {ov : Option Value} {h0 h1 : Hp} (X : CI l qs D cy G cc own nL n mc ms Post) (d : decode cc pc = .ok (.invokestatic idx, 3)) (hm : Cond.methodLink own idx y ∈ TB) (hc : CK y cc' mL ret np) (hv : Cond.static y ∈ TB) (hn : n' + 1 ≤ n) (hcs : ca ≤ mc ∧ sl ≤ ms) (hAs : As.length = np) (hrest : (rest.map fun v => v.category).sum ≤ 8) (hst : st = As.reverse ++ rest)
    (hM : MC (l, qs, D, cy, []) y cc' mL ret n' As h0 ov h1) (kk : JW (RW D G.2.2.1 ws) l G ca sl nL (pc + 3) lv (ov.toList ++ rest)) : JW (RW D G.2.2.1 ws) l G ca sl nL pc lv st := fun H locs ls hP hS hl => by
  subst hst
  obtain ⟨X1, hin, hR, hx, -⟩ := X
  have hmL := hc.2.2.2
  have hr := va_runS (p := G.1.1) (l := l) (e := G.1.2.1) (R := G.1.2.2.1) (s := G.1.2.2.2.1) (m := G.1.2.2.2.2) (args := G.2.1.1) (below := G.2.1.2.1) (meth := G.2.1.2.2.1) (c := G.2.1.2.2.2) (H := H) (locs := locs) (cells := ca) (slots := sl) (As := As) (rest := rest) (Ts := TB) (g := F0 G.1.2.2.2.2 pc ls (As.reverse ++ rest)) X1.1 hM ⟨callB_of np X1.1.2.2.2.2 (gTB hc.1) rfl rfl rfl (X1.1.2.2.2.2 _ hc.2.1) (X1.1.2.2.2.2 _ hm) hc.2.2.1 ⟨by rw [hR]; exact hn, by rw [hR]; show 8 + (mL + 11) + 40 * n' ≤ 40 * n; omega⟩, X1.1.2.2.2.2 _ hv⟩ ⟨PC_blind, fun U hU hW => ⟨rfl, WD_nil, va_K.moved hW.alike X1.2.1, (fun a b h _ _ => by simp [ids] at h), by rw [hU]; exact ((hx.moved hW).kept hS.2.1).narrow (fun a h => by obtain ⟨k, h, -⟩ := h; simp [ids] at h), by simp [nd]⟩⟩ rfl hAs hl.1 rfl (lv_room hrest) d ⟨by rw [hR]; exact hcs.1, by rw [hR]; exact hcs.2⟩
  intro T hT XX
  obtain ⟨v, st₀, t, T', L', e0, X', hL, e1, e2, ⟨hv', -, hz, hkk⟩, stt⟩ := hr T hT XX
  cases hv'
  rw [e0] at hz hkk
  have hno : ∀ a, ¬ AA ([] : List (Nat × Shp)) qs a := fun a h => by obtain ⟨k, h, -⟩ := h; simp [ids] at h
  have hsame : ∀ q : Nat, q < H.size → T'.heap[q]? = H[q]? := fun q hq => by rw [e1]; exact hkk q hq (hno q)
  obtain ⟨t2, a1, b1⟩ := kk T'.heap (locs ++ L') ls ⟨hP.1.kept (fun k x hx => hsame _ (hP.1 k x hx).lt), hP.2⟩
    ⟨Nat.le_trans hS.1 (by rw [e1]; exact hz), fun q h1 h2 => by rw [hsame q (Nat.lt_of_lt_of_le h1 hS.1)]; exact hS.2.1 q h1 h2, fun q hq => by
      rcases List.mem_append.mp hq with h | h
      · exact hS.2.2 q h
      · exact absurd (hL q h) (hno _)⟩ hl T' rfl X'
  exact ⟨t2, stt t2 a1, b1⟩
/-- behind a constructor's call -/
theorem r_backI {a ci : Nat} {fs : List Value} {Post' : va_W → Prop} {av : Array Value} {g : List Value} {rest : List Value} {mc' ms' : Nat} {H : Heap} {locs : List Loc} {ls : Array Slot} {wr : va_W} (X : CI l qs D cy G cc own nL n mc ms Post) (hl : lv_has ls nL lv) (hP : RW D G.2.2.1 (wr ++ [(a, .inr (ci, fs))]) H) (hS : va_S G.2.2.1 G.1.2.2.2.1.heap H locs)
    (hr : va_Run G.1.1 l G.1.2.1 G.1.2.2.1 G.1.2.2.2.1 G.1.2.2.2.2 G.2.1.1 G.2.1.2.1 G.2.1.2.2.1 G.2.1.2.2.2 H locs ca sl mc' ms' (F0 G.1.2.2.2.2 pc ls g) rest (QI D Post' (va_A [(a, .inr (ci, fs))] H.size) av) (va_A [(a, .inr (ci, fs))] H.size)) (kk : ∀ w1, Post' w1 → JW (RW D G.2.2.1 (wr ++ w1)) l G (ca + mc') (sl + ms') nL (pc + 3) lv rest) :
    W G.1.1 l G.1.2.1 G.1.2.2.1 G.1.2.2.2.1 G.1.2.2.2.2 G.2.1.1 G.2.1.2.1 G.2.1.2.2.1 G.2.1.2.2.2 H locs ca sl G.2.2.2.2.2 (F0 G.1.2.2.2.2 pc ls g) := by
  intro T hT XX
  obtain ⟨v, st₀, t, T', L', e0, X', hL, e1, e2, ⟨hv', ⟨w1, hw1, hP1, hD1⟩, hz, hkk⟩, stt⟩ := hr T hT XX
  cases hv'
  rw [e0] at hz hkk
  have hF : ∀ q, va_A [(a, .inr (ci, fs))] H.size q → G.2.2.1 q := by
    intro q hq
    rcases hq with ⟨k, e, h⟩ | h
    · have h1 : k < 1 := (List.getElem?_eq_some_iff.mp h).1
      rw [show k = 0 by omega] at h
      cases h
      exact hP.2.2 wr.length (a, .inr (ci, fs)) (by simp)
    · exact X.1.2.2 q (Nat.le_trans hS.1 h)
  obtain ⟨j1, j2⟩ := rw_join hP.1 hP.2 hF hkk hP1 hD1
  obtain ⟨t2, a1, b1⟩ := kk w1 hw1 T'.heap (locs ++ L') ls ⟨by rw [e1]; exact j1, j2⟩
    ⟨Nat.le_trans hS.1 (by rw [e1]; exact hz), fun q h1 h2 => by rw [e1, hkk q (Nat.lt_of_lt_of_le h1 hS.1) (fun z => h2 (hF q z))]; exact hS.2.1 q h1 h2, fun q hq => by
      rcases List.mem_append.mp hq with h | h
      · exact hS.2.2 q h
      · exact hF _ (hL q h)⟩ hl T' rfl X'
  exact ⟨t2, stt t2 a1, b1⟩
theorem r_preI {a ci : Nat} {fs : List Value} {As : List Value} {H : Heap} {locs : List Loc} {wr : va_W} (X : CI l qs D cy G cc own nL n mc ms Post) (hP : RW D G.2.2.1 (wr ++ [(a, .inr (ci, fs))]) H) (hS : va_S G.2.2.1 G.1.2.2.2.1.heap H locs) : PreS G.1.2.2.2.1 H (PI qs D cy (.ref a :: As) a ci H.size fs) (.ref a :: As) := by
  have h0 : (wr ++ [(a, (.inr (ci, fs) : va_E))])[wr.length]? = some (a, .inr (ci, fs)) := by simp
  refine ⟨PI_blind, fun U hU hW => ⟨rfl, by rw [hU], by rw [hU]; exact hP.1.sub [wr.length] (by simp), va_K.moved hW.alike X.1.2.1, (hP.1 _ _ h0).lt, ?_⟩⟩
  rw [hU]
  refine ((X.2.2.2.1.moved hW).kept hS.2.1).narrow (fun q hq => ?_)
  rcases hq with ⟨k, e, h⟩ | h
  · have h1 : k < 1 := (List.getElem?_eq_some_iff.mp h).1
    rw [show k = 0 by omega] at h
    cases h
    exact hP.2.2 _ _ h0
  · exact X.1.2.2 q (Nat.le_trans hS.1 h)
theorem r_callI {y : MethodName} {cc' : ByteArray} {mL np n' idx a ci mc' ms' : Nat} {fs : List Value} {As rest : List Value} {Post' : va_W → Prop} (wr : va_W) (X : CI l qs D cy G cc own nL n mc ms Post) (d : decode cc pc = .ok (.invokespecial idx, 3)) (hm : Cond.methodLink own idx y ∈ TB) (hc : CK y cc' mL none np) (hv : Cond.instanceMethod y ∈ TB) (hyn : y.name = "<init>") (hn : n' + 1 ≤ n) (hcs : ca + mc' ≤ mc ∧ sl + ms' ≤ ms) (hAs : As.length = np) (hrest : (rest.map fun v => v.category).sum ≤ 8) (hst : st = As.reverse ++ .ref a :: rest) (hws : ws = wr ++ [(a, .inr (ci, fs))])
    (hM : ∀ sz, MI l qs D cy y cc' mL n' mc' ms' (.ref a :: As) a ci sz fs Post') (kk : ∀ w1, Post' w1 → JW (RW D G.2.2.1 (wr ++ w1)) l G (ca + mc') (sl + ms') nL (pc + 3) lv rest) : JW (RW D G.2.2.1 ws) l G ca sl nL pc lv st := fun H locs ls hP hS hl => by
  subst hst
  subst hws
  obtain ⟨X1, hin, hR, hx, hQ⟩ := id X
  have hmL := hc.2.2.2
  exact r_backI X hl hP hS (va_runI (As := As) (rest := rest) (Ts := TB) X1.1 (hM H.size) ⟨callB_of np X1.1.2.2.2.2 (gTB hc.1) rfl rfl rfl (X1.1.2.2.2.2 _ hc.2.1) (X1.1.2.2.2.2 _ hm) hc.2.2.1 ⟨by rw [hR]; exact hn, by rw [hR]; show 8 + (mL + 11) + 40 * n' ≤ 40 * n; omega⟩, hyn, X1.1.2.2.2.2 _ hv⟩ (r_preI X hP hS) rfl hAs hl.1 rfl (lv_room hrest) d ⟨by rw [hR]; exact hcs.1, by rw [hR]; exact hcs.2⟩) kk
end CRULES3
