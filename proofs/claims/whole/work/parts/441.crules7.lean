section CRULES7
variable {qs : Nat → Nat} {D : va_G} {cy : Nat → ClassId} {l : Launch} {G : GT} {cc : ByteArray} {own : String} {ca sl nL n mc ms pc : Nat} {lv : List (Nat × Value)} {st : List Value} {ws : va_W} {Post : va_W → Prop}
theorem r_inA {a ci : Nat} {fs : List Value} {H : Heap} {locs : List Loc} {wr : va_W} (X : CR D cy G cc own nL) (hP : RW D G.2.2.1 (wr ++ [(a, .inr (ci, fs))]) H) (hS : va_S G.2.2.1 G.1.2.2.2.1.heap H locs) : ∀ q, va_A [(a, .inr (ci, fs))] H.size q → G.2.2.1 q := by
  intro q hq
  rcases hq with ⟨k, e, h⟩ | h
  · have h1 : k < 1 := (List.getElem?_eq_some_iff.mp h).1
    rw [show k = 0 by omega] at h
    cases h
    exact hP.2.2 wr.length (a, .inr (ci, fs)) (by simp)
  · exact X.2.2 q (Nat.le_trans hS.1 h)
/-- behind a constructor's call, in any method -/
theorem r_backG {a ci : Nat} {fs : List Value} {Post' : va_W → Prop} {av : Array Value} {g : List Value} {rest : List Value} {mc' ms' : Nat} {H : Heap} {locs : List Loc} {ls : Array Slot} {wr : va_W} (X : CR D cy G cc own nL) (hl : lv_has ls nL lv) (hP : RW D G.2.2.1 (wr ++ [(a, .inr (ci, fs))]) H) (hS : va_S G.2.2.1 G.1.2.2.2.1.heap H locs)
    (hr : va_Run G.1.1 l G.1.2.1 G.1.2.2.1 G.1.2.2.2.1 G.1.2.2.2.2 G.2.1.1 G.2.1.2.1 G.2.1.2.2.1 G.2.1.2.2.2 H locs ca sl mc' ms' (F0 G.1.2.2.2.2 pc ls g) rest (QI D Post' (va_A [(a, .inr (ci, fs))] H.size) av) (va_A [(a, .inr (ci, fs))] H.size)) (kk : ∀ w1, Post' w1 → JW (RW D G.2.2.1 (wr ++ w1)) l G (ca + mc') (sl + ms') nL (pc + 3) lv rest) :
    W G.1.1 l G.1.2.1 G.1.2.2.1 G.1.2.2.2.1 G.1.2.2.2.2 G.2.1.1 G.2.1.2.1 G.2.1.2.2.1 G.2.1.2.2.2 H locs ca sl G.2.2.2.2.2 (F0 G.1.2.2.2.2 pc ls g) := by
  intro T hT XX
  obtain ⟨v, st₀, t, T', L', e0, X', hL, e1, e2, ⟨hv', ⟨w1, hw1, hP1, hD1⟩, hz, hkk⟩, stt⟩ := hr T hT XX
  cases hv'
  rw [e0] at hz hkk
  have hF := r_inA X hP hS
  obtain ⟨j1, j2⟩ := rw_join hP.1 hP.2 hF hkk hP1 hD1
  obtain ⟨t2, a1, b1⟩ := kk w1 hw1 T'.heap (locs ++ L') ls ⟨by rw [e1]; exact j1, j2⟩
    ⟨Nat.le_trans hS.1 (by rw [e1]; exact hz), fun q h1 h2 => by rw [e1, hkk q (Nat.lt_of_lt_of_le h1 hS.1) (fun z => h2 (hF q z))]; exact hS.2.1 q h1 h2, fun q hq => by
      rcases List.mem_append.mp hq with h | h
      · exact hS.2.2 q h
      · exact hF _ (hL q h)⟩ hl T' rfl X'
  exact ⟨t2, stt t2 a1, b1⟩
theorem r_callG {y : MethodName} {cc' : ByteArray} {mL np n' idx a ci mc' ms' : Nat} {fs : List Value} {As rest : List Value} {Post' : va_W → Prop} {Pc : Nat → Array Value → State → Prop} (wr : va_W) (X : CR D cy G cc own nL) (hR : n' + 1 ≤ G.1.2.2.1.frames ∧ 40 * n' + 40 ≤ G.1.2.2.1.locals ∧ ca + mc' ≤ G.1.2.2.1.cells ∧ sl + ms' ≤ G.1.2.2.1.slots) (d : decode cc pc = .ok (.invokespecial idx, 3)) (hm : Cond.methodLink own idx y ∈ TB) (hc : CK y cc' mL none np) (hv : Cond.instanceMethod y ∈ TB) (hyn : y.name = "<init>") (hAs : As.length = np) (hrest : (rest.map fun v => v.category).sum ≤ 8) (hst : st = As.reverse ++ .ref a :: rest) (hws : ws = wr ++ [(a, .inr (ci, fs))])
    (hpre : ∀ (H : Heap) (locs : List Loc), RW D G.2.2.1 (wr ++ [(a, .inr (ci, fs))]) H → va_S G.2.2.1 G.1.2.2.2.1.heap H locs → PreS G.1.2.2.2.1 H (Pc H.size) (.ref a :: As))
    (hM : ∀ sz, Met l y (Cond.code y cc' mL none :: TB) (rmI n' mc' ms') (Pc sz) (QI D Post' (va_A [(a, .inr (ci, fs))] sz)) mc' ms' (va_A [(a, .inr (ci, fs))] sz)) (kk : ∀ w1, Post' w1 → JW (RW D G.2.2.1 (wr ++ w1)) l G (ca + mc') (sl + ms') nL (pc + 3) lv rest) : JW (RW D G.2.2.1 ws) l G ca sl nL pc lv st := fun H locs ls hP hS hl => by
  subst hst
  subst hws
  have hmL := hc.2.2.2
  obtain ⟨r1, r2, r3, r4⟩ := hR
  exact r_backG X hl hP hS (va_runI (As := As) (rest := rest) (Ts := TB) X.1 (hM H.size) ⟨callB_of np X.1.2.2.2.2 (gTB hc.1) rfl rfl rfl (X.1.2.2.2.2 _ hc.2.1) (X.1.2.2.2.2 _ hm) hc.2.2.1 ⟨r1, Nat.le_trans (show 8 + (mL + 11) + 40 * n' ≤ 40 * n' + 40 by omega) r2⟩, hyn, X.1.2.2.2.2 _ hv⟩ (hpre H locs hP hS) rfl hAs hl.1 rfl (lv_room hrest) d ⟨r3, r4⟩) kk
theorem r_preG {a ci : Nat} {fs : List Value} {As : List Value} {H : Heap} {locs : List Loc} {wr : va_W} (X : CR D cy G cc own nL) (hx : SX qs G.2.2.1 G.1.2.2.2.1 G.1.2.2.2.1.heap) (hP : RW D G.2.2.1 (wr ++ [(a, .inr (ci, fs))]) H) (hS : va_S G.2.2.1 G.1.2.2.2.1.heap H locs) : PreS G.1.2.2.2.1 H (PI qs D cy (.ref a :: As) a ci H.size fs) (.ref a :: As) := by
  have h0 : (wr ++ [(a, (.inr (ci, fs) : va_E))])[wr.length]? = some (a, .inr (ci, fs)) := by simp
  refine ⟨PI_blind, fun U hU hW => ⟨rfl, by rw [hU], by rw [hU]; exact hP.1.sub [wr.length] (by simp), va_K.moved hW.alike X.2.1, (hP.1 _ _ h0).lt, ?_⟩⟩
  rw [hU]
  exact ((hx.moved hW).kept hS.2.1).narrow (r_inA X hP hS)
/-- the same with the String constants -/
def PI2 (K V : Nat) (f : Option Nat) (qs : Nat → Nat) (D : va_G) (cy : Nat → ClassId) (avs : List Value) (a ci sz : Nat) (fs : List Value) : Array Value → State → Prop := fun v U => PI qs D cy avs a ci sz fs v U ∧ SY K V f (va_A [(a, .inr (ci, fs))] sz) U U.heap
theorem PI2_blind {K V : Nat} {f : Option Nat} {avs : List Value} {a ci sz : Nat} {fs : List Value} : FrameBlind (PI2 K V f qs D cy avs a ci sz fs) := fun x U g mk ⟨h, hx⟩ => ⟨PI_blind x U g mk h, hx.blind (U' := U.calling g mk x) rfl⟩
def MI2 (l : Launch) (K V : Nat) (f : Option Nat) (qs : Nat → Nat) (D : va_G) (cy : Nat → ClassId) (y : MethodName) (cc : ByteArray) (mL n mc ms : Nat) (avs : List Value) (a ci sz : Nat) (fs : List Value) (Post : va_W → Prop) : Prop :=
  Met l y (Cond.code y cc mL none :: TB) (rmI n mc ms) (PI2 K V f qs D cy avs a ci sz fs) (QI D Post (va_A [(a, .inr (ci, fs))] sz)) mc ms (va_A [(a, .inr (ci, fs))] sz)
theorem r_pre2 {K V a ci : Nat} {f : Option Nat} {fs : List Value} {As : List Value} {H : Heap} {locs : List Loc} {wr : va_W} (X : CR D cy G cc own nL) (hx : SX qs G.2.2.1 G.1.2.2.2.1 G.1.2.2.2.1.heap) (S : SY K V f G.2.2.1 G.1.2.2.2.1 G.1.2.2.2.1.heap) (hP : RW D G.2.2.1 (wr ++ [(a, .inr (ci, fs))]) H) (hS : va_S G.2.2.1 G.1.2.2.2.1.heap H locs) : PreS G.1.2.2.2.1 H (PI2 K V f qs D cy (.ref a :: As) a ci H.size fs) (.ref a :: As) :=
  ⟨PI2_blind, fun U hU hW => ⟨(r_preG X hx hP hS).2 U hU hW, by rw [hU]; exact ((S.moved hW).kept hS.2.1).narrow (r_inA X hP hS)⟩⟩
theorem mi_start2 {K V : Nat} {f : Option Nat} {y : MethodName} {mL : Nat} {avs : List Value} {a ci sz : Nat} {fs : List Value} (hy : plainName y.cls = true) (hyn : y.name = "<init>") (hlen : (lg_sl avs).length ≤ mL)
    (k : ∀ G : GT, CI l qs D cy G cc y.cls mL n mc ms Post → SY K V f G.2.2.1 G.1.2.2.2.1 G.1.2.2.2.1.heap → JW (RW D G.2.2.1 [(a, .inr (ci, fs))]) l G 0 0 mL 0 (lv_args 0 avs) []) : MI2 l K V f qs D cy y cc mL n mc ms avs a ci sz fs Post := by
  refine Met.ofW (cc := cc) (maxL := mL) (ret := none) hy rfl ?_
  intro p e s m args below meth c s₁ B hml hv
  obtain ⟨⟨rfl, rfl, hP, hK, ha, hx⟩, hY⟩ := hv
  have hts := atoms_spec (ws := Cond.code y cc mL none :: TB) B.pre
  have hown : s.vm.findClass y.cls = some m.cls := findClass_of_methodNamed B.named
  have hin : meth.name = "<init>" := (name_of_methodNamed B.named B.method).1.trans hyn
  have hl := lv_entry avs (n := mL) hlen
  rw [lg_entry_eq]
  generalize (lg_sl avs ++ List.replicate (mL - (lg_sl avs).length) Slot.unset).toArray = ls at hl ⊢
  exact k ((p, e, rmI n mc ms, s, m), (avs.toArray, below, meth, c), (va_A [(a, .inr (ci, fs))] s.heap.size, 0, 0, MQ below (QI D Post (va_A [(a, .inr (ci, fs))] s.heap.size)) avs.toArray s mc ms (va_A [(a, .inr (ci, fs))] s.heap.size)))
    ⟨⟨⟨B.exec, B.bytes, hml, hown, fun w hw => hts w (List.mem_cons_of_mem _ hw)⟩, hK, fun q h => Or.inr h⟩, hin, rfl, hx, rfl, B.returns, B.notSynchronized⟩ hY s.heap [] ls ⟨hP, va_D1 (va_A.in (k := 0) rfl)⟩ va_S.rf hl
theorem WD_qi {S : List (Nat × Shp)} {q : Nat → Nat} {h : Hp} {A : Nat → Prop} (hD : va_D A (WD S q cy h)) : qi S q := by
  intro a b ha hb e
  obtain ⟨x, hx, rfl⟩ := List.mem_map.mp ha
  obtain ⟨y, hy, rfl⟩ := List.mem_map.mp hb
  obtain ⟨i, hi⟩ := List.getElem?_of_mem hx
  obtain ⟨j, hj⟩ := List.getElem?_of_mem hy
  have h1 : (WD S q cy h)[i]? = some (q x.1, ce q cy h x.1 x.2) := by unfold WD; rw [List.getElem?_map, hi]; rfl
  have h2 : (WD S q cy h)[j]? = some (q y.1, ce q cy h y.1 y.2) := by unfold WD; rw [List.getElem?_map, hj]; rfl
  have hij := hD.1 i j _ _ h1 h2 e
  subst hij
  rw [hi] at hj
  cases hj
  rfl
theorem WD_AA {S : List (Nat × Shp)} {q : Nat → Nat} {h : Hp} {A : Nat → Prop} (hD : va_D A (WD S q cy h)) : ∀ a, AA S q a → A a := by
  intro a ha
  obtain ⟨k, hk, rfl⟩ := ha
  obtain ⟨x, hx, rfl⟩ := List.mem_map.mp hk
  obtain ⟨i, hi⟩ := List.getElem?_of_mem hx
  exact hD.2 i (q x.1, ce q cy h x.1 x.2) (by unfold WD; rw [List.getElem?_map, hi]; rfl)
theorem SX_q {q : Nat → Nat} {A : Nat → Prop} {U : State} {H : Heap} (e : q 999 = qs 999) (h : SX qs A U H) : SX q A U H := by
  unfold SX at h ⊢
  rw [e]
  exact h
/-- a method of the own object, all of whose cells the world is -/
theorem r_callV {y : MethodName} {cc' : ByteArray} {mL np n' k ci idx : Nat} {rt : Option FieldType} {As rest : List Value} {ov : Option Value} {S : List (Nat × Shp)} {q : Nat → Nat} {h h' : Hp} {fs : List (Option Nat)} {TT : u_T} {N : Nat} (X : CI l qs D cy G cc own nL n mc ms Post) (d : decode cc pc = .ok (.invokevirtual idx, 3)) (hm : Cond.methodLink own idx y ∈ TB) (hc : CK y cc' mL rt np) (hv : CV y) (hk : (k, .inl (ci, fs)) ∈ S) (hci : vwCl[ci]? = some (y.cls, TT, N)) (hn : n' + 1 ≤ n) (hcs : ca ≤ mc ∧ sl ≤ ms) (hAs : As.length = np) (hrest : (rest.map fun v => v.category).sum ≤ 8) (hst : st = As.reverse ++ .ref (q k) :: rest) (hq : q 999 = qs 999) (hnd : nd S) (hws : ws = WD S q cy h)
    (hM : MC (l, q, D, cy, S) y cc' mL rt n' (.ref (q k) :: As) h ov h') (kk : JW (RW D G.2.2.1 (WD S q cy h')) l G ca sl nL (pc + 3) lv (ov.toList ++ rest)) : JW (RW D G.2.2.1 ws) l G ca sl nL pc lv st := fun H locs ls hP hS hl => by
  subst hst
  subst hws
  obtain ⟨X1, hin, hR, hx, -⟩ := X
  have hmL := hc.2.2.2
  obtain ⟨p, hp, hw⟩ := WD_at (q := q) (cy := cy) (h := h) hk
  have hqi := WD_qi hP.2
  have hAA := WD_AA hP.2
  have hr := va_runV (p := G.1.1) (l := l) (e := G.1.2.1) (R := G.1.2.2.1) (s := G.1.2.2.2.1) (m := G.1.2.2.2.2) (args := G.2.1.1) (below := G.2.1.2.1) (meth := G.2.1.2.2.1) (c := G.2.1.2.2.2) (H := H) (locs := locs) (cells := ca) (slots := sl) (As := As) (rest := rest) (Ts := TB) (g := F0 G.1.2.2.2.2 pc ls (As.reverse ++ .ref (q k) :: rest)) X1.1 hM ⟨callB_of np X1.1.2.2.2.2 (gTB hc.1) rfl rfl rfl (X1.1.2.2.2.2 _ hc.2.1) (X1.1.2.2.2.2 _ hm) hc.2.2.1 ⟨by rw [hR]; exact hn, by rw [hR]; show 8 + (mL + 11) + 40 * n' ≤ 40 * n; omega⟩, X1.1.2.2.2.2 _ hv.1, X1.1.2.2.2.2 _ hv.2⟩ ⟨PC_blind, va_recv X1.2.1 hP.1 hci hw, fun U hU hW => ⟨rfl, by rw [hU]; exact hP.1, va_K.moved hW.alike X1.2.1, hqi, by rw [hU]; exact SX_q hq (((hx.moved hW).kept hS.2.1).narrow hAA), hnd⟩⟩ rfl hAs hl.1 rfl (lv_room hrest) d ⟨by rw [hR]; exact hcs.1, by rw [hR]; exact hcs.2⟩
  intro T hT XX
  obtain ⟨v, st₀, t, T', L', h0, X', hL, e1, e2, ⟨hv', ⟨hP', -⟩, hz, hkk⟩, stt⟩ := hr T hT XX
  cases hv'
  rw [h0] at hz hkk
  obtain ⟨t2, a1, b1⟩ := kk T'.heap (locs ++ L') ls ⟨by rw [e1]; exact hP', WD_D hnd hqi hAA⟩
    ⟨Nat.le_trans hS.1 (by rw [e1]; exact hz), fun x h1 h2 => by rw [e1, hkk x (Nat.lt_of_lt_of_le h1 hS.1) (fun z => h2 (hAA x z))]; exact hS.2.1 x h1 h2, fun x hq => by
      rcases List.mem_append.mp hq with h | h
      · exact hS.2.2 x h
      · exact hAA _ (hL x h)⟩ hl T' rfl X'
  exact ⟨t2, stt t2 a1, b1⟩
/-- two groups of cells side by side -/
def rfs : Shp → List Nat
  | .inl (_, fs) => fs.filterMap id
  | .inr (.inl _) => []
  | .inr (.inr (_, l)) => l
theorem ce_q {q q' : Nat → Nat} {h h' : Hp} {k : Nat} (e1 : h.1 k = h'.1 k) (e2 : h.2 k = h'.2 k) : ∀ (s : Shp), (∀ j ∈ rfs s, q j = q' j) → ce q cy h k s = ce q' cy h' k s
  | .inl (c, fs), hr => by
    have hv : vl q h k fs = vl q' h' k fs := by
      apply List.ext_getElem?
      intro i
      unfold vl
      rw [List.getElem?_mapIdx, List.getElem?_mapIdx]
      cases hi : fs[i]? with
      | none => rfl
      | some o =>
        cases o with
        | none => simp only [Option.map]; rw [e1]
        | some t =>
          have := hr t (List.mem_filterMap.mpr ⟨some t, List.mem_of_getElem? hi, rfl⟩)
          simp only [Option.map]; rw [this]
    simp only [ce, hv]
  | .inr (.inl (t, m)), _ => by simp only [ce, e1, e2]
  | .inr (.inr (t, l)), hr => by
    have hf : (fun j : Nat => (l[j]?).map q) = (fun j : Nat => (l[j]?).map q') := by
      funext j
      cases hi : l[j]? with
      | none => rfl
      | some x =>
        simp only [Option.map]
        rw [hr x (List.mem_of_getElem? hi)]
    simp only [ce, hf]
theorem WD_congr {S : List (Nat × Shp)} {q q' : Nat → Nat} {h h' : Hp} (hq : ∀ e ∈ S, q e.1 = q' e.1 ∧ ∀ j ∈ rfs e.2, q j = q' j) (hh : ∀ e ∈ S, h.1 e.1 = h'.1 e.1 ∧ h.2 e.1 = h'.2 e.1) : WD S q cy h = WD S q' cy h' := by
  unfold WD
  apply List.map_congr_left
  intro e he
  rw [(hq e he).1, ce_q (hh e he).1 (hh e he).2 e.2 (hq e he).2]
def glq (B : Nat) (q1 q2 : Nat → Nat) : Nat → Nat := fun k => if k < B then q1 k else q2 k
def glh (B : Nat) (h1 h2 : Hp) : Hp := (fun k => if k < B then h1.1 k else h2.1 k, fun k => if k < B then h1.2 k else h2.2 k)
def lowS (B : Nat) (S : List (Nat × Shp)) : Bool := S.all (fun e => decide (e.1 < B) && (rfs e.2).all (fun k => decide (k < B)))
def hiS (B : Nat) (R : List Nat) (S : List (Nat × Shp)) : Bool := S.all (fun e => decide (B ≤ e.1) && (rfs e.2).all (fun k => decide (B ≤ k) || R.contains k))
theorem WD_glue {B : Nat} {R : List Nat} {S1 S2 : List (Nat × Shp)} {q1 q2 : Nat → Nat} {h1 h2 : Hp} (a : lowS B S1 = true) (b : hiS B R S2 = true) (hR : ∀ k ∈ R, q1 k = q2 k) : WD S1 q1 cy h1 ++ WD S2 q2 cy h2 = WD (S1 ++ S2) (glq B q1 q2) cy (glh B h1 h2) := by
  have e0 : WD (S1 ++ S2) (glq B q1 q2) cy (glh B h1 h2) = WD S1 (glq B q1 q2) cy (glh B h1 h2) ++ WD S2 (glq B q1 q2) cy (glh B h1 h2) := List.map_append
  rw [e0]
  have lo : ∀ k, k < B → glq B q1 q2 k = q1 k := fun k hk => if_pos hk
  have hi : ∀ k, B ≤ k → glq B q1 q2 k = q2 k := fun k hk => if_neg (Nat.not_lt.mpr hk)
  have a' := List.all_eq_true.mp a
  have b' := List.all_eq_true.mp b
  rw [WD_congr (S := S1) (q := q1) (q' := glq B q1 q2) (h := h1) (h' := glh B h1 h2), WD_congr (S := S2) (q := q2) (q' := glq B q1 q2) (h := h2) (h' := glh B h1 h2)]
  · intro e he
    have c := b' e he
    simp only [Bool.and_eq_true, decide_eq_true_eq, List.all_eq_true, Bool.or_eq_true] at c
    refine ⟨(hi _ c.1).symm, fun j hj => ?_⟩
    by_cases g : B ≤ j
    · exact (hi _ g).symm
    · rcases c.2 j hj with x | x
      · exact absurd x g
      · rw [lo j (Nat.not_le.mp g)]
        exact (hR j (by simpa using x)).symm
  · intro e he
    have c := b' e he
    simp only [Bool.and_eq_true, decide_eq_true_eq] at c
    exact ⟨(if_neg (Nat.not_lt.mpr c.1)).symm, (if_neg (Nat.not_lt.mpr c.1)).symm⟩
  · intro e he
    have c := a' e he
    simp only [Bool.and_eq_true, decide_eq_true_eq, List.all_eq_true] at c
    exact ⟨(lo _ c.1).symm, fun j hj => (lo _ (c.2 j hj)).symm⟩
  · intro e he
    have c := a' e he
    simp only [Bool.and_eq_true, decide_eq_true_eq] at c
    exact ⟨(if_pos c.1).symm, (if_pos c.1).symm⟩
end CRULES7
theorem cap_get {α : Type} {x : α} {T L : List α} (k : Nat) : (x :: (T ++ L))[T.length + k + 1]? = L[k]? := by
  rw [List.getElem?_cons_succ, List.getElem?_append_right (by omega), Nat.add_sub_cancel_left]
theorem cap_set {α : Type} {x z : α} {T L : List α} (k : Nat) : (x :: (T ++ L)).set (T.length + k + 1) z = x :: (T ++ L.set k z) := by
  rw [List.set_cons_succ, List.set_append_right (h := by omega), Nat.add_sub_cancel_left]
theorem r_anew2 {D : va_G} {cy : Nat → ClassId} {l : Launch} {G : GT} {cc : ByteArray} {own : String} {ca sl nL pc : Nat} {lv : List (Nat × Value)} {st : List Value} {ws : va_W} {idx : Nat} {n : Int32} {N : Nat} {C : String} (t : Nat) (X : CR D cy G cc own nL) (d : decode cc pc = .ok (.anewarray idx, 3)) (ht : ∀ cy, (tyl cy)[t]? = some (cy t, .object C)) (hcl : Cond.classLink own idx C ∈ TB) (hov : va_AO C G.1.2.2.2.1) (hn : ¬ n < 0) (hN : n.toNatClampNeg = N) (hb : N * 4 ≤ 536870912) (hc : ca + 1 ≤ G.1.2.2.1.cells) (hs : sl + N ≤ G.1.2.2.1.slots) (k : ∀ q, JW (RW D G.2.2.1 (ws ++ [(q, .inl (cy t, N, .inr (.inr (.inr (.inr (fun _ => none))))))])) l G (ca + 1) (sl + N) nL (pc + 3) lv (.ref q :: st)) : JW (RW D G.2.2.1 ws) l G ca sl nL pc lv (.int n :: st) := fun H locs ls hP hS hl => by
  refine va_newq X.1.1 X.1.2.1 X.1.2.2.2.1 (X.1.2.2.2.2 _ hcl) hov X.2.1 hP.1 hP.2 hS X.2.2 hn hN hb hc hs d (fun q cA H1 hK1 hP1 hD1 hS1 => ?_)
  have e : cA = cy t := by
    refine tyl_cls X.2.1 (ht cy) ?_
    have := hK1.2 (tyl cy).length (cA, .object C) (by rw [List.getElem?_append_right (Nat.le_refl _), Nat.sub_self]; rfl)
    exact this.2
  subst e
  exact k q H1 locs ls ⟨hP1, hD1⟩ hS1 hl
