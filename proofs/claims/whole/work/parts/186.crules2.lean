/-- a constructor's start and end: its own object alone, raw; behind it a world w1 that Post says -/
def PI (qs : Nat → Nat) (D : va_G) (cy : Nat → ClassId) (avs : List Value) (a ci sz : Nat) (fs : List Value) : Array Value → State → Prop := fun v U => v = avs.toArray ∧ U.heap.size = sz ∧ va_P D vwCl [(a, .inr (ci, fs))] U.heap ∧ va_K D vwCl (tyl cy) U ∧ a < sz ∧ SX qs (va_A [(a, .inr (ci, fs))] sz) U U.heap
def QI (D : va_G) (Post : va_W → Prop) (A : Nat → Prop) : Array Value → State → Outcome → State → Prop := fun _ st oc t => oc = .returned none ∧ (∃ w1, Post w1 ∧ va_P D vwCl w1 t.heap ∧ va_D A w1) ∧ va_F A st t
def rmI (n mc ms : Nat) : Room := { frames := n, cells := mc, slots := ms, locals := 40 * n }
def MI (l : Launch) (qs : Nat → Nat) (D : va_G) (cy : Nat → ClassId) (y : MethodName) (cc : ByteArray) (mL n mc ms : Nat) (avs : List Value) (a ci sz : Nat) (fs : List Value) (Post : va_W → Prop) : Prop :=
  Met l y (Cond.code y cc mL none :: TB) (rmI n mc ms) (PI qs D cy avs a ci sz fs) (QI D Post (va_A [(a, .inr (ci, fs))] sz)) mc ms (va_A [(a, .inr (ci, fs))] sz)
/-- what a constructor's walk knows -/
def CI (l : Launch) (qs : Nat → Nat) (D : va_G) (cy : Nat → ClassId) (G : GT) (cc : ByteArray) (own : String) (nL n mc ms : Nat) (Post : va_W → Prop) : Prop := CR D cy G cc own nL ∧ G.2.1.2.2.1.name = "<init>" ∧ G.1.2.2.1 = rmI n mc ms ∧ SX qs G.2.2.1 G.1.2.2.2.1 G.1.2.2.2.1.heap ∧ (G.2.2.2.2.2 = MQ G.2.1.2.1 (QI D Post G.2.2.1) G.2.1.1 G.1.2.2.2.1 mc ms G.2.2.1 ∧ G.2.1.2.2.1.sig.returnType = none ∧ G.2.1.2.2.1.locks = false)
theorem PI_blind {qs : Nat → Nat} {D : va_G} {cy : Nat → ClassId} {avs : List Value} {a ci sz : Nat} {fs : List Value} : FrameBlind (PI qs D cy avs a ci sz fs) := fun x U g mk ⟨e, hz, hP, hK, ha, hx⟩ => ⟨e, hz, hP, va_K.moved (u := U) (U := U.calling g mk x) (Vm.Alike.refl U.vm) hK, ha, hx.blind (V := U.calling g mk x) rfl⟩
theorem va_D1 {A : Nat → Prop} {x : Nat × va_E} (h : A x.1) : va_D A [x] := by
  refine ⟨fun i j p q hi hj _ => ?_, fun k q hk => ?_⟩
  · have h1 : i < 1 := (List.getElem?_eq_some_iff.mp hi).1
    have h2 : j < 1 := (List.getElem?_eq_some_iff.mp hj).1
    omega
  · have h1 : k < 1 := (List.getElem?_eq_some_iff.mp hk).1
    rw [show k = 0 by omega] at hk
    cases hk
    exact h
theorem mi_start {l : Launch} {qs : Nat → Nat} {D : va_G} {cy : Nat → ClassId} {y : MethodName} {cc : ByteArray} {mL n mc ms : Nat} {avs : List Value} {a ci sz : Nat} {fs : List Value} {Post : va_W → Prop} (hy : plainName y.cls = true) (hyn : y.name = "<init>") (hlen : (lg_sl avs).length ≤ mL)
    (k : ∀ G : GT, CI l qs D cy G cc y.cls mL n mc ms Post → JW (RW D G.2.2.1 [(a, .inr (ci, fs))]) l G 0 0 mL 0 (lv_args 0 avs) []) : MI l qs D cy y cc mL n mc ms avs a ci sz fs Post := by
  refine Met.ofW (cc := cc) (maxL := mL) (ret := none) hy rfl ?_
  intro p e s m args below meth c s₁ B hml hv
  obtain ⟨rfl, rfl, hP, hK, ha, hx⟩ := hv
  have hts := atoms_spec (ws := Cond.code y cc mL none :: TB) B.pre
  have hown : s.vm.findClass y.cls = some m.cls := findClass_of_methodNamed B.named
  have hin : meth.name = "<init>" := (name_of_methodNamed B.named B.method).1.trans hyn
  have hl := lv_entry avs (n := mL) hlen
  rw [lg_entry_eq]
  generalize (lg_sl avs ++ List.replicate (mL - (lg_sl avs).length) Slot.unset).toArray = ls at hl ⊢
  exact k ((p, e, rmI n mc ms, s, m), (avs.toArray, below, meth, c), (va_A [(a, .inr (ci, fs))] s.heap.size, 0, 0, MQ below (QI D Post (va_A [(a, .inr (ci, fs))] s.heap.size)) avs.toArray s mc ms (va_A [(a, .inr (ci, fs))] s.heap.size)))
    ⟨⟨⟨B.exec, B.bytes, hml, hown, fun w hw => hts w (List.mem_cons_of_mem _ hw)⟩, hK, fun q h => Or.inr h⟩, hin, rfl, hx, rfl, B.returns, B.notSynchronized⟩ s.heap [] ls ⟨hP, va_D1 (va_A.in (k := 0) rfl)⟩ va_S.rf hl
section CRULES2
variable {qs : Nat → Nat} {D : va_G} {cy : Nat → ClassId} {l : Launch} {G : GT} {cc : ByteArray} {own : String} {ca sl nL n mc ms pc : Nat} {lv : List (Nat × Value)} {st : List Value} {ws : va_W} {Post : va_W → Prop}
theorem r_vret (X : CI l qs D cy G cc own nL n ca sl Post) (d : decode cc pc = .ok (.return_, 1)) (hp : Post ws) : JW (RW D G.2.2.1 ws) l G ca sl nL pc lv [] := fun H locs ls hP hS hl => by
  obtain ⟨X1, hin, hR, hx, hQ, hr, hlk⟩ := X
  rw [hQ]
  exact W.vret X1.1.1 X1.1.2.1 hr (fun t ht hW => ⟨rfl, ⟨ws, hp, by rw [ht]; exact hP.1, hP.2⟩, hS.F ht⟩) hS.2.2 d hlk
theorem r_obj {idx : Nat} {a : Nat} (X : CI l qs D cy G cc own nL n mc ms Post) (d : decode cc pc = .ok (.invokespecial idx, 3)) (hm : Cond.methodLink own idx Lib.objectInit ∈ TB) (hi : Cond.instanceMethod Lib.objectInit ∈ TB ∧ Cond.code Lib.objectInit ⟨#[0xb1]⟩ 1 none ∈ TB) (h1 : 1 ≤ n) (hrest : (st.map fun v => v.category).sum ≤ 8) (k : JW (RW D G.2.2.1 ws) l G ca sl nL (pc + 3) lv st) : JW (RW D G.2.2.1 ws) l G ca sl nL pc lv (.ref a :: st) := fun H locs ls hP hS hl => by
  obtain ⟨X1, hin, hR, -⟩ := X
  refine W.objInit X1.1.1 X1.1.2.1 X1.1.2.2.2.1 (X1.1.2.2.2.2 _ hm) (X1.1.2.2.2.2 _ hi.1) (X1.1.2.2.2.2 _ hi.2) rfl (hl.1.trans X1.1.2.2.1.symm) rfl d (by rw [hR]; exact h1) ?_ (k H locs ls hP hS hl)
  have h2 : 2 * (F0 G.1.2.2.2.2 pc ls (.ref a :: st)).monitorRoom + (st.map fun v => v.category).sum ≤ 8 := lv_room hrest
  rw [hR]
  show _ ≤ 40 * n
  omega
end CRULES2
