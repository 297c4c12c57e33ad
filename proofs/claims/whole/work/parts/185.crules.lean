/-! the rules for constructors: a world that grows, as a list -/
def RW (D : va_G) (A : Nat → Prop) (ws : va_W) (H : Heap) : Prop := va_P D vwCl ws H ∧ va_D A ws
def CR (D : va_G) (cy : Nat → ClassId) (G : GT) (cc : ByteArray) (own : String) (nL : Nat) : Prop := CW G cc own nL ∧ va_K D vwCl (tyl cy) G.1.2.2.2.1 ∧ ∀ a, G.1.2.2.2.1.heap.size ≤ a → G.2.2.1 a
/-- what a 'new' links -/
def NWd (own : String) (idx ci N : Nat) (TT : u_T) (ty : Nat → FieldType) : Prop := ∃ C : String, vwCl[ci]? = some (C, TT, N) ∧ (∀ w ∈ u_ws C TT N, w ∈ TB) ∧ (∀ k, k < N → parseFieldDescriptor (TT k).2.2.1 = some (ty k)) ∧ Cond.classLink own idx C ∈ TB ∧ Cond.instantiable C N ∈ TB ∧ Cond.initialized C ∈ TB
section CRULES
variable {D : va_G} {cy : Nat → ClassId} {l : Launch} {G : GT} {cc : ByteArray} {own : String} {ca sl nL pc : Nat} {lv : List (Nat × Value)} {st : List Value} {ws : va_W}
theorem r_new {idx ci N : Nat} {TT : u_T} {ty : Nat → FieldType} (fs : List Value) (X : CR D cy G cc own nL) (d : decode cc pc = .ok (.new idx, 3)) (hw : NWd own idx ci N TT ty) (hfs : ∀ j, j < N → defaultValue (ty j) = vp_V fs j) (hc : ca + 1 ≤ G.1.2.2.1.cells) (hs : sl + N ≤ G.1.2.2.1.slots) (k : ∀ q, JW (RW D G.2.2.1 (ws ++ [(q, .inr (ci, fs))])) l G (ca + 1) (sl + N) nL (pc + 3) lv (.ref q :: st)) : JW (RW D G.2.2.1 ws) l G ca sl nL pc lv st := fun H locs ls hP hS hl => by
  obtain ⟨C, h1, h2, h3, h4, h5, h6⟩ := hw
  exact va_new X.1.1 X.1.2.1 X.1.2.2.2.2 h2 ty h3 X.1.2.2.2.1 (X.1.2.2.2.2 _ h4) (X.1.2.2.2.2 _ h5) (X.1.2.2.2.2 _ h6) X.2.1 hP.1 hP.2 hS X.2.2 h1 hfs hc hs d (fun q H1 hP1 hD1 hS1 => k q H1 locs ls ⟨hP1, hD1⟩ hS1 hl)
theorem tyl_cls {t : Nat} {ty : FieldType} {cA : ClassId} {s : State} (hK : va_K D vwCl (tyl cy) s) (ht : (tyl cy)[t]? = some (cy t, ty)) (h : va_RA s cA ty) : cA = cy t := by
  have h0 := (hK.2 t _ ht).2
  cases ty with
  | object C =>
    obtain ⟨_, _, _, _, _, e1⟩ := h0
    obtain ⟨_, _, _, _, _, e2⟩ := h
    exact Option.some.inj (e2.symm.trans e1)
  | _ => exact Option.some.inj (Eq.trans (Eq.symm h) h0)
theorem r_newa {atype : ArrayType} {n : Int32} {N : Nat} {a0 : vp_A} (t : Nat) {ty : FieldType} (X : CR D cy G cc own nL) (d : decode cc pc = .ok (.newarray atype, 2)) (ht : ∀ cy, (tyl cy)[t]? = some (cy t, ty)) (hty : newarray.typeOf atype = ty) (harr : Cond.arrayClass (newarray.typeOf atype) ∈ TB) (ha : ∀ cA : ClassId, vp_cell cA a0 = arrV cA N (fun _ => defaultValue ty)) (hn : ¬ n < 0) (hN : n.toNatClampNeg = N) (hb : N * componentBytes ty ≤ 536870912) (hc : ca + 1 ≤ G.1.2.2.1.cells) (hs : sl + N ≤ G.1.2.2.1.slots) (k : ∀ q, JW (RW D G.2.2.1 (ws ++ [(q, .inl (cy t, a0))])) l G (ca + 1) (sl + N) nL (pc + 2) lv (.ref q :: st)) : JW (RW D G.2.2.1 ws) l G ca sl nL pc lv (.int n :: st) := fun H locs ls hP hS hl => by
  refine va_newa X.1.1 X.1.2.1 (X.1.2.2.2.2 _ harr) hty X.2.1 hP.1 hP.2 hS X.2.2 ha hn hN hb hc hs d (fun q cA H1 hK1 hP1 hD1 hS1 => ?_)
  have e : cA = cy t := by
    refine tyl_cls X.2.1 (ht cy) ?_
    have := hK1.2 (tyl cy).length (cA, ty) (by rw [List.getElem?_append_right (Nat.le_refl _), Nat.sub_self]; rfl)
    exact this.2
  subst e
  exact k q H1 locs ls ⟨hP1, hD1⟩ hS1 hl
theorem r_putF {c j idx p : Nat} {a : Nat} {fs : List Value} {v : Value} {ty : FieldType} (ws' : va_W) (X : CR D cy G cc own nL) (hin : G.2.1.2.2.1.name = "<init>") (d : decode cc pc = .ok (.putfield idx, 3)) (hl0 : ∃ (C : String) (TT : u_T) (N : Nat) (ty0 : Nat → FieldType), vwCl[c]? = some (C, TT, N) ∧ (∀ w ∈ u_ws C TT N, w ∈ TB) ∧ j < N ∧ Cond.fieldLink own idx C (TT j).2.1 (TT j).2.2.1 ∈ TB ∧ (TT j).1 = C ∧ (∀ k, k < N → parseFieldDescriptor (TT k).2.2.1 = some (ty0 k)) ∧ (∀ a, a < N → ∀ b, b < N → a ≠ b → (TT a).2.1 ≠ (TT b).2.1) ∧ (TT j).2.2.2 = true ∧ parseFieldDescriptor (TT j).2.2.1 = some ty ∧ C = own) (he : ws[p]? = some (a, .inr (c, fs))) (hn : narrow ty v = v) (hfit : fits ty v = true) (hj : j < fs.length) (hws : ws.set p (a, .inr (c, fs.set j v)) = ws') (k : JW (RW D G.2.2.1 ws') l G ca sl nL (pc + 3) lv st) : JW (RW D G.2.2.1 ws) l G ca sl nL pc lv (v :: .ref a :: st) := fun H locs ls hP hS hl => by
  obtain ⟨C, TT, N, ty0, h1, h2, h3, h4, h5, h6, h7, h8, h9, h10⟩ := hl0
  subst hws
  exact va_putF X.1.1 X.1.2.1 X.1.2.2.2.2 h2 ty0 h6 h7 X.1.2.2.2.1 X.2.1 hP.1 hP.2 hS p he h1 j h3 (X.1.2.2.2.2 _ h4) (fun x hx => by rw [h5] at hx; exact hx) h8 hin (h5.trans h10) h9 hn hfit hj d (fun H1 locs1 hP1 hD1 hS1 => k H1 locs1 ls ⟨hP1, hD1⟩ hS1 hl)
theorem r_put {c j idx p : Nat} {a : Nat} {fs : List Value} {v : Value} {ty : FieldType} (ws' : va_W) (X : CR D cy G cc own nL) (d : decode cc pc = .ok (.putfield idx, 3)) (hl0 : FP own idx c j ty) (he : ws[p]? = some (a, .inr (c, fs))) (hn : narrow ty v = v) (hfit : fits ty v = true) (hj : j < fs.length) (hws : ws.set p (a, .inr (c, fs.set j v)) = ws') (k : JW (RW D G.2.2.1 ws') l G ca sl nL (pc + 3) lv st) : JW (RW D G.2.2.1 ws) l G ca sl nL pc lv (v :: .ref a :: st) := fun H locs ls hP hS hl => by
  obtain ⟨C, TT, N, ty0, h1, h2, h3, h4, h5, h6, h7, h8, h9⟩ := hl0
  subst hws
  exact va_put X.1.1 X.1.2.1 X.1.2.2.2.2 h2 ty0 h6 h7 X.1.2.2.2.1 X.2.1 hP.1 hP.2 hS p he h1 j h3 (X.1.2.2.2.2 _ h4) (fun x hx => by rw [h5] at hx; exact hx) h8 h9 hn hfit hj d (fun H1 locs1 hP1 hD1 hS1 => k H1 locs1 ls ⟨hP1, hD1⟩ hS1 hl)
theorem r_get {c j idx p : Nat} {a : Nat} {fs : List Value} {v : Value} (X : CR D cy G cc own nL) (d : decode cc pc = .ok (.getfield idx, 3)) (hl0 : FL own idx c j) (he : ws[p]? = some (a, .inr (c, fs))) (hv : fs[j]? = some v) (k : JW (RW D G.2.2.1 ws) l G ca sl nL (pc + 3) lv (v :: st)) : JW (RW D G.2.2.1 ws) l G ca sl nL pc lv (.ref a :: st) := fun H locs ls hP hS hl => by
  obtain ⟨C, TT, N, h1, h2, h3, h4, h5⟩ := hl0
  exact va_get X.1.1 X.1.2.1 X.1.2.2.2.2 h2 X.1.2.2.2.1 X.2.1 hP.1 p he h1 j h3 (X.1.2.2.2.2 _ h4) (fun x hx => by rw [h5] at hx; exact hx) hv d (k H locs ls hP hS hl)
theorem r_iast {p N : Nat} {a : Nat} {f : Nat → Int32} {i x : Int32} (ws' : va_W) (X : CR D cy G cc own nL) (d : decode cc pc = .ok (.iastore, 1)) (he : ws[p]? = some (a, .inl (cy 0, N, .inl f))) (hi : inb i N = true) (hws : ws.set p (a, .inl (cy 0, N, .inl (upd f (ix i) x))) = ws') (k : JW (RW D G.2.2.1 ws') l G ca sl nL (pc + 1) lv st) : JW (RW D G.2.2.1 ws) l G ca sl nL pc lv (.int x :: .int i :: .ref a :: st) := fun H locs ls hP hS hl => by
  subst hws
  exact va_iast X.1.1 X.1.2.1 X.2.1 hP.1 hP.2 hS p 0 he rfl (inb_in hi) d (fun H1 locs1 hP1 hD1 hS1 => k H1 locs1 ls ⟨hP1, hD1⟩ hS1 hl)
theorem r_last {p N : Nat} {a : Nat} {f : Nat → Int64} {i : Int32} {x : Int64} (ws' : va_W) (X : CR D cy G cc own nL) (d : decode cc pc = .ok (.lastore, 1)) (he : ws[p]? = some (a, .inl (cy 1, N, .inr (.inl f)))) (hi : inb i N = true) (hws : ws.set p (a, .inl (cy 1, N, .inr (.inl (vp_updL f (ix i) x)))) = ws') (k : JW (RW D G.2.2.1 ws') l G ca sl nL (pc + 1) lv st) : JW (RW D G.2.2.1 ws) l G ca sl nL pc lv (.long x :: .int i :: .ref a :: st) := fun H locs ls hP hS hl => by
  subst hws
  exact va_last X.1.1 X.1.2.1 X.2.1 hP.1 hP.2 hS p 1 he rfl (inb_in hi) d (fun H1 locs1 hP1 hD1 hS1 => k H1 locs1 ls ⟨hP1, hD1⟩ hS1 hl)
end CRULES
