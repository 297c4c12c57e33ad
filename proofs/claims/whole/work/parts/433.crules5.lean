section CRULES5
variable {D : va_G} {cy : Nat → ClassId} {l : Launch} {G : GT} {cc : ByteArray} {own : String} {ca sl nL pc : Nat} {lv : List (Nat × Value)} {st : List Value} {ws : va_W}
theorem r_anew {idx : Nat} {n : Int32} {N : Nat} {C : String} (t : Nat) (X : CR D cy G cc own nL) (d : decode cc pc = .ok (.anewarray idx, 3)) (ht : ∀ cy, (tyl cy)[t]? = some (cy t, .object C)) (hcl : Cond.classLink own idx C ∈ TB) (hov : Cond.arrayOver (.object C) ∈ TB) (hn : ¬ n < 0) (hN : n.toNatClampNeg = N) (hb : N * 4 ≤ 536870912) (hc : ca + 1 ≤ G.1.2.2.1.cells) (hs : sl + N ≤ G.1.2.2.1.slots) (k : ∀ q, JW (RW D G.2.2.1 (ws ++ [(q, .inl (cy t, N, .inr (.inr (.inr (.inr (fun _ => none))))))])) l G (ca + 1) (sl + N) nL (pc + 3) lv (.ref q :: st)) : JW (RW D G.2.2.1 ws) l G ca sl nL pc lv (.int n :: st) := fun H locs ls hP hS hl => by
  refine va_newq X.1.1 X.1.2.1 X.1.2.2.2.1 (X.1.2.2.2.2 _ hcl) (va_AO.of (X.1.2.2.2.2 _ hov)) X.2.1 hP.1 hP.2 hS X.2.2 hn hN hb hc hs d (fun q cA H1 hK1 hP1 hD1 hS1 => ?_)
  have e : cA = cy t := by
    refine tyl_cls X.2.1 (ht cy) ?_
    have := hK1.2 (tyl cy).length (cA, .object C) (by rw [List.getElem?_append_right (Nat.le_refl _), Nat.sub_self]; rfl)
    exact this.2
  subst e
  exact k q H1 locs ls ⟨hP1, hD1⟩ hS1 hl
theorem r_aast {p0 p1 t ci N v : Nat} {a : Nat} {r : vw_C} {vs : List Value} {f : Nat → Option Nat} {i : Int32} (ws' : va_W) (X : CR D cy G cc own nL) (d : decode cc pc = .ok (.aastore, 1)) (he : ws[p0]? = some (a, .inl (cy t, N, .inr (.inr (.inr (.inr f)))))) (ht : (tyl cy)[t]? = some (cy t, .object r.1)) (hv : ws[p1]? = some (v, .inr (ci, vs))) (hc : vwCl[ci]? = some r) (hi : inb i N = true) (hws : ws.set p0 (a, .inl (cy t, N, .inr (.inr (.inr (.inr (va_up f (ix i) (some v))))))) = ws') (k : JW (RW D G.2.2.1 ws') l G ca sl nL (pc + 1) lv st) : JW (RW D G.2.2.1 ws) l G ca sl nL pc lv (.ref v :: .int i :: .ref a :: st) := fun H locs ls hP hS hl => by
  subst hws
  exact va_astq X.1.1 X.1.2.1 X.2.1 hP.1 hP.2 hS p0 t p1 ci he ht hv hc (inb_in hi) d (fun H1 locs1 hP1 hD1 hS1 => k H1 locs1 ls ⟨hP1, hD1⟩ hS1 hl)
end CRULES5
