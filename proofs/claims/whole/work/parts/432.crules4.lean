section CRULES4
variable {qs : Nat → Nat} {D : va_G} {cy : Nat → ClassId} {l : Launch} {G : GT} {cc : ByteArray} {own : String} {ca sl nL n mc ms pc : Nat} {lv : List (Nat × Value)} {st : List Value} {ws : va_W} {Post : va_W → Prop}
theorem r_callIN {host : String} {y : MethodName} {cc' : ByteArray} {mL np n' idx a ci mc' ms' : Nat} {fs : List Value} {As rest : List Value} {Post' : va_W → Prop} (wr : va_W) (X : CI l qs D cy G cc own nL n mc ms Post) (d : decode cc pc = .ok (.invokespecial idx, 3)) (hm : Cond.methodLinkNest own idx y host ∈ lw_tbl) (hc : CK y cc' mL none np) (hv : Cond.instanceMethod y ∈ TB) (hyn : y.name = "<init>") (hn : n' + 1 ≤ n) (hcs : ca + mc' ≤ mc ∧ sl + ms' ≤ ms) (hAs : As.length = np) (hrest : (rest.map fun v => v.category).sum ≤ 8) (hst : st = As.reverse ++ .ref a :: rest) (hws : ws = wr ++ [(a, .inr (ci, fs))])
    (hM : ∀ sz, MI l qs D cy y cc' mL n' mc' ms' (.ref a :: As) a ci sz fs Post') (kk : ∀ w1, Post' w1 → JW (RW D G.2.2.1 (wr ++ w1)) l G (ca + mc') (sl + ms') nL (pc + 3) lv rest) : JW (RW D G.2.2.1 ws) l G ca sl nL pc lv st := fun H locs ls hP hS hl => by
  subst hst
  subst hws
  obtain ⟨X1, hin, hR, hx, hQ⟩ := id X
  have hmL := hc.2.2.2
  exact r_backI X hl hP hS (va_runIN (As := As) (rest := rest) (Ts := TB) X1.1 (hM H.size) ⟨va_cnB np X1.1.2.2.2.2 (gTB hc.1) rfl rfl rfl (hx.2.2.1 _ _ _ _ hm) (X1.1.2.2.2.2 _ hc.2.1) hc.2.2.1 ⟨by rw [hR]; exact hn, by rw [hR]; show 8 + (mL + 11) + 40 * n' ≤ 40 * n; omega⟩, hyn, X1.1.2.2.2.2 _ hv⟩ (r_preI X hP hS) rfl hAs hl.1 rfl (lv_room hrest) d ⟨by rw [hR]; exact hcs.1, by rw [hR]; exact hcs.2⟩) kk
end CRULES4
