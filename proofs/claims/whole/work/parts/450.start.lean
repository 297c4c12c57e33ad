theorem nw_L_7 : NWd "AfterOfficeLaw" 7 11 13 TX11 tyX11 := ⟨RX11, rfl, inX11, tyX11_ok, tb_mem (tb_tab (tt_1 (List.mem_of_getElem? (i := 24) rfl))) rfl, tb_mem (tb_tab (tt_1 (List.mem_of_getElem? (i := 25) rfl))) rfl, tb_mem (tb_tab (tt_1 (List.mem_of_getElem? (i := 1) rfl))) rfl⟩
theorem nf_X11 : ∀ j, j < 13 → defaultValue (tyX11 j) = vp_V [.null, .null, .null, .null, .null, .null, .null, .null, .null, .null, .null, .int 0, .int 0] j := fun j hj => match j, hj with
  | 0, _ => rfl
  | 1, _ => rfl
  | 2, _ => rfl
  | 3, _ => rfl
  | 4, _ => rfl
  | 5, _ => rfl
  | 6, _ => rfl
  | 7, _ => rfl
  | 8, _ => rfl
  | 9, _ => rfl
  | 10, _ => rfl
  | 11, _ => rfl
  | 12, _ => rfl
  | n + 13, h => absurd h (by omega)
theorem nw_L_10 : NWd "AfterOfficeLaw" 10 12 92 TX12 tyX12 := ⟨RX12, rfl, inX12, tyX12_ok, tb_mem (tb_tab (tt_6 (List.mem_of_getElem? (i := 37) rfl))) rfl, tb_mem (tb_tab (tt_6 (List.mem_of_getElem? (i := 38) rfl))) rfl, tb_mem (tb_tab (tt_1 (List.mem_of_getElem? (i := 18) rfl))) rfl⟩
theorem nf_X12 : ∀ j, j < 92 → defaultValue (tyX12 j) = vp_V [.int 0, .null, .int 0, .null, .int 0, .null, .null, .null, .null, .null, .int 0, .int 0, .int 0, .int 0, .int 0, .int 0, .int 0, .int 0, .int 0, .int 0, .int 0, .null, .null, .null, .null, .null, .null, .null, .null, .null, .null, .null, .null, .null, .null, .null, .null, .null, .null, .null, .null, .null, .int 0, .null, .null, .null, .null, .null, .null, .int 0, .null, .null, .null, .int 0, .null, .null, .int 0, .int 0, .int 0, .int 0, .null, .null, .null, .null, .null, .null, .null, .null, .null, .int 0, .int 0, .int 0, .null, .int 0, .null, .null, .null, .null, .null, .int 0, .int 0, .int 0, .null, .null, .null, .null, .null, .null, .null, .null, .null, .null] j := fun j hj => match j, hj with
  | 0, _ => rfl
  | 1, _ => rfl
  | 2, _ => rfl
  | 3, _ => rfl
  | 4, _ => rfl
  | 5, _ => rfl
  | 6, _ => rfl
  | 7, _ => rfl
  | 8, _ => rfl
  | 9, _ => rfl
  | 10, _ => rfl
  | 11, _ => rfl
  | 12, _ => rfl
  | 13, _ => rfl
  | 14, _ => rfl
  | 15, _ => rfl
  | 16, _ => rfl
  | 17, _ => rfl
  | 18, _ => rfl
  | 19, _ => rfl
  | 20, _ => rfl
  | 21, _ => rfl
  | 22, _ => rfl
  | 23, _ => rfl
  | 24, _ => rfl
  | 25, _ => rfl
  | 26, _ => rfl
  | 27, _ => rfl
  | 28, _ => rfl
  | 29, _ => rfl
  | 30, _ => rfl
  | 31, _ => rfl
  | 32, _ => rfl
  | 33, _ => rfl
  | 34, _ => rfl
  | 35, _ => rfl
  | 36, _ => rfl
  | 37, _ => rfl
  | 38, _ => rfl
  | 39, _ => rfl
  | 40, _ => rfl
  | 41, _ => rfl
  | 42, _ => rfl
  | 43, _ => rfl
  | 44, _ => rfl
  | 45, _ => rfl
  | 46, _ => rfl
  | 47, _ => rfl
  | 48, _ => rfl
  | 49, _ => rfl
  | 50, _ => rfl
  | 51, _ => rfl
  | 52, _ => rfl
  | 53, _ => rfl
  | 54, _ => rfl
  | 55, _ => rfl
  | 56, _ => rfl
  | 57, _ => rfl
  | 58, _ => rfl
  | 59, _ => rfl
  | 60, _ => rfl
  | 61, _ => rfl
  | 62, _ => rfl
  | 63, _ => rfl
  | 64, _ => rfl
  | 65, _ => rfl
  | 66, _ => rfl
  | 67, _ => rfl
  | 68, _ => rfl
  | 69, _ => rfl
  | 70, _ => rfl
  | 71, _ => rfl
  | 72, _ => rfl
  | 73, _ => rfl
  | 74, _ => rfl
  | 75, _ => rfl
  | 76, _ => rfl
  | 77, _ => rfl
  | 78, _ => rfl
  | 79, _ => rfl
  | 80, _ => rfl
  | 81, _ => rfl
  | 82, _ => rfl
  | 83, _ => rfl
  | 84, _ => rfl
  | 85, _ => rfl
  | 86, _ => rfl
  | 87, _ => rfl
  | 88, _ => rfl
  | 89, _ => rfl
  | 90, _ => rfl
  | 91, _ => rfl
  | n + 92, h => absurd h (by omega)
theorem mlc_L_9 : Cond.methodLink "AfterOfficeLaw" 9 yX11_init ∈ TB := tb_mem (tb_tab (tt_1 (List.mem_of_getElem? (i := 26) rfl))) rfl
theorem imc_X11 : Cond.instanceMethod yX11_init ∈ TB := tb_mem (tb_tab (tt_1 (List.mem_of_getElem? (i := 27) rfl))) rfl
theorem ck_X11_init : CK yX11_init cX11_init 2 none 0 := ⟨tb_mem (tb_tab (tt_1 (List.mem_of_getElem? (i := 28) rfl))) rfl, tb_mem (tb_tab (tt_1 (List.mem_of_getElem? (i := 1) rfl))) rfl, by decide, by decide⟩
theorem mlc_L_12 : Cond.methodLink "AfterOfficeLaw" 12 yX12_init ∈ TB := tb_mem (tb_tab (tt_6 (List.mem_of_getElem? (i := 39) rfl))) rfl
theorem imc_X12 : Cond.instanceMethod yX12_init ∈ TB := tb_mem (tb_tab (tt_6 (List.mem_of_getElem? (i := 40) rfl))) rfl
theorem ck_X12_init : CK yX12_init cX12_init 1 none 0 := ⟨tb_mem (tb_tab (tt_6 (List.mem_of_getElem? (i := 41) rfl))) rfl, tb_mem (tb_tab (tt_1 (List.mem_of_getElem? (i := 18) rfl))) rfl, by decide, by decide⟩
theorem ist_X0 : Cond.instantiable RX0 12 ∈ TB := tb_mem (tb_tab (tt_1 (List.mem_of_getElem? (i := 125) rfl))) rfl
theorem ist_X1 : Cond.instantiable RX1 15 ∈ TB := tb_mem (tb_tab (tt_2 (List.mem_of_getElem? (i := 142) rfl))) rfl
theorem ist_X2 : Cond.instantiable RX2 9 ∈ TB := tb_mem (tb_tab (tt_2 (List.mem_of_getElem? (i := 136) rfl))) rfl
theorem ist_X3 : Cond.instantiable RX3 7 ∈ TB := tb_mem (tb_tab (tt_2 (List.mem_of_getElem? (i := 97) rfl))) rfl
theorem ist_X4 : Cond.instantiable RX4 8 ∈ TB := tb_mem (tb_tab (tt_1 (List.mem_of_getElem? (i := 132) rfl))) rfl
theorem ist_X5 : Cond.instantiable RX5 10 ∈ TB := tb_mem (tb_tab (tt_2 (List.mem_of_getElem? (i := 27) rfl))) rfl
theorem ist_X6 : Cond.instantiable RX6 8 ∈ TB := tb_mem (tb_tab (tt_2 (List.mem_of_getElem? (i := 66) rfl))) rfl
theorem ist_X7 : Cond.instantiable RX7 2 ∈ TB := tb_mem (tb_tab (tt_3 (List.mem_of_getElem? (i := 40) rfl))) rfl
theorem ist_X8 : Cond.instantiable RX8 2 ∈ TB := tb_mem (tb_tab (tt_1 (List.mem_of_getElem? (i := 33) rfl))) rfl
theorem ist_X9 : Cond.instantiable RX9 5 ∈ TB := tb_mem (tb_tab (tt_1 (List.mem_of_getElem? (i := 49) rfl))) rfl
theorem ist_X10 : Cond.instantiable RX10 9 ∈ TB := tb_mem (tb_tab (tt_2 (List.mem_of_getElem? (i := 235) rfl))) rfl
theorem ist_X11 : Cond.instantiable RX11 13 ∈ TB := tb_mem (tb_tab (tt_1 (List.mem_of_getElem? (i := 25) rfl))) rfl
theorem ist_X12 : Cond.instantiable RX12 92 ∈ TB := tb_mem (tb_tab (tt_6 (List.mem_of_getElem? (i := 38) rfl))) rfl
theorem k_classes {args : Array Value} {s : State} (hts : ∀ w ∈ TB, w.before args s = true) : ∃ D : va_G, ∀ (c : Nat) (q : vw_C), vwCl[c]? = some q → u_Kn s q.1 q.2.1 q.2.2 (D.1 c) (D.2 c) := by
  obtain ⟨c0, i0, h0⟩ := u_known (C := RX0) (T := TX0) (N := 12) (n := 12) hts inX0 (hts _ ist_X0)
  obtain ⟨c1, i1, h1⟩ := u_known (C := RX1) (T := TX1) (N := 15) (n := 15) hts inX1 (hts _ ist_X1)
  obtain ⟨c2, i2, h2⟩ := u_known (C := RX2) (T := TX2) (N := 9) (n := 9) hts inX2 (hts _ ist_X2)
  obtain ⟨c3, i3, h3⟩ := u_known (C := RX3) (T := TX3) (N := 7) (n := 7) hts inX3 (hts _ ist_X3)
  obtain ⟨c4, i4, h4⟩ := u_known (C := RX4) (T := TX4) (N := 8) (n := 8) hts inX4 (hts _ ist_X4)
  obtain ⟨c5, i5, h5⟩ := u_known (C := RX5) (T := TX5) (N := 10) (n := 10) hts inX5 (hts _ ist_X5)
  obtain ⟨c6, i6, h6⟩ := u_known (C := RX6) (T := TX6) (N := 8) (n := 8) hts inX6 (hts _ ist_X6)
  obtain ⟨c7, i7, h7⟩ := u_known (C := RX7) (T := TX7) (N := 2) (n := 2) hts inX7 (hts _ ist_X7)
  obtain ⟨c8, i8, h8⟩ := u_known (C := RX8) (T := TX8) (N := 2) (n := 2) hts inX8 (hts _ ist_X8)
  obtain ⟨c9, i9, h9⟩ := u_known (C := RX9) (T := TX9) (N := 5) (n := 5) hts inX9 (hts _ ist_X9)
  obtain ⟨c10, i10, h10⟩ := u_known (C := RX10) (T := TX10) (N := 9) (n := 9) hts inX10 (hts _ ist_X10)
  obtain ⟨c11, i11, h11⟩ := u_known (C := RX11) (T := TX11) (N := 13) (n := 13) hts inX11 (hts _ ist_X11)
  obtain ⟨c12, i12, h12⟩ := u_known (C := RX12) (T := TX12) (N := 92) (n := 92) hts inX12 (hts _ ist_X12)
  refine ⟨(fun k => [c0, c1, c2, c3, c4, c5, c6, c7, c8, c9, c10, c11, c12].getD k c0, fun k => [i0, i1, i2, i3, i4, i5, i6, i7, i8, i9, i10, i11, i12].getD k i0), fun c q hq => ?_⟩
  match c, hq with
  | 0, hq => cases hq; exact h0
  | 1, hq => cases hq; exact h1
  | 2, hq => cases hq; exact h2
  | 3, hq => cases hq; exact h3
  | 4, hq => cases hq; exact h4
  | 5, hq => cases hq; exact h5
  | 6, hq => cases hq; exact h6
  | 7, hq => cases hq; exact h7
  | 8, hq => cases hq; exact h8
  | 9, hq => cases hq; exact h9
  | 10, hq => cases hq; exact h10
  | 11, hq => cases hq; exact h11
  | 12, hq => cases hq; exact h12
  | n + 13, hq =>
    have e : vwCl[n + 13]? = none := List.getElem?_eq_none (by show 13 ≤ n + 13; omega)
    rw [e] at hq
    cases hq
theorem aoF_in : Cond.arrayOver (.object "AfterOffice$Facts") ∈ lw_tbl := tb_tab (tt_2 (List.mem_of_getElem? (i := 134) rfl))
theorem aoL_in : Cond.arrayOver (.object "AfterOffice$Letter") ∈ lw_tbl := tb_tab (tt_1 (List.mem_of_getElem? (i := 131) rfl))
theorem k_arr {args : Array Value} {s : State} {ty : FieldType} (h : (Cond.arrayClass ty).before args s = true) : ∃ c, ArrOfT s c ty ∧ s.vm.findClass ("[" ++ ty.toString) = some c := by
  obtain ⟨c, k, comp, h1, h2, h3⟩ := Cond.arrayClass_spec h
  exact ⟨c, fun n z => ⟨fun k h => (by cases h), k, h2, comp, h3⟩, h1⟩
theorem k_arrO {args : Array Value} {s : State} {n : String} (h : (Cond.arrayOver (.object n)).before args s = true) : ∃ c, ArrOfT s c (.object n) ∧ va_RA s c (.object n) := by
  obtain ⟨comp, c, k, h1, h2, h3, h4, h5⟩ := Cond.arrayOver_spec h
  exact ⟨c, fun n z => ⟨fun k h => (by cases h), k, h3, comp, h4⟩, k, comp, h3, h4, h1, h5⟩
theorem k_arrays {args : Array Value} {s : State} (hts : ∀ w ∈ lw_tbl, w.before args s = true) : ∃ cy : Nat → ClassId, ∀ (k : Nat) (q : ClassId × FieldType), (tyl cy)[k]? = some q → ArrOfT s q.1 q.2 ∧ va_RA s q.1 q.2 := by
  obtain ⟨c0, a0, b0⟩ := k_arr (hts _ (List.mem_filter.mp ac_int).1)
  obtain ⟨c1, a1, b1⟩ := k_arr (hts _ (List.mem_filter.mp ac_long).1)
  obtain ⟨c2, a2, b2⟩ := k_arr (hts _ (List.mem_filter.mp ac_byte).1)
  obtain ⟨c3, a3, b3⟩ := k_arr (hts _ (List.mem_filter.mp ac_boolean).1)
  obtain ⟨c4, a4, b4⟩ := k_arrO (hts _ aoF_in)
  obtain ⟨c5, a5, b5⟩ := k_arrO (hts _ aoL_in)
  refine ⟨fun k => [c0, c1, c2, c3, c4, c5].getD k c0, fun k q hq => ?_⟩
  match k, hq with
  | 0, hq => cases hq; exact ⟨a0, b0⟩
  | 1, hq => cases hq; exact ⟨a1, b1⟩
  | 2, hq => cases hq; exact ⟨a2, b2⟩
  | 3, hq => cases hq; exact ⟨a3, b3⟩
  | 4, hq => cases hq; exact ⟨a4, b4⟩
  | 5, hq => cases hq; exact ⟨a5, b5⟩
  | n + 6, hq =>
    have e : (tyl (fun k => [c0, c1, c2, c3, c4, c5].getD k c0))[n + 6]? = none := List.getElem?_eq_none (by show 6 ≤ n + 6; omega)
    rw [e] at hq
    cases hq
theorem ly_few : Cond.laysStatic "AfterOffice" "FEW_STARTS" "[I" ∈ lw_tbl := tb_tab (tt_3 (List.mem_of_getElem? (i := 5) rfl))
theorem ly_cmp : Cond.laysStatic "java/lang/String" "COMPACT_STRINGS" "Z" ∈ lw_tbl := tb_tab (tt_1 (List.mem_of_getElem? (i := 64) rfl))
theorem ly_fmt : Cond.laysStatic "jdk/internal/util/Preconditions" "SIOOBE_FORMATTER" "Ljava/util/function/BiFunction;" ∈ lw_tbl := tb_tab (tt_1 (List.mem_of_getElem? (i := 80) rfl))
theorem in_off : Cond.initialized "AfterOffice" ∈ lw_tbl := tb_tab (tt_1 (List.mem_of_getElem? (i := 1) rfl))
theorem in_str : Cond.initialized "java/lang/String" ∈ lw_tbl := tb_tab (tt_1 (List.mem_of_getElem? (i := 4) rfl))
theorem in_pre : Cond.initialized "jdk/internal/util/Preconditions" ∈ lw_tbl := tb_tab (tt_1 (List.mem_of_getElem? (i := 6) rfl))
theorem sr_in : Cond.stringRef "AfterOffice$Tokens" 25 wtx ∈ lw_tbl := tb_tab (tt_1 (List.mem_of_getElem? (i := 54) rfl))
theorem few_el : ∀ j, j < 5 → Cond.eq (.elem (.static "AfterOffice" "FEW_STARTS" "[I") (.int (Int32.ofNat j))) (.int (fsi j)) ∈ flatC (Jvm.Cond.and given_1 narrow_1) := by decide +kernel
theorem k_few {args : Array Value} {s : State} {A : Nat → Prop} (hts : ∀ w ∈ lw_tbl, w.before args s = true) (hgv : (Jvm.Cond.and given_1 narrow_1).before args s = true) (hA : ∀ a : Nat, a < s.heap.size → ¬ A a) : ∃ t : Nat, va_Z "AfterOffice" "FEW_STARTS" "[I" (.ref t) A s s.heap ∧ va_T .int t 5 (fun j => .int (fsi j)) A s s.heap := by
  have hs := flat_of_before _ hgv
  obtain ⟨t, ht, hT⟩ := va_Tof (tm := (.static "AfterOffice" "FEW_STARTS" "[I")) (ty := .int) (N := 5) (f := fun j => .int (fsi j)) (A := A) (by decide) (hs _ (by decide +kernel)) (va_eqt (hs (Cond.eq (.length (.static "AfterOffice" "FEW_STARTS" "[I")) (.int 5)) (by decide +kernel))) (fun j hj => va_eqt (hs _ (few_el j hj))) hA
  exact ⟨t, va_Zof (hts _ ly_few) (hts _ in_off) ht hA, hT⟩
theorem str_el : ∀ j, j < 144 → Cond.eq (.elem (.field (.string "AfterOffice$Tokens" 25) "java/lang/String" "value" "[B") (.int (Int32.ofNat j))) (.int (wby.getD j 0)) ∈ flatC (Jvm.Cond.and given_1 narrow_1) := by decide +kernel
theorem k_str {args : Array Value} {s : State} {A : Nat → Prop} (hts : ∀ w ∈ lw_tbl, w.before args s = true) (hgv : (Jvm.Cond.and given_1 narrow_1).before args s = true) (hA : ∀ a : Nat, a < s.heap.size → ¬ A a) : ∃ (K V : Nat) (f : Option Nat), SY K V f A s s.heap := by
  have hs := flat_of_before _ hgv
  have h1 : ∀ i : Nat, i < 1 → i = 0 := fun i hi => by omega
  obtain ⟨adK, adV, hv, he⟩ := vk_Sof (N := 1) (tm := fun _ => (.string "AfterOffice$Tokens" 25)) (len := [144]) (byt := [wby]) (A := A) (args := args) (s := s) (fun i hi => by rw [h1 i hi]; decide) (fun i _ => hs _ (by decide +kernel)) (fun i _ => hs _ (by decide +kernel)) (fun i _ => hs _ (by decide +kernel)) (fun i hi => by rw [h1 i hi]; exact hs _ (by decide +kernel)) (fun i hi j hj => by rw [h1 i hi] at hj ⊢; exact hs _ (str_el j hj)) (fun i j hi hj hn => absurd ((h1 i hi).trans (h1 j hj).symm) hn) hA
  have hf : ∃ f : Option Nat, va_Z "jdk/internal/util/Preconditions" "SIOOBE_FORMATTER" "Ljava/util/function/BiFunction;" (fv f) A s s.heap := by
    rcases va_Zqof (C := "jdk/internal/util/Preconditions") (n := "SIOOBE_FORMATTER") (d := "Ljava/util/function/BiFunction;") (hts _ ly_fmt) (hts _ in_pre) (hs _ (by decide +kernel)) hA with h | ⟨t, h⟩
    · exact ⟨none, h⟩
    · exact ⟨some t, h⟩
  obtain ⟨f, hf⟩ := hf
  refine ⟨adK 0, adV 0, f, ⟨fun i hi => ?_, fun i j hi hj _ => by omega⟩, va_Zof (hts _ ly_cmp) (hts _ in_str) (va_eqt (hs (Cond.eq (.static "java/lang/String" "COMPACT_STRINGS" "Z") (.int 1)) (by decide +kernel))) hA, hf, vk_R.of (hts _ sr_in) (he 0 (by decide)), va_AO.of (hts _ aoL_in), va_AO.of (hts _ aoF_in)⟩
  rw [h1 i hi]
  exact hv.1 0 (by decide)
def qL (q1 q2 : Nat → Nat) (t : Nat) : Nat → Nat := fun k => if k < 100 then q2 k else if k < 999 then q1 k else t
def rngS (lo hi : Nat) (S : List (Nat × Shp)) : Bool := S.all (fun e => (decide (lo ≤ e.1) && decide (e.1 < hi)) && (rfs e.2).all (fun k => decide (lo ≤ k) && decide (k < hi)))
theorem WD_rng {lo hi : Nat} {S : List (Nat × Shp)} {q q' : Nat → Nat} {cy : Nat → ClassId} {h : Hp} (a : rngS lo hi S = true) (e : ∀ k, lo ≤ k → k < hi → q k = q' k) : WD S q cy h = WD S q' cy h := by
  have a' := List.all_eq_true.mp a
  apply WD_congr
  · intro x hx
    have c := a' x hx
    simp only [Bool.and_eq_true, decide_eq_true_eq, List.all_eq_true] at c
    exact ⟨e _ c.1.1 c.1.2, fun j hj => e _ (c.2 j hj).1 (c.2 j hj).2⟩
  · exact fun _ _ => ⟨rfl, rfl⟩
theorem rng_C : rngS 100 999 shsC = true := by decide +kernel
theorem rng_M : rngS 0 100 shsM = true := by decide +kernel
theorem apl {α : Type} {w1 w2 : List α} {i : Nat} {x : α} (h : w1[i]? = some x) : (w1 ++ w2)[i]? = some x := by
  rw [List.getElem?_append_left (List.getElem?_eq_some_iff.mp h).1]; exact h
theorem apr {α : Type} {w1 w2 : List α} {i : Nat} {x : α} (h : w2[i]? = some x) : (w1 ++ w2)[w1.length + i]? = some x := by
  rw [List.getElem?_append_right (Nat.le_add_right _ _), Nat.add_sub_cancel_left]; exact h
theorem D_l {A : Nat → Prop} {w1 w2 : va_W} (h : va_D A (w1 ++ w2)) : va_D A w1 := ⟨fun i j p q hi hj e => h.1 i j p q (apl hi) (apl hj) e, fun k q hk => h.2 k q (apl hk)⟩
theorem D_r {A : Nat → Prop} {w1 w2 : va_W} (h : va_D A (w1 ++ w2)) : va_D A w2 := ⟨fun i j p q hi hj e => by have := h.1 _ _ p q (apr hi) (apr hj) e; omega, fun k q hk => h.2 _ q (apr hk)⟩
theorem D_x {A : Nat → Prop} {S1 S2 : List (Nat × Shp)} {q : Nat → Nat} {cy : Nat → ClassId} {h1 h2 : Hp} (h : va_D A (WD S1 q cy h1 ++ WD S2 q cy h2)) : ∀ a, AA S1 q a → ¬ AA S2 q a := by
  intro a h1 h2
  obtain ⟨k, hk, rfl⟩ := h1
  obtain ⟨k', hk', e⟩ := h2
  obtain ⟨x, hx, rfl⟩ := List.mem_map.mp hk
  obtain ⟨y, hy, rfl⟩ := List.mem_map.mp hk'
  obtain ⟨i, hi⟩ := List.getElem?_of_mem hx
  obtain ⟨j, hj⟩ := List.getElem?_of_mem hy
  have g1 : (WD S1 q cy h1)[i]? = some (q x.1, ce q cy h1 x.1 x.2) := by unfold WD; rw [List.getElem?_map, hi]; rfl
  have g2 : (WD S2 q cy h2)[j]? = some (q y.1, ce q cy h2 y.1 y.2) := by unfold WD; rw [List.getElem?_map, hj]; rfl
  have := h.1 _ _ _ _ (apl g1) (apr g2) e
  have l1 := (List.getElem?_eq_some_iff.mp g1).1
  omega
theorem P_l {D : va_G} {w1 w2 : va_W} {H : Heap} (h : va_P D vwCl (w1 ++ w2) H) : va_P D vwCl w1 H := fun k q hk => h k q (apl hk)
theorem P_r {D : va_G} {w1 w2 : va_W} {H : Heap} (h : va_P D vwCl (w1 ++ w2) H) : va_P D vwCl w2 H := fun k q hk => h _ q (apr hk)
theorem w_D {D : va_G} {A : Nat → Prop} {l : Launch} {G : GT} {ca sl nL pc : Nat} {lv : List (Nat × Value)} {st : List Value} {ws : va_W} (k : va_D A ws → JW (RW D A ws) l G ca sl nL pc lv st) : JW (RW D A ws) l G ca sl nL pc lv st := fun H locs ls hP hS hl => k hP.2 H locs ls hP hS hl
def r12 : List Value := [.int 0, .null, .int 0, .null, .int 0, .null, .null, .null, .null, .null, .int 0, .int 0, .int 0, .int 0, .int 0, .int 0, .int 0, .int 0, .int 0, .int 0, .int 0, .null, .null, .null, .null, .null, .null, .null, .null, .null, .null, .null, .null, .null, .null, .null, .null, .null, .null, .null, .null, .null, .int 0, .null, .null, .null] ++ [.null, .null, .null, .int 0, .null, .null, .null, .int 0, .null, .null, .int 0, .int 0, .int 0, .int 0, .null, .null, .null, .null, .null, .null, .null, .null, .null, .int 0, .int 0, .int 0, .null, .int 0, .null, .null, .null, .null, .null, .int 0, .int 0, .int 0, .null, .null, .null, .null, .null, .null, .null, .null, .null, .null]
set_option maxRecDepth 40000 in
theorem tX12_r (l : Launch) (qs : Nat → Nat) (D : va_G) (cy : Nat → ClassId) (a sz : Nat) : MI l qs D cy yX12_init cX12_init 1 3 64 49971 [.ref a] a 12 sz r12 (fun w1 => ∃ q : Nat → Nat, q 0 = a ∧ w1 = WD shsM q cy hM0) := tX12_init l qs D cy a sz
set_option maxRecDepth 40000 in
theorem nf_r12 : ∀ j, j < 92 → defaultValue (tyX12 j) = vp_V r12 j := nf_X12
set_option maxRecDepth 40000 in
theorem law_start {l : Launch} {qs : Nat → Nat} {D : va_G} {cy : Nat → ClassId} {K V : Nat} {f : Option Nat} {G : GT} {b L : Nat} {xs : Nat → Int32} (hL : L ≤ 3072) (X : CR D cy G cL_law RL 4) (hx : SX qs G.2.2.1 G.1.2.2.2.1 G.1.2.2.2.1.heap) (S : SY K V f G.2.2.1 G.1.2.2.2.1 G.1.2.2.2.1.heap) (hb : va_X b L xs G.1.2.2.2.1 G.1.2.2.2.1.heap ∧ b < G.1.2.2.2.1.heap.size ∧ ¬ G.2.2.1 b) (hR : G.1.2.2.1 = room_1 ∧ G.2.1.2.2.1.sig.returnType = ret ∧ G.2.1.2.2.1.locks = false) (hA : ∀ a, G.2.2.1 a ↔ G.1.2.2.2.1.heap.size ≤ a) (hQ : G.2.2.2.2.2 = lw_Z G.2.1.2.1 #[Value.ref b] G.1.2.2.2.1) (hargs : G.2.1.1 = #[Value.ref b]) : JW (RW D G.2.2.1 []) l G 0 0 4 0 [(0, .ref b)] [] := by
  refine r_new (pc := 0) [.null, .null, .null, .null, .null, .null, .null, .null, .null, .null, .null, .int 0, .int 0] X dL_law_0 nw_L_7 nf_X11 (by rw [hR.1]; exact Nat.le_of_ble_eq_true rfl) (by rw [hR.1]; exact Nat.le_of_ble_eq_true rfl) (fun a => ?_)
  refine w_dup (pc := 3) X.1 dL_law_3 rfl ?_
  refine r_callG (pc := 4) (n' := 5) (mc' := 110) (ms' := 7404) (As := []) (rest := [.ref a]) (Pc := fun sz => PI2 K V f qs D cy [.ref a] a 11 sz [.null, .null, .null, .null, .null, .null, .null, .null, .null, .null, .null, .int 0, .int 0]) [] X (by rw [hR.1]; exact ⟨Nat.le_of_ble_eq_true rfl, Nat.le_of_ble_eq_true rfl, Nat.le_of_ble_eq_true rfl, Nat.le_of_ble_eq_true rfl⟩) dL_law_4 mlc_L_9 ck_X11_init imc_X11 rfl rfl (Nat.le_of_ble_eq_true rfl) rfl rfl (fun H locs hP hS => r_pre2 X hx S hP hS) (fun sz => tX11_init l K V f qs D cy a sz) ?_
  rintro _ ⟨q1, c, ea, hRel, rfl⟩
  refine w_astore_n (pc := 7) [(1, .ref a), (0, .ref b)] X.1 dL_law_7 (by decide) rfl ?_
  refine r_new (pc := 8) r12 X dL_law_8 nw_L_10 nf_r12 (by rw [hR.1]; exact Nat.le_of_ble_eq_true rfl) (by rw [hR.1]; exact Nat.le_of_ble_eq_true rfl) (fun mo => ?_)
  refine w_dup (pc := 11) X.1 dL_law_11 rfl ?_
  refine r_callG (pc := 12) (n' := 3) (mc' := 64) (ms' := 49971) (As := []) (rest := [.ref mo]) (Pc := fun sz => PI qs D cy [.ref mo] mo 12 sz r12) (WD shsC q1 cy c) X (by rw [hR.1]; exact ⟨Nat.le_of_ble_eq_true rfl, Nat.le_of_ble_eq_true rfl, Nat.le_of_ble_eq_true rfl, Nat.le_of_ble_eq_true rfl⟩) dL_law_12 mlc_L_12 ck_X12_init imc_X12 rfl rfl (Nat.le_of_ble_eq_true rfl) rfl rfl (fun H locs hP hS => r_preG X hx hP hS) (fun sz => tX12_r l qs D cy mo sz) ?_
  rintro _ ⟨q2, em, rfl⟩
  refine w_astore_n (pc := 15) [(2, .ref mo), (1, .ref a), (0, .ref b)] X.1 dL_law_15 (by decide) rfl ?_
  refine w_iconst (pc := 16) 0 X.1 dL_law_16 rfl ?_
  refine w_istore_n (pc := 17) [(3, .int 0), (2, .ref mo), (1, .ref a), (0, .ref b)] X.1 dL_law_17 (by decide) rfl ?_
  refine w_lv [(0, .ref b), (1, .ref a), (2, .ref mo), (3, .int (nI 0))] [3, 2, 1, 0] rfl ?_
  have eC : WD shsC q1 cy c = WD shsC (qL q1 q2 (qs 999)) cy c := WD_rng rng_C (fun k h1 h2 => ((if_neg (Nat.not_lt.mpr h1)).trans (if_pos h2)).symm)
  have eM : WD shsM q2 cy hM0 = WD shsM (qL q1 q2 (qs 999)) cy hM0 := WD_rng rng_M (fun k h1 h2 => (if_pos h2).symm)
  have e1 : a = qL q1 q2 (qs 999) 100 := ea.symm
  have e2 : mo = qL q1 q2 (qs 999) 0 := em.symm
  refine w_eq (show WD shsC q1 cy c ++ WD shsM q2 cy hM0 = WD shsC (qL q1 q2 (qs 999)) cy c ++ WD shsM (qL q1 q2 (qs 999)) cy hM0 by rw [eC, eM]) ?_
  rw [e1, e2]
  refine w_D (fun hD => ?_)
  refine w_imp (Wq := W2 (l, qL q1 q2 (qs 999), D, cy) shsC shsM c hM0) (fun H h => ⟨P_l h.1, P_r h.1⟩) ?_
  exact law_loop (Y := (l, qL q1 q2 (qs 999), D, cy)) hL ⟨X.1, X.2.1, ⟨WD_qi (D_l hD), WD_qi (D_r hD), D_x hD⟩, ⟨WD_AA (D_l hD), WD_AA (D_r hD)⟩, SX_q rfl hx, hb, hR⟩ ⟨Nat.le_of_ble_eq_true rfl, Nat.le_of_ble_eq_true rfl⟩ hA hQ hargs sims_AO (L + 7) 0 (by omega) (by omega) c hM0 hRel
theorem whole_start {p : Program} {e : Env} {s : State} {m : MethodId} {below : List Frame} {meth : Method} {c : Code} (l : Launch) {b L : Nat} {xs : Nat → Int32} (hL : L ≤ 3072) (C0 : lw_At p s m meth c b L xs) : W p l e room_1 s m #[Value.ref b] below meth c s.heap [] 0 0 (lw_Z below #[Value.ref b] s) (entryFrame m ([Value.ref b] : List Value).toArray 4) := by
  obtain ⟨hx, hb, hr, hml, hown, hts, hX, hbl, hlocks, hgv⟩ := id C0
  have hts' : ∀ w ∈ TB, w.before #[Value.ref b] s = true := fun w hw => hts w (List.mem_filter.mp hw).1
  obtain ⟨D, hD⟩ := k_classes hts'
  obtain ⟨cy, hcy⟩ := k_arrays hts
  have hA : ∀ a : Nat, a < s.heap.size → ¬ (fun q : Nat => s.heap.size ≤ q) a := fun a h => Nat.not_le.mpr h
  obtain ⟨t, z1, z2⟩ := k_few hts hgv hA
  obtain ⟨K, V, f, hS⟩ := k_str hts hgv hA
  have hl := lv_entry ([.ref b]) (n := 4) (Nat.le_of_ble_eq_true rfl)
  rw [lg_entry_eq]
  generalize (lg_sl ([.ref b]) ++ List.replicate (4 - (lg_sl ([.ref b])).length) Slot.unset).toArray = ls at hl ⊢
  have hl : lv_has ls 4 [(0, .ref b)] := hl
  exact law_start (qs := fun _ => t) (D := D) (cy := cy) (K := K) (V := V) (f := f) (xs := xs) (G := ((p, e, room_1, s, m), (#[Value.ref b], below, meth, c), (fun q => s.heap.size ≤ q, 0, 0, lw_Z below #[Value.ref b] s))) hL ⟨⟨hx, hb, hml, hown, hts'⟩, ⟨hD, hcy⟩, fun _ h => h⟩ ⟨z1, z2, fun o i y g hm => va_Nw.of rfl (hts _ hm), fun o i b n d g hm => va_Nw.of rfl (hts _ hm)⟩ hS ⟨hX, hbl, Nat.not_le.mpr hbl⟩ ⟨rfl, hr, hlocks⟩ (fun _ => Iff.rfl) rfl rfl s.heap [] ls ⟨fun k q h => by simp at h, ⟨fun i j p q h => by simp at h, fun k q h => by simp at h⟩⟩ va_S.rf hl
