def wtx : String := "person  clerk   barred  letter  if      proof   dies    fee     good    or      and     not     dead    read    year    age     shelf   late    "
def wby : List Int32 := [112, 101, 114, 115, 111, 110, 32, 32, 99, 108, 101, 114, 107, 32, 32, 32, 98, 97, 114, 114, 101, 100, 32, 32, 108, 101, 116, 116, 101, 114, 32, 32, 105, 102, 32, 32, 32, 32, 32, 32, 112, 114, 111, 111, 102, 32, 32, 32, 100, 105, 101, 115, 32, 32, 32, 32, 102, 101, 101, 32, 32, 32, 32, 32, 103, 111, 111, 100, 32, 32, 32, 32, 111, 114, 32, 32, 32, 32, 32, 32, 97, 110, 100, 32, 32, 32, 32, 32, 110, 111, 116, 32, 32, 32, 32, 32, 100, 101, 97, 100, 32, 32, 32, 32, 114, 101, 97, 100, 32, 32, 32, 32, 121, 101, 97, 114, 32, 32, 32, 32, 97, 103, 101, 32, 32, 32, 32, 32, 115, 104, 101, 108, 102, 32, 32, 32, 108, 97, 116, 101, 32, 32, 32, 32]
/-! String constants for the constructor of Tokens, and calls that only read -/
def nof : Nat → Prop := fun _ => False
def fv (f : Option Nat) : Value := match f with
  | none => .null
  | some t => .ref t
def SY (K V : Nat) (f : Option Nat) (A : Nat → Prop) (U : State) (H : Heap) : Prop := vk_S 1 [144] [wby] (fun _ => K) (fun _ => V) A U H ∧ va_Z "java/lang/String" "COMPACT_STRINGS" "Z" (.int 1) A U H ∧ va_Z "jdk/internal/util/Preconditions" "SIOOBE_FORMATTER" "Ljava/util/function/BiFunction;" (fv f) A U H ∧ vk_R "AfterOffice$Tokens" 25 wtx K U ∧ va_AO "AfterOffice$Letter" U ∧ va_AO "AfterOffice$Facts" U
theorem SY.moved {K V : Nat} {f : Option Nat} {A : Nat → Prop} {s U : State} {H : Heap} (hW : s.WarmedH U.vm) (h : SY K V f A s H) : SY K V f A U H := ⟨h.1.moved hW.alike, h.2.1.moved hW.alike, h.2.2.1.moved hW.alike, h.2.2.2.1.warm hW, h.2.2.2.2.1.moved hW.alike, h.2.2.2.2.2.moved hW.alike⟩
theorem SY.kept {K V : Nat} {f : Option Nat} {A : Nat → Prop} {U : State} {H H1 : Heap} (h : SY K V f A U H) (hq : ∀ a : Nat, a < H.size → ¬ A a → H1[a]? = H[a]?) : SY K V f A U H1 := ⟨h.1.kept hq, h.2.1.kept hq, h.2.2.1.kept hq, h.2.2.2⟩
theorem SY.narrow {K V : Nat} {f : Option Nat} {A B : Nat → Prop} {U : State} {H : Heap} (h : SY K V f A U H) (hAB : ∀ a, B a → A a) : SY K V f B U H := ⟨h.1.narrow hAB, h.2.1.narrow hAB, h.2.2.1.narrow hAB, h.2.2.2⟩
theorem SY.blind {K V : Nat} {f : Option Nat} {A : Nat → Prop} {U U' : State} {H : Heap} (h : SY K V f A U H) (e : U.vm = U'.vm) : SY K V f A U' H := ⟨h.1.moved (e ▸ Vm.Alike.refl U.vm), h.2.1.moved (e ▸ Vm.Alike.refl U.vm), h.2.2.1.moved (e ▸ Vm.Alike.refl U.vm), h.2.2.2.1.same e.symm, h.2.2.2.2.1.moved (e ▸ Vm.Alike.refl U.vm), h.2.2.2.2.2.moved (e ▸ Vm.Alike.refl U.vm)⟩
def PY (K V : Nat) (f : Option Nat) (avs : List Value) : Array Value → State → Prop := fun v U => v = avs.toArray ∧ SY K V f nof U U.heap
def QY (ov : Option Value) : Array Value → State → Outcome → State → Prop := fun _ st oc t => oc = .returned ov ∧ va_F nof st t
/-- a contract of a method that only reads -/
def MY (l : Launch) (K V : Nat) (f : Option Nat) (y : MethodName) (cc : ByteArray) (mL : Nat) (ret : Option FieldType) (n : Nat) (avs : List Value) (ov : Option Value) : Prop := Met l y (Cond.code y cc mL ret :: TB) (rmL n) (PY K V f avs) (QY ov) 0 0 nof
def CY (K V : Nat) (f : Option Nat) (G : GT) (cc : ByteArray) (own : String) (nL n : Nat) (rt : Option FieldType) (ov : Option Value) : Prop := CW G cc own nL ∧ SY K V f G.2.2.1 G.1.2.2.2.1 G.1.2.2.2.1.heap ∧ G.1.2.2.1 = rmL n ∧ G.2.2.1 = nof ∧ (G.2.2.2.2.2 = MQ G.2.1.2.1 (QY ov) G.2.1.1 G.1.2.2.2.1 0 0 nof ∧ G.2.1.2.2.1.sig.returnType = rt ∧ G.2.1.2.2.1.locks = false)
theorem PY_blind {K V : Nat} {f : Option Nat} {avs : List Value} : FrameBlind (PY K V f avs) := fun a U g mk ⟨e, hx⟩ => ⟨e, hx.blind (U' := U.calling g mk a) rfl⟩
def Tru : Heap → Prop := fun _ => True
theorem my_start {l : Launch} {K V : Nat} {f : Option Nat} {y : MethodName} {cc : ByteArray} {mL n : Nat} {rt : Option FieldType} {avs : List Value} {ov : Option Value} (hy : plainName y.cls = true) (hlen : (lg_sl avs).length ≤ mL) (k : ∀ G, CY K V f G cc y.cls mL n rt ov → JW Tru l G 0 0 mL 0 (lv_args 0 avs) []) : MY l K V f y cc mL rt n avs ov := by
  refine Met.ofW (cc := cc) (maxL := mL) (ret := rt) hy rfl ?_
  intro p e s m args below meth c s₁ B hml hv
  obtain ⟨rfl, hx⟩ := hv
  have hts := atoms_spec (ws := Cond.code y cc mL rt :: TB) B.pre
  have hown : s.vm.findClass y.cls = some m.cls := findClass_of_methodNamed B.named
  have hl := lv_entry avs (n := mL) hlen
  rw [lg_entry_eq]
  generalize (lg_sl avs ++ List.replicate (mL - (lg_sl avs).length) Slot.unset).toArray = ls at hl ⊢
  exact k ((p, e, rmL n, s, m), (avs.toArray, below, meth, c), (nof, 0, 0, MQ below (QY ov) avs.toArray s 0 0 nof)) ⟨⟨B.exec, B.bytes, hml, hown, fun w hw => hts w (List.mem_cons_of_mem _ hw)⟩, hx, rfl, rfl, rfl, B.returns, B.notSynchronized⟩ s.heap [] ls trivial va_S.rf hl
/-- a picture of the heap that stays where nothing old changes -/
def Sta (Wp : Heap → Prop) : Prop := ∀ H H1 : Heap, (∀ q : Nat, q < H.size → H1[q]? = H[q]?) → Wp H → Wp H1
theorem Sta_T : Sta Tru := fun _ _ _ _ => trivial
theorem Sta_RW {D : va_G} {A : Nat → Prop} {ws : va_W} : Sta (RW D A ws) := fun _ _ hq hP => ⟨hP.1.kept (fun k x hx => hq _ (hP.1 k x hx).lt), hP.2⟩
section YRULES
variable {Wp : Heap → Prop} {l : Launch} {G : GT} {K V : Nat} {f : Option Nat} {cc : ByteArray} {own : String} {ca sl nL n pc : Nat} {lv : List (Nat × Value)} {st : List Value} {rt : Option FieldType} {ov : Option Value}
theorem y_cmp {idx : Nat} (C : CW G cc own nL) (S : SY K V f G.2.2.1 G.1.2.2.2.1 G.1.2.2.2.1.heap) (d : decode cc pc = .ok (.getstatic idx, 3)) (hm : Cond.fieldLink own idx "java/lang/String" "COMPACT_STRINGS" "Z" ∈ TB) (k : JW Wp l G ca sl nL (pc + 3) lv (.int 1 :: st)) : JW Wp l G ca sl nL pc lv st := fun H locs ls hP hS hl => va_gets C.1 C.2.1 S.2.1 hS C.2.2.2.1 (C.2.2.2.2 _ hm) (fun _ h => h) d (k H locs ls hP hS hl)
theorem y_fmt {idx : Nat} (C : CW G cc own nL) (S : SY K V f G.2.2.1 G.1.2.2.2.1 G.1.2.2.2.1.heap) (d : decode cc pc = .ok (.getstatic idx, 3)) (hm : Cond.fieldLink own idx "jdk/internal/util/Preconditions" "SIOOBE_FORMATTER" "Ljava/util/function/BiFunction;" ∈ TB) (k : JW Wp l G ca sl nL (pc + 3) lv (fv f :: st)) : JW Wp l G ca sl nL pc lv st := fun H locs ls hP hS hl => va_gets C.1 C.2.1 S.2.2.1 hS C.2.2.2.1 (C.2.2.2.2 _ hm) (fun _ h => h) d (k H locs ls hP hS hl)
theorem y_getc {idx : Nat} (C : CW G cc own nL) (S : SY K V f G.2.2.1 G.1.2.2.2.1 G.1.2.2.2.1.heap) (d : decode cc pc = .ok (.getfield idx, 3)) (hm : Cond.fieldLink own idx "java/lang/String" "coder" "B" ∈ TB) (k : JW Wp l G ca sl nL (pc + 3) lv (.int 0 :: st)) : JW Wp l G ca sl nL pc lv (.ref K :: st) := fun H locs ls hP hS hl => vk_getf C.1 C.2.1 (S.1.1 0 (by decide)).2.1 hS C.2.2.2.1 (C.2.2.2.2 _ hm) (fun _ h => h) d (k H locs ls hP hS hl)
theorem y_getv {idx : Nat} (C : CW G cc own nL) (S : SY K V f G.2.2.1 G.1.2.2.2.1 G.1.2.2.2.1.heap) (d : decode cc pc = .ok (.getfield idx, 3)) (hm : Cond.fieldLink own idx "java/lang/String" "value" "[B" ∈ TB) (k : JW Wp l G ca sl nL (pc + 3) lv (.ref V :: st)) : JW Wp l G ca sl nL pc lv (.ref K :: st) := fun H locs ls hP hS hl => vk_getf C.1 C.2.1 (S.1.1 0 (by decide)).2.2.1 hS C.2.2.2.1 (C.2.2.2.2 _ hm) (fun _ h => h) d (k H locs ls hP hS hl)
theorem y_len (C : CW G cc own nL) (S : SY K V f G.2.2.1 G.1.2.2.2.1 G.1.2.2.2.1.heap) (d : decode cc pc = .ok (.arraylength, 1)) (k : JW Wp l G ca sl nL (pc + 1) lv (.int 144 :: st)) : JW Wp l G ca sl nL pc lv (.ref V :: st) := fun H locs ls hP hS hl => va_tlen C.1 C.2.1 (S.1.1 0 (by decide)).2.2.2 hS rfl d (k H locs ls hP hS hl)
theorem y_bald {i : Int32} (C : CW G cc own nL) (S : SY K V f G.2.2.1 G.1.2.2.2.1 G.1.2.2.2.1.heap) (d : decode cc pc = .ok (.baload, 1)) (hi : inb i 144 = true) (k : JW Wp l G ca sl nL (pc + 1) lv (.int (wby.getD (ix i) 0) :: st)) : JW Wp l G ca sl nL pc lv (.int i :: .ref V :: st) := fun H locs ls hP hS hl => va_tb C.1 C.2.1 (S.1.1 0 (by decide)).2.2.2 hS (inb_in hi) rfl d (k H locs ls hP hS hl)
theorem y_ldc (C : CW G cc "AfterOffice$Tokens" nL) (S : SY K V f G.2.2.1 G.1.2.2.2.1 G.1.2.2.2.1.heap) (d : decode cc pc = .ok (.ldc 25, 2)) (k : JW Wp l G ca sl nL (pc + 2) lv (.ref K :: st)) : JW Wp l G ca sl nL pc lv st := fun H locs ls hP hS hl => va_ldcS C.1 C.2.1 C.2.2.2.1 S.2.2.2.1 d (k H locs ls hP hS hl)
theorem y_ishr {x y : Int32} (C : CW G cc own nL) (d : decode cc pc = .ok (.ishr, 1)) (k : JW Wp l G ca sl nL (pc + 1) lv (.int (x >>> (y &&& 31)) :: st)) : JW Wp l G ca sl nL pc lv (.int y :: .int x :: st) := fun H locs ls hP hS hl => lv_ishr C.1 C.2.1 d (k H locs ls hP hS hl)
theorem y_i2c {x : Int32} (C : CW G cc own nL) (d : decode cc pc = .ok (.i2c, 1)) (k : JW Wp l G ca sl nL (pc + 1) lv (.int (x.toUInt32 % 65536).toInt32 :: st)) : JW Wp l G ca sl nL pc lv (.int x :: st) := fun H locs ls hP hS hl => lv_i2c C.1 C.2.1 d rfl (k H locs ls hP hS hl)
theorem y_pop {v : Value} (C : CW G cc own nL) (d : decode cc pc = .ok (.pop, 1)) (hv : v.category = 1) (k : JW Wp l G ca sl nL (pc + 1) lv st) : JW Wp l G ca sl nL pc lv (v :: st) := fun H locs ls hP hS hl => lv_pop C.1 C.2.1 d hv (k H locs ls hP hS hl)
theorem y_if_lt {x : Int32} {off : Int} (tgt : Nat) (C : CW G cc own nL) (d : decode cc pc = .ok (.ifCond .lt off, 3)) (ht : (pc : Int) + off = (tgt : Int)) (kt : x < 0 → JW Wp l G ca sl nL tgt lv st) (kf : ¬ x < 0 → JW Wp l G ca sl nL (pc + 3) lv st) : JW Wp l G ca sl nL pc lv (.int x :: st) := fun H locs ls hP hS hl => lv_if_lt C.1 C.2.1 d ht (fun c => kt c H locs ls hP hS hl) (fun c => kf c H locs ls hP hS hl)
theorem y_ret {x v : Int32} {ty : FieldType} (X : CY K V f G cc own nL n (some ty) (some (.int v))) (d : decode cc pc = .ok (.ireturn, 1)) (hv : x = v) (hn : narrow ty (.int v) = .int v) : JW Tru l G 0 0 nL pc lv [.int x] := fun H locs ls hP hS hl => by
  subst hv
  obtain ⟨C, S, hR, hA, hQ, hr, hlk⟩ := X
  rw [hQ]
  rw [hA] at hS
  exact W.zret C.1 C.2.1 hr hn (fun t ht hW => ⟨rfl, hS.F ht⟩) hS.2.2 d hlk
theorem y_vret (X : CY K V f G cc own nL n none none) (d : decode cc pc = .ok (.return_, 1)) : JW Tru l G 0 0 nL pc lv [] := fun H locs ls hP hS hl => by
  obtain ⟨C, S, hR, hA, hQ, hr, hlk⟩ := X
  rw [hQ]
  rw [hA] at hS
  exact W.vret C.1 C.2.1 hr (fun t ht hW => ⟨rfl, hS.F ht⟩) hS.2.2 d hlk
theorem y_back {ov' : Option Value} {av : Array Value} {g rest : List Value} {H : Heap} {locs : List Loc} {ls : Array Slot} (hWp : Sta Wp) (hl : lv_has ls nL lv) (hP : Wp H) (hS : va_S G.2.2.1 G.1.2.2.2.1.heap H locs)
    (hr : va_Run G.1.1 l G.1.2.1 G.1.2.2.1 G.1.2.2.2.1 G.1.2.2.2.2 G.2.1.1 G.2.1.2.1 G.2.1.2.2.1 G.2.1.2.2.2 H locs ca sl 0 0 (F0 G.1.2.2.2.2 pc ls g) rest (QY ov' av) nof) (kk : JW Wp l G ca sl nL (pc + 3) lv (ov'.toList ++ rest)) :
    W G.1.1 l G.1.2.1 G.1.2.2.1 G.1.2.2.2.1 G.1.2.2.2.2 G.2.1.1 G.2.1.2.1 G.2.1.2.2.1 G.2.1.2.2.2 H locs ca sl G.2.2.2.2.2 (F0 G.1.2.2.2.2 pc ls g) := by
  intro T hT XX
  obtain ⟨v, st₀, t, T', L', e0, X', hL, e1, e2, ⟨hv', hz, hkk⟩, stt⟩ := hr T hT XX
  cases hv'
  rw [e0] at hz hkk
  have hsame : ∀ q : Nat, q < H.size → T'.heap[q]? = H[q]? := fun q hq => by rw [e1]; exact hkk q hq (fun z => z)
  obtain ⟨t2, a1, b1⟩ := kk T'.heap (locs ++ L') ls (hWp _ _ hsame hP)
    ⟨Nat.le_trans hS.1 (by rw [e1]; exact hz), fun q h1 h2 => by rw [hsame q (Nat.lt_of_lt_of_le h1 hS.1)]; exact hS.2.1 q h1 h2, fun q hq => by
      rcases List.mem_append.mp hq with h | h
      · exact hS.2.2 q h
      · exact absurd (hL q h) (fun z => z)⟩ hl T' rfl X'
  exact ⟨t2, stt t2 a1, b1⟩
theorem y_callS {y : MethodName} {cc' : ByteArray} {mL np n' idx : Nat} {rt' : Option FieldType} {As rest : List Value} {ov' : Option Value} (hWp : Sta Wp) (C : CW G cc own nL) (S : SY K V f G.2.2.1 G.1.2.2.2.1 G.1.2.2.2.1.heap) (hR : n' + 1 ≤ G.1.2.2.1.frames ∧ 40 * n' + 40 ≤ G.1.2.2.1.locals ∧ ca ≤ G.1.2.2.1.cells ∧ sl ≤ G.1.2.2.1.slots) (d : decode cc pc = .ok (.invokestatic idx, 3)) (hm : Cond.methodLink own idx y ∈ TB) (hc : CK y cc' mL rt' np) (hv : Cond.static y ∈ TB) (hAs : As.length = np) (hrest : (rest.map fun v => v.category).sum ≤ 8) (hst : st = As.reverse ++ rest)
    (hM : MY l K V f y cc' mL rt' n' As ov') (kk : JW Wp l G ca sl nL (pc + 3) lv (ov'.toList ++ rest)) : JW Wp l G ca sl nL pc lv st := fun H locs ls hP hS hl => by
  subst hst
  have hmL := hc.2.2.2
  obtain ⟨r1, r2, r3, r4⟩ := hR
  exact y_back hWp hl hP hS (va_runS (As := As) (rest := rest) (Ts := TB) C hM ⟨callB_of np C.2.2.2.2 (gTB hc.1) rfl rfl rfl (C.2.2.2.2 _ hc.2.1) (C.2.2.2.2 _ hm) hc.2.2.1 ⟨r1, Nat.le_trans (show 8 + (mL + 11) + 40 * n' ≤ 40 * n' + 40 by omega) r2⟩, C.2.2.2.2 _ hv⟩ ⟨PY_blind, fun U hU hW => ⟨rfl, by rw [hU]; exact ((S.moved hW).kept hS.2.1).narrow (fun _ h => h.elim)⟩⟩ rfl hAs hl.1 rfl (lv_room hrest) d ⟨r3, r4⟩) kk
theorem y_callV {y : MethodName} {cc' : ByteArray} {mL np n' idx : Nat} {rt' : Option FieldType} {As rest : List Value} {ov' : Option Value} (hWp : Sta Wp) (C : CW G cc own nL) (S : SY K V f G.2.2.1 G.1.2.2.2.1 G.1.2.2.2.1.heap) (hR : n' + 1 ≤ G.1.2.2.1.frames ∧ 40 * n' + 40 ≤ G.1.2.2.1.locals ∧ ca ≤ G.1.2.2.1.cells ∧ sl ≤ G.1.2.2.1.slots) (d : decode cc pc = .ok (.invokevirtual idx, 3)) (hm : Cond.methodLink own idx y ∈ TB) (hc : CK y cc' mL rt' np) (hv : CV y) (hcl : y.cls = "java/lang/String") (hAs : As.length = np) (hrest : (rest.map fun v => v.category).sum ≤ 8) (hst : st = As.reverse ++ .ref K :: rest)
    (hM : MY l K V f y cc' mL rt' n' (.ref K :: As) ov') (kk : JW Wp l G ca sl nL (pc + 3) lv (ov'.toList ++ rest)) : JW Wp l G ca sl nL pc lv st := fun H locs ls hP hS hl => by
  subst hst
  have hmL := hc.2.2.2
  obtain ⟨r1, r2, r3, r4⟩ := hR
  exact y_back hWp hl hP hS (va_runV (As := As) (rest := rest) (Ts := TB) C hM ⟨callB_of np C.2.2.2.2 (gTB hc.1) rfl rfl rfl (C.2.2.2.2 _ hc.2.1) (C.2.2.2.2 _ hm) hc.2.2.1 ⟨r1, Nat.le_trans (show 8 + (mL + 11) + 40 * n' ≤ 40 * n' + 40 by omega) r2⟩, C.2.2.2.2 _ hv.1, C.2.2.2.2 _ hv.2⟩ ⟨PY_blind, by rw [hcl]; exact vk_recv S.1 (i := 0) (by decide) hS, fun U hU hW => ⟨rfl, by rw [hU]; exact ((S.moved hW).kept hS.2.1).narrow (fun _ h => h.elim)⟩⟩ rfl hAs hl.1 rfl (lv_room hrest) d ⟨r3, r4⟩) kk
end YRULES
theorem ck_J0_length_8abf5 : CK yJ0_length_8abf5 cJ0_length_8abf5 1 (some .int) 0 := ⟨tb_mem (tb_tab (tt_1 (List.mem_of_getElem? (i := 58) rfl))) rfl, tb_mem (tb_tab (tt_1 (List.mem_of_getElem? (i := 4) rfl))) rfl, by decide, by decide⟩
theorem cv_J0_length_8abf5 : CV yJ0_length_8abf5 := ⟨tb_mem (tb_tab (tt_1 (List.mem_of_getElem? (i := 56) rfl))) rfl, tb_mem (tb_tab (tt_1 (List.mem_of_getElem? (i := 57) rfl))) rfl⟩
theorem ck_J0_charAt_5068e : CK yJ0_charAt_5068e cJ0_charAt_5068e 2 (some .char) 1 := ⟨tb_mem (tb_tab (tt_1 (List.mem_of_getElem? (i := 68) rfl))) rfl, tb_mem (tb_tab (tt_1 (List.mem_of_getElem? (i := 4) rfl))) rfl, by decide, by decide⟩
theorem cv_J0_charAt_5068e : CV yJ0_charAt_5068e := ⟨tb_mem (tb_tab (tt_1 (List.mem_of_getElem? (i := 66) rfl))) rfl, tb_mem (tb_tab (tt_1 (List.mem_of_getElem? (i := 67) rfl))) rfl⟩
theorem ck_J0_coder_7d493 : CK yJ0_coder_7d493 cJ0_coder_7d493 1 (some .byte) 0 := ⟨tb_mem (tb_tab (tt_1 (List.mem_of_getElem? (i := 62) rfl))) rfl, tb_mem (tb_tab (tt_1 (List.mem_of_getElem? (i := 4) rfl))) rfl, by decide, by decide⟩
theorem cv_J0_coder_7d493 : CV yJ0_coder_7d493 := ⟨tb_mem (tb_tab (tt_1 (List.mem_of_getElem? (i := 60) rfl))) rfl, tb_mem (tb_tab (tt_1 (List.mem_of_getElem? (i := 61) rfl))) rfl⟩
theorem ck_J0_isLatin1_aae02 : CK yJ0_isLatin1_aae02 cJ0_isLatin1_aae02 1 (some .boolean) 0 := ⟨tb_mem (tb_tab (tt_1 (List.mem_of_getElem? (i := 72) rfl))) rfl, tb_mem (tb_tab (tt_1 (List.mem_of_getElem? (i := 4) rfl))) rfl, by decide, by decide⟩
theorem cv_J0_isLatin1_aae02 : CV yJ0_isLatin1_aae02 := ⟨tb_mem (tb_tab (tt_1 (List.mem_of_getElem? (i := 70) rfl))) rfl, tb_mem (tb_tab (tt_1 (List.mem_of_getElem? (i := 71) rfl))) rfl⟩
theorem ck_J0_checkIndex_df160 : CK yJ0_checkIndex_df160 cJ0_checkIndex_df160 2 none 2 := ⟨tb_mem (tb_tab (tt_1 (List.mem_of_getElem? (i := 78) rfl))) rfl, tb_mem (tb_tab (tt_1 (List.mem_of_getElem? (i := 4) rfl))) rfl, by decide, by decide⟩
theorem sk_J0_checkIndex_df160 : Cond.static yJ0_checkIndex_df160 ∈ TB := tb_mem (tb_tab (tt_1 (List.mem_of_getElem? (i := 77) rfl))) rfl
theorem ck_J1_charAt_3b067 : CK yJ1_charAt_3b067 cJ1_charAt_3b067 2 (some .char) 2 := ⟨tb_mem (tb_tab (tt_1 (List.mem_of_getElem? (i := 75) rfl))) rfl, tb_mem (tb_tab (tt_1 (List.mem_of_getElem? (i := 5) rfl))) rfl, by decide, by decide⟩
theorem sk_J1_charAt_3b067 : Cond.static yJ1_charAt_3b067 ∈ TB := tb_mem (tb_tab (tt_1 (List.mem_of_getElem? (i := 74) rfl))) rfl
theorem ck_J3_checkIndex_8e157 : CK yJ3_checkIndex_8e157 cJ3_checkIndex_8e157 3 (some .int) 3 := ⟨tb_mem (tb_tab (tt_1 (List.mem_of_getElem? (i := 83) rfl))) rfl, tb_mem (tb_tab (tt_1 (List.mem_of_getElem? (i := 6) rfl))) rfl, by decide, by decide⟩
theorem sk_J3_checkIndex_8e157 : Cond.static yJ3_checkIndex_8e157 ∈ TB := tb_mem (tb_tab (tt_1 (List.mem_of_getElem? (i := 82) rfl))) rfl
theorem mlJ_length : Cond.methodLink "AfterOffice$Tokens" 27 yJ0_length_8abf5 ∈ TB := tb_mem (tb_tab (tt_1 (List.mem_of_getElem? (i := 55) rfl))) rfl
theorem mlJ_charAt : Cond.methodLink "AfterOffice$Tokens" 33 yJ0_charAt_5068e ∈ TB := tb_mem (tb_tab (tt_1 (List.mem_of_getElem? (i := 65) rfl))) rfl
theorem mlJ_coder : Cond.methodLink "java/lang/String" 335 yJ0_coder_7d493 ∈ TB := tb_mem (tb_tab (tt_1 (List.mem_of_getElem? (i := 59) rfl))) rfl
theorem mlJ_isLatin1 : Cond.methodLink "java/lang/String" 492 yJ0_isLatin1_aae02 ∈ TB := tb_mem (tb_tab (tt_1 (List.mem_of_getElem? (i := 69) rfl))) rfl
theorem mlJ_l1 : Cond.methodLink "java/lang/String" 495 yJ1_charAt_3b067 ∈ TB := tb_mem (tb_tab (tt_1 (List.mem_of_getElem? (i := 73) rfl))) rfl
theorem mlJ_scheck : Cond.methodLink "java/lang/StringLatin1" 9 yJ0_checkIndex_df160 ∈ TB := tb_mem (tb_tab (tt_1 (List.mem_of_getElem? (i := 76) rfl))) rfl
theorem mlJ_pcheck : Cond.methodLink "java/lang/String" 1059 yJ3_checkIndex_8e157 ∈ TB := tb_mem (tb_tab (tt_1 (List.mem_of_getElem? (i := 81) rfl))) rfl
theorem fkJ_38 : Cond.fieldLink "java/lang/String" 38 "java/lang/String" "COMPACT_STRINGS" "Z" ∈ TB := tb_mem (tb_tab (tt_1 (List.mem_of_getElem? (i := 63) rfl))) rfl
theorem fkJ_15 : Cond.fieldLink "java/lang/String" 15 "java/lang/String" "coder" "B" ∈ TB := tb_mem (tb_tab (tt_9 (List.mem_of_getElem? (i := 95) rfl))) rfl
theorem fkJ_9 : Cond.fieldLink "java/lang/String" 9 "java/lang/String" "value" "[B" ∈ TB := tb_mem (tb_tab (tt_9 (List.mem_of_getElem? (i := 94) rfl))) rfl
theorem fkJ_1053 : Cond.fieldLink "java/lang/String" 1053 "jdk/internal/util/Preconditions" "SIOOBE_FORMATTER" "Ljava/util/function/BiFunction;" ∈ TB := tb_mem (tb_tab (tt_1 (List.mem_of_getElem? (i := 79) rfl))) rfl
theorem dJ0_length_8abf5_0 : decode cJ0_length_8abf5 0 = .ok (.aload_n 0, 1) := by decide +kernel
theorem dJ0_length_8abf5_1 : decode cJ0_length_8abf5 1 = .ok (.getfield 9, 3) := by decide +kernel
theorem dJ0_length_8abf5_4 : decode cJ0_length_8abf5 4 = .ok (.arraylength, 1) := by decide +kernel
theorem dJ0_length_8abf5_5 : decode cJ0_length_8abf5 5 = .ok (.aload_n 0, 1) := by decide +kernel
theorem dJ0_length_8abf5_6 : decode cJ0_length_8abf5 6 = .ok (.invokevirtual 335, 3) := by decide +kernel
theorem dJ0_length_8abf5_9 : decode cJ0_length_8abf5 9 = .ok (.ishr, 1) := by decide +kernel
theorem dJ0_length_8abf5_10 : decode cJ0_length_8abf5 10 = .ok (.ireturn, 1) := by decide +kernel
theorem dJ0_charAt_5068e_0 : decode cJ0_charAt_5068e 0 = .ok (.aload_n 0, 1) := by decide +kernel
theorem dJ0_charAt_5068e_1 : decode cJ0_charAt_5068e 1 = .ok (.invokevirtual 492, 3) := by decide +kernel
theorem dJ0_charAt_5068e_4 : decode cJ0_charAt_5068e 4 = .ok (.ifCond .eq 12, 3) := by decide +kernel
theorem dJ0_charAt_5068e_7 : decode cJ0_charAt_5068e 7 = .ok (.aload_n 0, 1) := by decide +kernel
theorem dJ0_charAt_5068e_8 : decode cJ0_charAt_5068e 8 = .ok (.getfield 9, 3) := by decide +kernel
theorem dJ0_charAt_5068e_11 : decode cJ0_charAt_5068e 11 = .ok (.iload_n 1, 1) := by decide +kernel
theorem dJ0_charAt_5068e_12 : decode cJ0_charAt_5068e 12 = .ok (.invokestatic 495, 3) := by decide +kernel
theorem dJ0_charAt_5068e_15 : decode cJ0_charAt_5068e 15 = .ok (.ireturn, 1) := by decide +kernel
theorem dJ0_charAt_5068e_16 : decode cJ0_charAt_5068e 16 = .ok (.aload_n 0, 1) := by decide +kernel
theorem dJ0_charAt_5068e_17 : decode cJ0_charAt_5068e 17 = .ok (.getfield 9, 3) := by decide +kernel
theorem dJ0_charAt_5068e_20 : decode cJ0_charAt_5068e 20 = .ok (.iload_n 1, 1) := by decide +kernel
theorem dJ0_charAt_5068e_21 : decode cJ0_charAt_5068e 21 = .ok (.invokestatic 498, 3) := by decide +kernel
theorem dJ0_charAt_5068e_24 : decode cJ0_charAt_5068e 24 = .ok (.ireturn, 1) := by decide +kernel
theorem dJ0_coder_7d493_0 : decode cJ0_coder_7d493 0 = .ok (.getstatic 38, 3) := by decide +kernel
theorem dJ0_coder_7d493_3 : decode cJ0_coder_7d493 3 = .ok (.ifCond .eq 10, 3) := by decide +kernel
theorem dJ0_coder_7d493_6 : decode cJ0_coder_7d493 6 = .ok (.aload_n 0, 1) := by decide +kernel
theorem dJ0_coder_7d493_7 : decode cJ0_coder_7d493 7 = .ok (.getfield 15, 3) := by decide +kernel
theorem dJ0_coder_7d493_10 : decode cJ0_coder_7d493 10 = .ok (.goto 4, 3) := by decide +kernel
theorem dJ0_coder_7d493_13 : decode cJ0_coder_7d493 13 = .ok (.iconst 1, 1) := by decide +kernel
theorem dJ0_coder_7d493_14 : decode cJ0_coder_7d493 14 = .ok (.ireturn, 1) := by decide +kernel
theorem dJ0_isLatin1_aae02_0 : decode cJ0_isLatin1_aae02 0 = .ok (.getstatic 38, 3) := by decide +kernel
theorem dJ0_isLatin1_aae02_3 : decode cJ0_isLatin1_aae02 3 = .ok (.ifCond .eq 14, 3) := by decide +kernel
theorem dJ0_isLatin1_aae02_6 : decode cJ0_isLatin1_aae02 6 = .ok (.aload_n 0, 1) := by decide +kernel
theorem dJ0_isLatin1_aae02_7 : decode cJ0_isLatin1_aae02 7 = .ok (.getfield 15, 3) := by decide +kernel
theorem dJ0_isLatin1_aae02_10 : decode cJ0_isLatin1_aae02 10 = .ok (.ifCond .ne 7, 3) := by decide +kernel
theorem dJ0_isLatin1_aae02_13 : decode cJ0_isLatin1_aae02 13 = .ok (.iconst 1, 1) := by decide +kernel
theorem dJ0_isLatin1_aae02_14 : decode cJ0_isLatin1_aae02 14 = .ok (.goto 4, 3) := by decide +kernel
theorem dJ0_isLatin1_aae02_17 : decode cJ0_isLatin1_aae02 17 = .ok (.iconst 0, 1) := by decide +kernel
theorem dJ0_isLatin1_aae02_18 : decode cJ0_isLatin1_aae02 18 = .ok (.ireturn, 1) := by decide +kernel
theorem dJ0_checkIndex_df160_0 : decode cJ0_checkIndex_df160 0 = .ok (.iload_n 0, 1) := by decide +kernel
theorem dJ0_checkIndex_df160_1 : decode cJ0_checkIndex_df160 1 = .ok (.iload_n 1, 1) := by decide +kernel
theorem dJ0_checkIndex_df160_2 : decode cJ0_checkIndex_df160 2 = .ok (.getstatic 1053, 3) := by decide +kernel
theorem dJ0_checkIndex_df160_5 : decode cJ0_checkIndex_df160 5 = .ok (.invokestatic 1059, 3) := by decide +kernel
theorem dJ0_checkIndex_df160_8 : decode cJ0_checkIndex_df160 8 = .ok (.pop, 1) := by decide +kernel
theorem dJ0_checkIndex_df160_9 : decode cJ0_checkIndex_df160 9 = .ok (.return_, 1) := by decide +kernel
theorem dJ1_charAt_3b067_0 : decode cJ1_charAt_3b067 0 = .ok (.iload_n 1, 1) := by decide +kernel
theorem dJ1_charAt_3b067_1 : decode cJ1_charAt_3b067 1 = .ok (.aload_n 0, 1) := by decide +kernel
theorem dJ1_charAt_3b067_2 : decode cJ1_charAt_3b067 2 = .ok (.arraylength, 1) := by decide +kernel
theorem dJ1_charAt_3b067_3 : decode cJ1_charAt_3b067 3 = .ok (.invokestatic 9, 3) := by decide +kernel
theorem dJ1_charAt_3b067_6 : decode cJ1_charAt_3b067 6 = .ok (.aload_n 0, 1) := by decide +kernel
theorem dJ1_charAt_3b067_7 : decode cJ1_charAt_3b067 7 = .ok (.iload_n 1, 1) := by decide +kernel
theorem dJ1_charAt_3b067_8 : decode cJ1_charAt_3b067 8 = .ok (.baload, 1) := by decide +kernel
theorem dJ1_charAt_3b067_9 : decode cJ1_charAt_3b067 9 = .ok (.sipush 255, 3) := by decide +kernel
theorem dJ1_charAt_3b067_12 : decode cJ1_charAt_3b067 12 = .ok (.iand, 1) := by decide +kernel
theorem dJ1_charAt_3b067_13 : decode cJ1_charAt_3b067 13 = .ok (.i2c, 1) := by decide +kernel
theorem dJ1_charAt_3b067_14 : decode cJ1_charAt_3b067 14 = .ok (.ireturn, 1) := by decide +kernel
theorem dJ3_checkIndex_8e157_0 : decode cJ3_checkIndex_8e157 0 = .ok (.iload_n 0, 1) := by decide +kernel
theorem dJ3_checkIndex_8e157_1 : decode cJ3_checkIndex_8e157 1 = .ok (.ifCond .lt 8, 3) := by decide +kernel
theorem dJ3_checkIndex_8e157_4 : decode cJ3_checkIndex_8e157 4 = .ok (.iload_n 0, 1) := by decide +kernel
theorem dJ3_checkIndex_8e157_5 : decode cJ3_checkIndex_8e157 5 = .ok (.iload_n 1, 1) := by decide +kernel
theorem dJ3_checkIndex_8e157_6 : decode cJ3_checkIndex_8e157 6 = .ok (.if_icmp .lt 10, 3) := by decide +kernel
theorem dJ3_checkIndex_8e157_9 : decode cJ3_checkIndex_8e157 9 = .ok (.aload_n 2, 1) := by decide +kernel
theorem dJ3_checkIndex_8e157_10 : decode cJ3_checkIndex_8e157 10 = .ok (.iload_n 0, 1) := by decide +kernel
theorem dJ3_checkIndex_8e157_11 : decode cJ3_checkIndex_8e157 11 = .ok (.iload_n 1, 1) := by decide +kernel
theorem dJ3_checkIndex_8e157_12 : decode cJ3_checkIndex_8e157 12 = .ok (.invokestatic 95, 3) := by decide +kernel
theorem dJ3_checkIndex_8e157_15 : decode cJ3_checkIndex_8e157 15 = .ok (.athrow, 1) := by decide +kernel
theorem dJ3_checkIndex_8e157_16 : decode cJ3_checkIndex_8e157 16 = .ok (.iload_n 0, 1) := by decide +kernel
theorem dJ3_checkIndex_8e157_17 : decode cJ3_checkIndex_8e157 17 = .ok (.ireturn, 1) := by decide +kernel
theorem tJ_coder (l : Launch) (K V : Nat) (f : Option Nat) : MY l K V f yJ0_coder_7d493 cJ0_coder_7d493 1 (some .byte) 0 [.ref K] (some (.int 0)) := by
  refine my_start (by decide) (Nat.le_of_ble_eq_true rfl) (fun G X => ?_)
  refine y_cmp (pc := 0) X.1 X.2.1 dJ0_coder_7d493_0 fkJ_38 ?_
  refine w_if_eq (pc := 3) 13 X.1 dJ0_coder_7d493_3 rfl (fun c => absurd c (by decide)) (fun _ => ?_)
  refine w_aload_n (pc := 6) 0 X.1 dJ0_coder_7d493_6 rfl ?_
  refine y_getc (pc := 7) X.1 X.2.1 dJ0_coder_7d493_7 fkJ_15 ?_
  refine w_goto (pc := 10) 14 X.1 dJ0_coder_7d493_10 rfl ?_
  exact y_ret (pc := 14) X dJ0_coder_7d493_14 rfl rfl
theorem tJ_length (l : Launch) (K V : Nat) (f : Option Nat) : MY l K V f yJ0_length_8abf5 cJ0_length_8abf5 1 (some .int) 1 [.ref K] (some (.int 144)) := by
  refine my_start (by decide) (Nat.le_of_ble_eq_true rfl) (fun G X => ?_)
  refine w_aload_n (pc := 0) 0 X.1 dJ0_length_8abf5_0 rfl ?_
  refine y_getv (pc := 1) X.1 X.2.1 dJ0_length_8abf5_1 fkJ_9 ?_
  refine y_len (pc := 4) X.1 X.2.1 dJ0_length_8abf5_4 ?_
  refine w_aload_n (pc := 5) 0 X.1 dJ0_length_8abf5_5 rfl ?_
  refine y_callV (pc := 6) (As := []) (rest := [.int 144]) Sta_T X.1 X.2.1 (by rw [X.2.2.1]; exact ⟨Nat.le_refl _, Nat.le_refl _, Nat.zero_le _, Nat.zero_le _⟩) dJ0_length_8abf5_6 mlJ_coder ck_J0_coder_7d493 cv_J0_coder_7d493 rfl rfl (Nat.le_of_ble_eq_true rfl) rfl (tJ_coder l K V f) ?_
  refine y_ishr (pc := 9) X.1 dJ0_length_8abf5_9 ?_
  exact y_ret (pc := 10) X dJ0_length_8abf5_10 (by decide) rfl
theorem tJ_isLatin1 (l : Launch) (K V : Nat) (f : Option Nat) : MY l K V f yJ0_isLatin1_aae02 cJ0_isLatin1_aae02 1 (some .boolean) 0 [.ref K] (some (.int 1)) := by
  refine my_start (by decide) (Nat.le_of_ble_eq_true rfl) (fun G X => ?_)
  refine y_cmp (pc := 0) X.1 X.2.1 dJ0_isLatin1_aae02_0 fkJ_38 ?_
  refine w_if_eq (pc := 3) 17 X.1 dJ0_isLatin1_aae02_3 rfl (fun c => absurd c (by decide)) (fun _ => ?_)
  refine w_aload_n (pc := 6) 0 X.1 dJ0_isLatin1_aae02_6 rfl ?_
  refine y_getc (pc := 7) X.1 X.2.1 dJ0_isLatin1_aae02_7 fkJ_15 ?_
  refine w_if_ne (pc := 10) 17 X.1 dJ0_isLatin1_aae02_10 rfl (fun c => absurd rfl c) (fun _ => ?_)
  refine w_iconst (pc := 13) 1 X.1 dJ0_isLatin1_aae02_13 rfl ?_
  refine w_goto (pc := 14) 18 X.1 dJ0_isLatin1_aae02_14 rfl ?_
  exact y_ret (pc := 18) X dJ0_isLatin1_aae02_18 rfl rfl
theorem tJ_pcheck (l : Launch) (K V : Nat) (f : Option Nat) (i : Int32) (h0 : ¬ i < 0) (h1 : i < 144) : MY l K V f yJ3_checkIndex_8e157 cJ3_checkIndex_8e157 3 (some .int) 0 [.int i, .int 144, fv f] (some (.int i)) := by
  refine my_start (by decide) (by cases f <;> exact Nat.le_of_ble_eq_true rfl) (fun G X => ?_)
  refine w_iload_n (pc := 0) 0 X.1 dJ3_checkIndex_8e157_0 rfl ?_
  refine y_if_lt (pc := 1) 9 X.1 dJ3_checkIndex_8e157_1 rfl (fun c => absurd c h0) (fun _ => ?_)
  refine w_iload_n (pc := 4) 0 X.1 dJ3_checkIndex_8e157_4 rfl ?_
  refine w_iload_n (pc := 5) 1 X.1 dJ3_checkIndex_8e157_5 rfl ?_
  refine w_icmp_lt (pc := 6) 16 X.1 dJ3_checkIndex_8e157_6 rfl (fun _ => ?_) (fun c => absurd h1 c)
  refine w_iload_n (pc := 16) 0 X.1 dJ3_checkIndex_8e157_16 rfl ?_
  exact y_ret (pc := 17) X dJ3_checkIndex_8e157_17 rfl rfl
theorem tJ_scheck (l : Launch) (K V : Nat) (f : Option Nat) (i : Int32) (h0 : ¬ i < 0) (h1 : i < 144) : MY l K V f yJ0_checkIndex_df160 cJ0_checkIndex_df160 2 none 1 [.int i, .int 144] none := by
  refine my_start (by decide) (Nat.le_of_ble_eq_true rfl) (fun G X => ?_)
  refine w_iload_n (pc := 0) 0 X.1 dJ0_checkIndex_df160_0 rfl ?_
  refine w_iload_n (pc := 1) 1 X.1 dJ0_checkIndex_df160_1 rfl ?_
  refine y_fmt (pc := 2) X.1 X.2.1 dJ0_checkIndex_df160_2 fkJ_1053 ?_
  refine y_callS (pc := 5) (As := [.int i, .int 144, fv f]) (rest := []) Sta_T X.1 X.2.1 (by rw [X.2.2.1]; exact ⟨Nat.le_refl _, Nat.le_refl _, Nat.zero_le _, Nat.zero_le _⟩) dJ0_checkIndex_df160_5 mlJ_pcheck ck_J3_checkIndex_8e157 sk_J3_checkIndex_8e157 rfl (Nat.le_of_ble_eq_true rfl) rfl (tJ_pcheck l K V f i h0 h1) ?_
  refine y_pop (pc := 8) X.1 dJ0_checkIndex_df160_8 rfl ?_
  exact y_vret (pc := 9) X dJ0_checkIndex_df160_9
theorem wby_c : ∀ k, k < 144 → ((wby.getD k 0 &&& 255).toUInt32 % 65536).toInt32 = wby.getD k 0 ∧ (wby.getD k 0).toUInt32.toUInt16.toUInt32.toInt32 = wby.getD k 0 := by decide +kernel
theorem wby_n {k : Nat} (h : k < 144) : narrow .char (.int (wby.getD k 0)) = .int (wby.getD k 0) := congrArg Value.int (wby_c k h).2
theorem i144_0 {k : Nat} (h : k < 144) : ¬ nI k < 0 := by
  have e : (nI k).toInt = (k : Int) := nI_toInt (by omega)
  intro c
  have := Int32.lt_iff_toInt_lt.mp c
  rw [e] at this
  have z : (0 : Int32).toInt = 0 := rfl
  omega
theorem i144_1 {k : Nat} (h : k < 144) : nI k < 144 := by
  rw [Int32.lt_iff_toInt_lt, nI_toInt (by omega)]
  have z : (144 : Int32).toInt = 144 := rfl
  omega
theorem tJ_l1 (l : Launch) (K V : Nat) (f : Option Nat) (k : Nat) (hk : k < 144) : MY l K V f yJ1_charAt_3b067 cJ1_charAt_3b067 2 (some .char) 2 [.ref V, .int (nI k)] (some (.int (wby.getD k 0))) := by
  refine my_start (by decide) (Nat.le_of_ble_eq_true rfl) (fun G X => ?_)
  refine w_iload_n (pc := 0) 1 X.1 dJ1_charAt_3b067_0 rfl ?_
  refine w_aload_n (pc := 1) 0 X.1 dJ1_charAt_3b067_1 rfl ?_
  refine y_len (pc := 2) X.1 X.2.1 dJ1_charAt_3b067_2 ?_
  refine y_callS (pc := 3) (As := [.int (nI k), .int 144]) (rest := []) Sta_T X.1 X.2.1 (by rw [X.2.2.1]; exact ⟨Nat.le_refl _, Nat.le_refl _, Nat.zero_le _, Nat.zero_le _⟩) dJ1_charAt_3b067_3 mlJ_scheck ck_J0_checkIndex_df160 sk_J0_checkIndex_df160 rfl (Nat.le_of_ble_eq_true rfl) rfl (tJ_scheck l K V f (nI k) (i144_0 hk) (i144_1 hk)) ?_
  refine w_aload_n (pc := 6) 0 X.1 dJ1_charAt_3b067_6 rfl ?_
  refine w_iload_n (pc := 7) 1 X.1 dJ1_charAt_3b067_7 rfl ?_
  refine y_bald (pc := 8) X.1 X.2.1 dJ1_charAt_3b067_8 (nI_inb hk (by decide)) ?_
  rw [nI_ix (show k < 2 ^ 31 by omega)]
  refine w_sipush (pc := 9) 255 X.1 dJ1_charAt_3b067_9 rfl ?_
  refine w_iand (pc := 12) X.1 dJ1_charAt_3b067_12 ?_
  refine y_i2c (pc := 13) X.1 dJ1_charAt_3b067_13 ?_
  exact y_ret (pc := 14) X dJ1_charAt_3b067_14 (wby_c k hk).1 (wby_n hk)
theorem tJ_charAt (l : Launch) (K V : Nat) (f : Option Nat) (k : Nat) (hk : k < 144) : MY l K V f yJ0_charAt_5068e cJ0_charAt_5068e 2 (some .char) 3 [.ref K, .int (nI k)] (some (.int (wby.getD k 0))) := by
  refine my_start (by decide) (Nat.le_of_ble_eq_true rfl) (fun G X => ?_)
  refine w_aload_n (pc := 0) 0 X.1 dJ0_charAt_5068e_0 rfl ?_
  refine y_callV (pc := 1) (n' := 0) (As := []) (rest := []) Sta_T X.1 X.2.1 (by rw [X.2.2.1]; exact ⟨Nat.le_of_ble_eq_true rfl, Nat.le_of_ble_eq_true rfl, Nat.zero_le _, Nat.zero_le _⟩) dJ0_charAt_5068e_1 mlJ_isLatin1 ck_J0_isLatin1_aae02 cv_J0_isLatin1_aae02 rfl rfl (Nat.le_of_ble_eq_true rfl) rfl (tJ_isLatin1 l K V f) ?_
  refine w_if_eq (pc := 4) 16 X.1 dJ0_charAt_5068e_4 rfl (fun c => absurd c (by decide)) (fun _ => ?_)
  refine w_aload_n (pc := 7) 0 X.1 dJ0_charAt_5068e_7 rfl ?_
  refine y_getv (pc := 8) X.1 X.2.1 dJ0_charAt_5068e_8 fkJ_9 ?_
  refine w_iload_n (pc := 11) 1 X.1 dJ0_charAt_5068e_11 rfl ?_
  refine y_callS (pc := 12) (As := [.ref V, .int (nI k)]) (rest := []) Sta_T X.1 X.2.1 (by rw [X.2.2.1]; exact ⟨Nat.le_refl _, Nat.le_refl _, Nat.zero_le _, Nat.zero_le _⟩) dJ0_charAt_5068e_12 mlJ_l1 ck_J1_charAt_3b067 sk_J1_charAt_3b067 rfl (Nat.le_of_ble_eq_true rfl) rfl (tJ_l1 l K V f k hk) ?_
  exact y_ret (pc := 15) X dJ0_charAt_5068e_15 rfl (wby_n hk)
