section RULES2
variable {Z : ZT} {G : GT} {cc : ByteArray} {own : String} {nL n : Nat} {h : Hp} {pc : Nat} {lv : List (Nat × Value)} {st : List Value} {ρ : Type} {res : ρ}
theorem j_cVi {y : MethodName} {cc' : ByteArray} {mL np n' k ci idx : Nat} {ret : Option FieldType} {As rest : List Value} {fs : List (Option Nat)} {TT : u_T} {N : Nat} {o : Option (Int32 × Hp)} {f : Int32 → Hp → Option ρ} (X : CX Z G cc own nL n) (d : decode cc pc = .ok (.invokevirtual idx, 3)) (hm : Cond.methodLink own idx y ∈ TB) (hc : CK y cc' mL ret np) (hv : CV y) (hk : (k, .inl (ci, fs)) ∈ Z.2.2.2.2) (hci : vwCl[ci]? = some (y.cls, TT, N)) (hn : n' + 1 ≤ n) (hAs : As.length = np) (hrest : (rest.map fun v => v.category).sum ≤ 8) (hst : st = As.reverse ++ .ref (Z.2.1 k) :: rest)
    (hF : bi o f = some res) (hM : ∀ r h', o = some (r, h') → MC Z y cc' mL ret n' (.ref (Z.2.1 k) :: As) h (some (.int r)) h') (kk : ∀ r h', f r h' = some res → J Z G nL h' (pc + 3) lv (.int r :: rest)) : J Z G nL h pc lv st := by
  obtain ⟨r, h1, e, hF⟩ := bi_el hF
  exact j_callV X d hm hc hv hk hci hn hAs hrest hst (hM r h1 e) (kk r h1 hF)
theorem j_cVl {y : MethodName} {cc' : ByteArray} {mL np n' k ci idx : Nat} {ret : Option FieldType} {As rest : List Value} {fs : List (Option Nat)} {TT : u_T} {N : Nat} {o : Option (Int64 × Hp)} {f : Int64 → Hp → Option ρ} (X : CX Z G cc own nL n) (d : decode cc pc = .ok (.invokevirtual idx, 3)) (hm : Cond.methodLink own idx y ∈ TB) (hc : CK y cc' mL ret np) (hv : CV y) (hk : (k, .inl (ci, fs)) ∈ Z.2.2.2.2) (hci : vwCl[ci]? = some (y.cls, TT, N)) (hn : n' + 1 ≤ n) (hAs : As.length = np) (hrest : (rest.map fun v => v.category).sum ≤ 8) (hst : st = As.reverse ++ .ref (Z.2.1 k) :: rest)
    (hF : bi o f = some res) (hM : ∀ r h', o = some (r, h') → MC Z y cc' mL ret n' (.ref (Z.2.1 k) :: As) h (some (.long r)) h') (kk : ∀ r h', f r h' = some res → J Z G nL h' (pc + 3) lv (.long r :: rest)) : J Z G nL h pc lv st := by
  obtain ⟨r, h1, e, hF⟩ := bi_el hF
  exact j_callV X d hm hc hv hk hci hn hAs hrest hst (hM r h1 e) (kk r h1 hF)
theorem j_cVv {y : MethodName} {cc' : ByteArray} {mL np n' k ci idx : Nat} {ret : Option FieldType} {As rest : List Value} {fs : List (Option Nat)} {TT : u_T} {N : Nat} {o : Option Hp} {f : Hp → Option ρ} (X : CX Z G cc own nL n) (d : decode cc pc = .ok (.invokevirtual idx, 3)) (hm : Cond.methodLink own idx y ∈ TB) (hc : CK y cc' mL ret np) (hv : CV y) (hk : (k, .inl (ci, fs)) ∈ Z.2.2.2.2) (hci : vwCl[ci]? = some (y.cls, TT, N)) (hn : n' + 1 ≤ n) (hAs : As.length = np) (hrest : (rest.map fun v => v.category).sum ≤ 8) (hst : st = As.reverse ++ .ref (Z.2.1 k) :: rest)
    (hF : bv o f = some res) (hM : ∀ h', o = some h' → MC Z y cc' mL ret n' (.ref (Z.2.1 k) :: As) h none h') (kk : ∀ h', f h' = some res → J Z G nL h' (pc + 3) lv rest) : J Z G nL h pc lv st := by
  obtain ⟨h1, e, hF⟩ := bv_el hF
  exact j_callV X d hm hc hv hk hci hn hAs hrest hst (hM h1 e) (kk h1 hF)
theorem j_cSi {y : MethodName} {cc' : ByteArray} {mL np n' idx : Nat} {ret : Option FieldType} {As rest : List Value} {o : Option (Int32 × Hp)} {f : Int32 → Hp → Option ρ} (X : CX Z G cc own nL n) (d : decode cc pc = .ok (.invokestatic idx, 3)) (hm : Cond.methodLink own idx y ∈ TB) (hc : CK y cc' mL ret np) (hv : Cond.static y ∈ TB) (hn : n' + 1 ≤ n) (hAs : As.length = np) (hrest : (rest.map fun v => v.category).sum ≤ 8) (hst : st = As.reverse ++ rest)
    (hF : bi o f = some res) (hM : ∀ r h', o = some (r, h') → MC Z y cc' mL ret n' As h (some (.int r)) h') (kk : ∀ r h', f r h' = some res → J Z G nL h' (pc + 3) lv (.int r :: rest)) : J Z G nL h pc lv st := by
  obtain ⟨r, h1, e, hF⟩ := bi_el hF
  exact j_callS X d hm hc hv hn hAs hrest hst (hM r h1 e) (kk r h1 hF)
theorem j_cSl {y : MethodName} {cc' : ByteArray} {mL np n' idx : Nat} {ret : Option FieldType} {As rest : List Value} {o : Option (Int64 × Hp)} {f : Int64 → Hp → Option ρ} (X : CX Z G cc own nL n) (d : decode cc pc = .ok (.invokestatic idx, 3)) (hm : Cond.methodLink own idx y ∈ TB) (hc : CK y cc' mL ret np) (hv : Cond.static y ∈ TB) (hn : n' + 1 ≤ n) (hAs : As.length = np) (hrest : (rest.map fun v => v.category).sum ≤ 8) (hst : st = As.reverse ++ rest)
    (hF : bi o f = some res) (hM : ∀ r h', o = some (r, h') → MC Z y cc' mL ret n' As h (some (.long r)) h') (kk : ∀ r h', f r h' = some res → J Z G nL h' (pc + 3) lv (.long r :: rest)) : J Z G nL h pc lv st := by
  obtain ⟨r, h1, e, hF⟩ := bi_el hF
  exact j_callS X d hm hc hv hn hAs hrest hst (hM r h1 e) (kk r h1 hF)
theorem j_cSv {y : MethodName} {cc' : ByteArray} {mL np n' idx : Nat} {ret : Option FieldType} {As rest : List Value} {o : Option Hp} {f : Hp → Option ρ} (X : CX Z G cc own nL n) (d : decode cc pc = .ok (.invokestatic idx, 3)) (hm : Cond.methodLink own idx y ∈ TB) (hc : CK y cc' mL ret np) (hv : Cond.static y ∈ TB) (hn : n' + 1 ≤ n) (hAs : As.length = np) (hrest : (rest.map fun v => v.category).sum ≤ 8) (hst : st = As.reverse ++ rest)
    (hF : bv o f = some res) (hM : ∀ h', o = some h' → MC Z y cc' mL ret n' As h none h') (kk : ∀ h', f h' = some res → J Z G nL h' (pc + 3) lv rest) : J Z G nL h pc lv st := by
  obtain ⟨h1, e, hF⟩ := bv_el hF
  exact j_callS X d hm hc hv hn hAs hrest hst (hM h1 e) (kk h1 hF)
theorem j_ldc {idx : Nat} {v : Int32} (X : CX Z G cc own nL n) (d : decode cc pc = .ok (.ldc idx, 2)) (hc : Cond.constant own idx v ∈ TB) (k : J Z G nL h (pc + 2) lv (.int v :: st)) : J Z G nL h pc lv st := fun H locs ls hP hS hl => lv_ldc X.1 X.2.1 X.2.2.2.1 (X.2.2.2.2.1 _ hc) d (k H locs ls hP hS hl)
theorem j_ldc_w {idx : Nat} {v : Int32} (X : CX Z G cc own nL n) (d : decode cc pc = .ok (.ldc_w idx, 3)) (hc : Cond.constant own idx v ∈ TB) (k : J Z G nL h (pc + 3) lv (.int v :: st)) : J Z G nL h pc lv st := fun H locs ls hP hS hl => lv_ldcw X.1 X.2.1 X.2.2.2.1 (X.2.2.2.2.1 _ hc) d (k H locs ls hP hS hl)
theorem j_ldc2_w {idx : Nat} {v : Int64} (X : CX Z G cc own nL n) (d : decode cc pc = .ok (.ldc2_w idx, 3)) (hc : Cond.constantLong own idx v ∈ TB) (k : J Z G nL h (pc + 3) lv (.long v :: st)) : J Z G nL h pc lv st := fun H locs ls hP hS hl => lv_ldc2 X.1 X.2.1 X.2.2.2.1 (X.2.2.2.2.1 _ hc) d (k H locs ls hP hS hl)
theorem j_tab {dflt lo hi : Int} {offs : Array Int} {len tgt : Nat} {x : Int32} {A B : Option ρ} (X : CX Z G cc own nL n) (d : decode cc pc = .ok (.tableswitch dflt lo hi offs, len)) (ht : (pc : Int) + dflt = (tgt : Int)) (hF : (if x.toInt < lo ∨ hi < x.toInt then A else B) = some res) (kt : A = some res → J Z G nL h tgt lv st) (kf : B = some res → J Z G nL h pc lv (.int x :: st)) : J Z G nL h pc lv (.int x :: st) := fun H locs ls hP hS hl => by
  by_cases c : x.toInt < lo ∨ hi < x.toInt
  · exact lv_tableOut X.1 X.2.1 d c ht (kt ((if_pos c).symm.trans hF) H locs ls hP hS hl)
  · exact kf ((if_neg c).symm.trans hF) H locs ls hP hS hl
theorem j_tabi {dflt lo hi off : Int} {offs : Array Int} {len tgt : Nat} {x v : Int32} {A B : Option ρ} (X : CX Z G cc own nL n) (d : decode cc pc = .ok (.tableswitch dflt lo hi offs, len)) (h1 : decide (v.toInt < lo) = false) (h2 : decide (hi < v.toInt) = false) (ho : offs[(v.toInt - lo).toNat]? = some off) (ht : (pc : Int) + off = (tgt : Int)) (hF : (if x = v then A else B) = some res) (kt : A = some res → J Z G nL h tgt lv st) (kf : B = some res → J Z G nL h pc lv (.int x :: st)) : J Z G nL h pc lv (.int x :: st) := fun H locs ls hP hS hl => by
  by_cases c : x = v
  · have hF2 : A = some res := (if_pos c).symm.trans hF
    subst c
    exact lv_tableIn X.1 X.2.1 d (of_decide_eq_false h1) (of_decide_eq_false h2) ho ht (kt hF2 H locs ls hP hS hl)
  · exact kf ((if_neg c).symm.trans hF) H locs ls hP hS hl
theorem j_lki {dflt off : Int} {ps : Array (Int × Int)} {len tgt : Nat} {x v : Int32} {A B : Option ρ} (X : CX Z G cc own nL n) (d : decode cc pc = .ok (.lookupswitch dflt ps, len)) (hp : (ps.toList.zip (ps.toList.drop 1)).all (fun (a, next) => a.1 < next.1) = true) (ho : Op.lookupswitch.offset ps.toList dflt v.toInt = off) (ht : (pc : Int) + off = (tgt : Int)) (hF : (if x = v then A else B) = some res) (kt : A = some res → J Z G nL h tgt lv st) (kf : ¬ x = v → B = some res → J Z G nL h pc lv (.int x :: st)) : J Z G nL h pc lv (.int x :: st) := fun H locs ls hP hS hl => by
  by_cases c : x = v
  · have hF2 : A = some res := (if_pos c).symm.trans hF
    subst c
    exact lv_lookup X.1 X.2.1 d hp ho ht (kt hF2 H locs ls hP hS hl)
  · exact kf c ((if_neg c).symm.trans hF) H locs ls hP hS hl
theorem j_lkd {dflt : Int} {ps : Array (Int × Int)} {len tgt : Nat} {x : Int32} (X : CX Z G cc own nL n) (d : decode cc pc = .ok (.lookupswitch dflt ps, len)) (hp : (ps.toList.zip (ps.toList.drop 1)).all (fun (a, next) => a.1 < next.1) = true) (ho : Op.lookupswitch.offset ps.toList dflt x.toInt = dflt) (ht : (pc : Int) + dflt = (tgt : Int)) (kt : J Z G nL h tgt lv st) : J Z G nL h pc lv (.int x :: st) := fun H locs ls hP hS hl => lv_lookup X.1 X.2.1 d hp ho ht (kt H locs ls hP hS hl)
theorem j_cSNi {y : MethodName} {host : String} {cc' : ByteArray} {mL np n' idx : Nat} {ret : Option FieldType} {As rest : List Value} {o : Option (Int32 × Hp)} {f : Int32 → Hp → Option ρ} (X : CX Z G cc own nL n) (d : decode cc pc = .ok (.invokestatic idx, 3)) (hm : Cond.methodLinkNest own idx y host ∈ lw_tbl) (hc : CK y cc' mL ret np) (hv : Cond.static y ∈ TB) (hn : n' + 1 ≤ n) (hAs : As.length = np) (hrest : (rest.map fun v => v.category).sum ≤ 8) (hst : st = As.reverse ++ rest)
    (hF : bi o f = some res) (hM : ∀ r h', o = some (r, h') → MC Z y cc' mL ret n' As h (some (.int r)) h') (kk : ∀ r h', f r h' = some res → J Z G nL h' (pc + 3) lv (.int r :: rest)) : J Z G nL h pc lv st := by
  obtain ⟨r, h1, e, hF⟩ := bi_el hF
  exact j_callSN X d hm hc hv hn hAs hrest hst (hM r h1 e) (kk r h1 hF)
theorem j_cVr {y : MethodName} {cc' : ByteArray} {mL np n' k ci idx kr : Nat} {ret : Option FieldType} {As rest : List Value} {fs : List (Option Nat)} {TT : u_T} {N : Nat} {o : Option Hp} {f : Hp → Option ρ} (X : CX Z G cc own nL n) (d : decode cc pc = .ok (.invokevirtual idx, 3)) (hm : Cond.methodLink own idx y ∈ TB) (hc : CK y cc' mL ret np) (hv : CV y) (hk : (k, .inl (ci, fs)) ∈ Z.2.2.2.2) (hci : vwCl[ci]? = some (y.cls, TT, N)) (hn : n' + 1 ≤ n) (hAs : As.length = np) (hrest : (rest.map fun v => v.category).sum ≤ 8) (hst : st = As.reverse ++ .ref (Z.2.1 k) :: rest)
    (hF : bv o f = some res) (hM : ∀ h', o = some h' → MC Z y cc' mL ret n' (.ref (Z.2.1 k) :: As) h (some (.ref (Z.2.1 kr))) h') (kk : ∀ h', f h' = some res → J Z G nL h' (pc + 3) lv (.ref (Z.2.1 kr) :: rest)) : J Z G nL h pc lv st := by
  obtain ⟨h1, e, hF⟩ := bv_el hF
  exact j_callV X d hm hc hv hk hci hn hAs hrest hst (hM h1 e) (kk h1 hF)
theorem j_rret {x : Nat} {C : String} {h' : Hp} (X : CX Z G cc own nL n) (E : RX Z G (some (.object C)) (some (.ref (Z.2.1 x))) h') (d : decode cc pc = .ok (.areturn, 1)) (hF : (some h : Option Hp) = some h') : J Z G nL h pc lv [.ref (Z.2.1 x)] := j_aret (r := x) X E d (by cases hF; rfl)
theorem j_gfew {idx : Nat} (X : CX Z G cc own nL n) (d : decode cc pc = .ok (.getstatic idx, 3)) (hm : Cond.fieldLinkNest own idx "AfterOffice" "FEW_STARTS" "[I" "AfterOffice" ∈ lw_tbl) (kk : J Z G nL h (pc + 3) lv (.ref (Z.2.1 999) :: st)) : J Z G nL h pc lv st := fun H locs ls hP hS hl =>
  va_getsN X.1 X.2.1 X.2.2.2.2.2.2.2.2.2.1.1 hS X.2.2.2.1 (va_Nw.use rfl (X.2.2.2.2.2.2.2.2.2.1.2.2.2 _ _ _ _ _ _ hm)) (fun x hx => hx) d (kk H locs ls hP hS hl)
theorem j_fald {i : Int32} {o : Option ρ} (X : CX Z G cc own nL n) (d : decode cc pc = .ok (.iaload, 1)) (hF : ck (inb i 5) o = some res) (kk : o = some res → J Z G nL h (pc + 1) lv (.int (fsi (ix i)) :: st)) : J Z G nL h pc lv (.int i :: .ref (Z.2.1 999) :: st) := fun H locs ls hP hS hl =>
  va_ti X.1 X.2.1 X.2.2.2.2.2.2.2.2.2.1.2.1 hS (inb_in (ck_el hF).1) rfl d (kk (ck_el hF).2 H locs ls hP hS hl)
def cpI (h : Hp) (ks kd sp dp m : Nat) : Hp := (fun a b => if a = kd then va_cpy (h.1 ks) (h.1 kd) sp dp m b else h.1 a b, h.2)
def cpb (sp dp m : Int32) (n0 n1 : Nat) : Bool := decide (¬ sp < 0 ∧ ¬ dp < 0 ∧ ¬ m < 0 ∧ ix sp + ix m ≤ n0 ∧ ix dp + ix m ≤ n1)
theorem cpb_el {sp dp m : Int32} {n0 n1 : Nat} (h : cpb sp dp m n0 n1 = true) : ¬ sp < 0 ∧ ¬ dp < 0 ∧ ¬ m < 0 ∧ ix sp + ix m ≤ n0 ∧ ix dp + ix m ≤ n1 := by
  unfold cpb at h
  exact of_decide_eq_true h
theorem l40 {n : Nat} (h : 1 ≤ n) : 8 + 32 ≤ 40 * n := by omega
theorem nfw : nativeFrameWords "java/lang/System" "arraycopy" 5 + 11 ≤ 32 := by decide +kernel
theorem j_acp {ks kd n0 n1 idx : Nat} {sp dp m : Int32} {f : Hp → Option ρ} (X : CX Z G cc own nL n) (d : decode cc pc = .ok (.invokestatic idx, 3)) (hm : Cond.methodLink own idx arraycopyName ∈ TB) (hnat : Cond.native arraycopyName ∈ TB) (hstat : Cond.static arraycopyName ∈ TB) (hini : Cond.initialized "java/lang/System" ∈ TB) (h1n : 1 ≤ n) (hs : (ks, .inr (.inl (0, n0))) ∈ Z.2.2.2.2) (hd : (kd, .inr (.inl (0, n1))) ∈ Z.2.2.2.2) (hrest : (st.map fun v => v.category).sum ≤ 8)
    (hF : ck (cpb sp dp m n0 n1) (lt (cpI h ks kd (ix sp) (ix dp) (ix m)) f) = some res) (kk : ∀ h1, f h1 = some res → J Z G nL h1 (pc + 3) lv st) : J Z G nL h pc lv (.int m :: .int dp :: .ref (Z.2.1 kd) :: .int sp :: .ref (Z.2.1 ks) :: st) := fun H locs ls hP hS hl => by
  obtain ⟨p0, hp0, hw0⟩ := WD_at (q := Z.2.1) (cy := Z.2.2.2.1) (h := h) hs
  obtain ⟨p1, hp1, hw1⟩ := WD_at (q := Z.2.1) (cy := Z.2.2.2.1) (h := h) hd
  obtain ⟨c1, c2, c3, c4, c5⟩ := cpb_el (ck_el hF).1
  obtain ⟨hf1, hf2, hf3, hf4⟩ := X.2.2.2.2.2.2.2.1
  refine va_copyi X.1 X.2.1 (X.2.2.1.trans hl.1.symm) X.2.2.2.1 (X.2.2.2.2.1 _ hm) (X.2.2.2.2.1 _ hnat) (X.2.2.2.2.1 _ hstat) (X.2.2.2.2.1 _ hini) X.2.2.2.2.2.1 hP (WD_D X.2.2.2.2.2.2.2.2.2.2 X.2.2.2.2.2.2.1 X.2.2.2.2.2.2.2.2.1) hS p0 p1 0 0 hw0 hw1 rfl rfl rfl c1 c2 c3 c4 c5 (fun _ _ => rfl) (Nat.le_trans h1n hf1) (Nat.le_trans (Nat.add_le_add hrest nfw) (Nat.le_trans (l40 h1n) hf2)) d (fun H1 locs1 hP1 _ hS1 => ?_)
  refine kk _ (ck_el hF).2 H1 locs1 ls ?_ hS1 hl
  rw [← WD_set X.2.2.2.2.2.2.2.2.2.2 (q := Z.2.1) (cy := Z.2.2.2.1) (h := h) (h' := cpI h ks kd (ix sp) (ix dp) (ix m)) hp1 (fun a ha => ⟨by funext b; simp [cpI, ha], rfl⟩)]
  show va_P _ _ (List.set _ p1 (Z.2.1 kd, .inl (Z.2.2.2.1 0, n1, .inl ((cpI h ks kd (ix sp) (ix dp) (ix m)).1 kd)))) H1
  have e : (cpI h ks kd (ix sp) (ix dp) (ix m)).1 kd = va_cpy (h.1 ks) (h.1 kd) (ix sp) (ix dp) (ix m) := by funext b; simp [cpI]
  rw [e]
  exact hP1
theorem j_mmax {idx : Nat} {x y : Int32} (X : CX Z G cc own nL n) (d : decode cc pc = .ok (.invokestatic idx, 3)) (hm : Cond.methodLink own idx Lib.Math.max.name ∈ TB) (hw : Cond.static Lib.Math.max.name ∈ TB ∧ Cond.initialized "java/lang/Math" ∈ TB ∧ Cond.code Lib.Math.max.name Lib.Math.max.code 2 (some .int) ∈ TB) (h1n : 1 ≤ n) (hrest : (st.map fun v => v.category).sum ≤ 8) (kk : J Z G nL h (pc + 3) lv (.int (if x < y then y else x) :: st)) : J Z G nL h pc lv (.int y :: .int x :: st) := fun H locs ls hP hS hl => by
  obtain ⟨hf1, hf2, hf3, hf4⟩ := X.2.2.2.2.2.2.2.1
  exact va_mmax X.1 X.2.1 (X.2.2.1.trans hl.1.symm) X.2.2.2.1 (X.2.2.2.2.1 _ hm) (X.2.2.2.2.1 _ hw.1) (X.2.2.2.2.1 _ hw.2.1) (X.2.2.2.2.1 _ hw.2.2) (Nat.le_trans h1n hf1) (Nat.le_trans (Nat.add_le_add hrest (show 13 ≤ 32 by decide)) (Nat.le_trans (l40 h1n) hf2)) hf3 hf4 d (kk H locs ls hP hS hl)
theorem j_mmin {idx : Nat} {x y : Int32} (X : CX Z G cc own nL n) (d : decode cc pc = .ok (.invokestatic idx, 3)) (hm : Cond.methodLink own idx Lib.Math.min.name ∈ TB) (hw : Cond.static Lib.Math.min.name ∈ TB ∧ Cond.initialized "java/lang/Math" ∈ TB ∧ Cond.code Lib.Math.min.name Lib.Math.min.code 2 (some .int) ∈ TB) (h1n : 1 ≤ n) (hrest : (st.map fun v => v.category).sum ≤ 8) (kk : J Z G nL h (pc + 3) lv (.int (if y < x then y else x) :: st)) : J Z G nL h pc lv (.int y :: .int x :: st) := fun H locs ls hP hS hl => by
  obtain ⟨hf1, hf2, hf3, hf4⟩ := X.2.2.2.2.2.2.2.1
  exact va_mmin X.1 X.2.1 (X.2.2.1.trans hl.1.symm) X.2.2.2.1 (X.2.2.2.2.1 _ hm) (X.2.2.2.2.1 _ hw.1) (X.2.2.2.2.1 _ hw.2.1) (X.2.2.2.2.1 _ hw.2.2) (Nat.le_trans h1n hf1) (Nat.le_trans (Nat.add_le_add hrest (show 13 ≤ 32 by decide)) (Nat.le_trans (l40 h1n) hf2)) hf3 hf4 d (kk H locs ls hP hS hl)
end RULES2
def FU : Nat := 20000
